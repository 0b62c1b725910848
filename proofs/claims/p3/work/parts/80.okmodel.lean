/-! by program: what the reference's functions give, where no flow matters -/
theorem sh9 {x : Int32} (h1 : 2 ≤ x.toInt) (h2 : x.toInt ≤ 9) : 4 ≤ ((1 : Int32) <<< (x &&& 31)).toInt ∧ ((1 : Int32) <<< (x &&& 31)).toInt ≤ 512 := by
  rcases (show x.toInt = 2 ∨ x.toInt = 3 ∨ x.toInt = 4 ∨ x.toInt = 5 ∨ x.toInt = 6 ∨ x.toInt = 7 ∨ x.toInt = 8 ∨ x.toInt = 9 by omega) with h | h | h | h | h | h | h | h
  · rw [show x = 2 from Int32.toInt_inj.mp h]; decide
  · rw [show x = 3 from Int32.toInt_inj.mp h]; decide
  · rw [show x = 4 from Int32.toInt_inj.mp h]; decide
  · rw [show x = 5 from Int32.toInt_inj.mp h]; decide
  · rw [show x = 6 from Int32.toInt_inj.mp h]; decide
  · rw [show x = 7 from Int32.toInt_inj.mp h]; decide
  · rw [show x = 8 from Int32.toInt_inj.mp h]; decide
  · rw [show x = 9 from Int32.toInt_inj.mp h]; decide
theorem rem_iv {x y : Int32} (h1 : 0 ≤ x.toInt) (h2 : 0 < y.toInt) : 0 ≤ (x - x / y * y).toInt ∧ (x - x / y * y).toInt < y.toInt := by
  have hx := i32b (x := x)
  have hy := i32b (x := y)
  obtain ⟨u, hu⟩ : ∃ u : Nat, x.toInt = u := ⟨x.toInt.toNat, by omega⟩
  obtain ⟨v, hv⟩ : ∃ v : Nat, y.toInt = v := ⟨y.toInt.toNat, by omega⟩
  have h3 : u / v ≤ u := Nat.div_le_self u v
  have hm : u / v * v + u % v = u := Nat.div_add_mod' u v
  have hr := Nat.mod_lt u (show 0 < v by omega)
  have hq : (x / y).toInt = ((u / v : Nat) : Int) := by
    rw [Int32.toInt_div, hu, hv, ← Int.ofNat_tdiv]
    generalize u / v = q at *
    exact bmod32 (by omega) (by omega)
  generalize u / v = q at *
  generalize u % v = r at *
  obtain ⟨w, hw⟩ : ∃ w : Nat, w = q * v := ⟨_, rfl⟩
  rw [← hw] at hm
  have hp : (x / y * y).toInt = (w : Int) := by
    rw [Int32.toInt_mul, hq, hv]
    have e : (q : Int) * (v : Int) = (w : Int) := by rw [hw]; exact (Int.natCast_mul q v).symm
    rw [e]
    exact bmod32 (by omega) (by omega)
  generalize x / y * y = t at hp
  rw [sub_iv (by omega) (by omega)]
  omega
set_option maxRecDepth 4000 in
theorem ok_X8_begin (i2 : Int32) (h0 : 2 ≤ i2.toInt) (h1 : i2.toInt ≤ 9) : Ok (fX8_begin i2) (fun z => (0 ≤ z.toInt ∧ z.toInt ≤ 8)) := by
  unfold fX8_begin
  try (have e1 := dec_iv (x := i2) (by omega))
  refine Ok_some ?_
  try dsimp only
  try simp only [tl0, tl1, tl2, tl3, tl4, tl5, tl6, tl8, tl9, tl10, tl50, tl81, tl100, tl1000, tl9999, tlm1, tlm9, tlm50, tl2147483647]
  first | trivial | omega | (simp; done) | (simp; omega) | (repeat' first | assumption | omega | apply And.intro)
set_option maxRecDepth 4000 in
theorem ok_X8_thrown (i10 : Int32)  : Ok (fX8_thrown i10) (fun z => True) := by
  unfold fX8_thrown
  exact Ok_some trivial
set_option maxRecDepth 4000 in
theorem ok_X8_isThrown (i2 : Int32) (i3 : Int32)  : Ok (fX8_isThrown i2 i3) (fun z => ((z.1.toInt = 0 ∧ i2.toInt = 0 ∧ i3.toInt = 0) ∨ z.1.toInt = 1)) := by
  unfold fX8_isThrown
  refine Ok_jn (fun k13 wk13 => ?_)
  refine Ok_if ?_ ?_
  · intro h
    have c2 : i2.toInt = 0 := i32eq h
    refine Ok_if ?_ ?_
    · intro h
      have c3 : i3.toInt = 0 := i32eq h
      rw [wk13]
      show Ok (if (0 : Int32) ≤ (0 : Int32) then (some ((0 : Int32), (0 : Int32))) else (some ((1 : Int32), (0 : Int32)))) _
      refine Ok_if ?_ ?_
      · intro h
        refine Ok_some ?_
        try dsimp only
        try simp only [tl0, tl1, tl2, tl3, tl4, tl5, tl6, tl8, tl9, tl10, tl50, tl81, tl100, tl1000, tl9999, tlm1, tlm9, tlm50, tl2147483647]
        first | trivial | omega | (simp; done) | (simp; omega) | (repeat' first | assumption | omega | apply And.intro)
      · intro h
        exact absurd (show (0 : Int32) ≤ (0 : Int32) by decide) h
    · intro h
      have c6 : i3.toInt ≠ 0 := i32ne h
      rw [wk13]
      show Ok (if (2 : Int32) ≤ (0 : Int32) then (some ((0 : Int32), (2 : Int32))) else (some ((1 : Int32), (2 : Int32)))) _
      refine Ok_if ?_ ?_
      · intro h
        exact absurd h (by decide)
      · intro h
        refine Ok_some ?_
        try dsimp only
        try simp only [tl0, tl1, tl2, tl3, tl4, tl5, tl6, tl8, tl9, tl10, tl50, tl81, tl100, tl1000, tl9999, tlm1, tlm9, tlm50, tl2147483647]
        first | trivial | omega | (simp; done) | (simp; omega) | (repeat' first | assumption | omega | apply And.intro)
  · intro h
    have c9 : i2.toInt ≠ 0 := i32ne h
    rw [wk13]
    show Ok (if (1 : Int32) ≤ (0 : Int32) then (some ((0 : Int32), (1 : Int32))) else (some ((1 : Int32), (1 : Int32)))) _
    refine Ok_if ?_ ?_
    · intro h
      exact absurd h (by decide)
    · intro h
      refine Ok_some ?_
      try dsimp only
      try simp only [tl0, tl1, tl2, tl3, tl4, tl5, tl6, tl8, tl9, tl10, tl50, tl81, tl100, tl1000, tl9999, tlm1, tlm9, tlm50, tl2147483647]
      first | trivial | omega | (simp; done) | (simp; omega) | (repeat' first | assumption | omega | apply And.intro)
set_option maxRecDepth 4000 in
theorem ok_X8_isThrown_ (i2 : Int32)  : Ok (fX8_isThrown_ i2) (fun z => ((z.1.toInt = 0 ∧ i2.toInt = 0) ∨ z.1.toInt = 1)) := by
  unfold fX8_isThrown_
  refine Ok_bind (ok_X8_isThrown i2 (0 : Int32)) (fun z12 hz12 => ?_)
  try dsimp only at hz12
  try simp only [tl0, tl1, tl2, tl3, tl4, tl5, tl6, tl8, tl9, tl10, tl50, tl81, tl100, tl1000, tl9999, tlm1, tlm9, tlm50, tl2147483647] at hz12
  refine Ok_bz (by first | exact Or.inl rfl | exact Or.inr rfl | exact bz_of (by omega) (by omega)) ?_
  refine Ok_some ?_
  try dsimp only
  try simp only [tl0, tl1, tl2, tl3, tl4, tl5, tl6, tl8, tl9, tl10, tl50, tl81, tl100, tl1000, tl9999, tlm1, tlm9, tlm50, tl2147483647]
  first | trivial | omega | (simp; done) | (simp; omega) | (repeat' first | assumption | omega | apply And.intro)
set_option maxRecDepth 4000 in
theorem ok_X8_isPlace (i3 : Int32) (i2 : Int32) (h0 : 2 ≤ i3.toInt ∧ i3.toInt ≤ 9) : Ok (fX8_isPlace i3 i2) (fun z => ((z.toInt = 1 ∧ 0 ≤ i2.toInt ∧ i2.toInt < i3.toInt) ∨ z.toInt = 0)) := by
  unfold fX8_isPlace
  refine Ok_if ?_ ?_
  · intro h
    have c12 : i2.toInt < 0 := i32lt h
    refine Ok_some ?_
    try dsimp only
    try simp only [tl0, tl1, tl2, tl3, tl4, tl5, tl6, tl8, tl9, tl10, tl50, tl81, tl100, tl1000, tl9999, tlm1, tlm9, tlm50, tl2147483647]
    first | trivial | omega | (simp; done) | (simp; omega) | (repeat' first | assumption | omega | apply And.intro)
  · intro h
    have c13 : 0 ≤ i2.toInt := i32nlt h
    refine Ok_if ?_ ?_
    · intro h
      have c14 : i3.toInt ≤ i2.toInt := i32le h
      refine Ok_some ?_
      try dsimp only
      try simp only [tl0, tl1, tl2, tl3, tl4, tl5, tl6, tl8, tl9, tl10, tl50, tl81, tl100, tl1000, tl9999, tlm1, tlm9, tlm50, tl2147483647]
      first | trivial | omega | (simp; done) | (simp; omega) | (repeat' first | assumption | omega | apply And.intro)
    · intro h
      have c15 : i2.toInt < i3.toInt := i32nle h
      refine Ok_some ?_
      try dsimp only
      try simp only [tl0, tl1, tl2, tl3, tl4, tl5, tl6, tl8, tl9, tl10, tl50, tl81, tl100, tl1000, tl9999, tlm1, tlm9, tlm50, tl2147483647]
      first | trivial | omega | (simp; done) | (simp; omega) | (repeat' first | assumption | omega | apply And.intro)
set_option maxRecDepth 4000 in
theorem ok_X8_isRoom (i1 : Int32)  : Ok (fX8_isRoom i1) (fun z => ((z.toInt = 1 ∧ 0 ≤ i1.toInt ∧ i1.toInt ≤ 50) ∨ z.toInt = 0)) := by
  unfold fX8_isRoom
  refine Ok_if ?_ ?_
  · intro h
    have c16 : i1.toInt < 0 := i32lt h
    refine Ok_some ?_
    try dsimp only
    try simp only [tl0, tl1, tl2, tl3, tl4, tl5, tl6, tl8, tl9, tl10, tl50, tl81, tl100, tl1000, tl9999, tlm1, tlm9, tlm50, tl2147483647]
    first | trivial | omega | (simp; done) | (simp; omega) | (repeat' first | assumption | omega | apply And.intro)
  · intro h
    have c17 : 0 ≤ i1.toInt := i32nlt h
    refine Ok_if ?_ ?_
    · intro h
      have c18 : 50 < i1.toInt := i32lt h
      refine Ok_some ?_
      try dsimp only
      try simp only [tl0, tl1, tl2, tl3, tl4, tl5, tl6, tl8, tl9, tl10, tl50, tl81, tl100, tl1000, tl9999, tlm1, tlm9, tlm50, tl2147483647]
      first | trivial | omega | (simp; done) | (simp; omega) | (repeat' first | assumption | omega | apply And.intro)
    · intro h
      have c19 : i1.toInt ≤ 50 := i32nlt h
      refine Ok_some ?_
      try dsimp only
      try simp only [tl0, tl1, tl2, tl3, tl4, tl5, tl6, tl8, tl9, tl10, tl50, tl81, tl100, tl1000, tl9999, tlm1, tlm9, tlm50, tl2147483647]
      first | trivial | omega | (simp; done) | (simp; omega) | (repeat' first | assumption | omega | apply And.intro)
set_option maxRecDepth 4000 in
theorem ok_X8_isRule (i1 : Int32)  : Ok (fX8_isRule i1) (fun z => ((z.toInt = 1 ∧ 0 ≤ i1.toInt ∧ i1.toInt ≤ 2) ∨ z.toInt = 0)) := by
  unfold fX8_isRule
  refine Ok_if ?_ ?_
  · intro h
    have c20 : i1.toInt < 0 := i32lt h
    refine Ok_some ?_
    try dsimp only
    try simp only [tl0, tl1, tl2, tl3, tl4, tl5, tl6, tl8, tl9, tl10, tl50, tl81, tl100, tl1000, tl9999, tlm1, tlm9, tlm50, tl2147483647]
    first | trivial | omega | (simp; done) | (simp; omega) | (repeat' first | assumption | omega | apply And.intro)
  · intro h
    have c21 : 0 ≤ i1.toInt := i32nlt h
    refine Ok_if ?_ ?_
    · intro h
      have c22 : 2 < i1.toInt := i32lt h
      refine Ok_some ?_
      try dsimp only
      try simp only [tl0, tl1, tl2, tl3, tl4, tl5, tl6, tl8, tl9, tl10, tl50, tl81, tl100, tl1000, tl9999, tlm1, tlm9, tlm50, tl2147483647]
      first | trivial | omega | (simp; done) | (simp; omega) | (repeat' first | assumption | omega | apply And.intro)
    · intro h
      have c23 : i1.toInt ≤ 2 := i32nlt h
      refine Ok_some ?_
      try dsimp only
      try simp only [tl0, tl1, tl2, tl3, tl4, tl5, tl6, tl8, tl9, tl10, tl50, tl81, tl100, tl1000, tl9999, tlm1, tlm9, tlm50, tl2147483647]
      first | trivial | omega | (simp; done) | (simp; omega) | (repeat' first | assumption | omega | apply And.intro)
set_option maxRecDepth 4000 in
theorem ok_X8_isSet (i3 : Int32) (i2 : Int32) (h0 : 2 ≤ i3.toInt ∧ i3.toInt ≤ 9) : Ok (fX8_isSet i3 i2) (fun z => True) := by
  unfold fX8_isSet
  refine Ok_if ?_ ?_
  · intro h
    have c24 : i2.toInt < 0 := i32lt h
    exact Ok_some trivial
  · intro h
    have c25 : 0 ≤ i2.toInt := i32nlt h
    refine Ok_if ?_ ?_
    · intro h
      try (have e27 := sh9 (x := i3) (by omega) (by omega))
      have c26 : ((1 : Int32) <<< (i3 &&& 31)).toInt ≤ i2.toInt := i32le h
      exact Ok_some trivial
    · intro h
      try (have e29 := sh9 (x := i3) (by omega) (by omega))
      have c28 : i2.toInt < ((1 : Int32) <<< (i3 &&& 31)).toInt := i32nle h
      exact Ok_some trivial
set_option maxRecDepth 4000 in
theorem ok_X8_did (i8 : Int32) (i2 : Int32)  : Ok (fX8_did i8 i2) (fun z => True) := by
  unfold fX8_did
  try (have e30 := inc_iv (x := i8) (by omega))
  exact Ok_some trivial
set_option maxRecDepth 4000 in
theorem ok_X8_no (i8 : Int32)  : Ok (fX8_no i8) (fun z => True) := by
  unfold fX8_no
  try (have e31 := inc_iv (x := i8) (by omega))
  exact Ok_some trivial
set_option maxRecDepth 4000 in
theorem ok_X8_room (f13 : Nat → Int32) (i2 : Int32) (i3 : Int32) (h0 : 0 ≤ i2.toInt) (h1 : i2.toInt ≤ 8) (h2 : 0 ≤ i3.toInt) (h3 : i3.toInt ≤ 8) : Ok (fX8_room f13 i2 i3) (fun z => True) := by
  unfold fX8_room
  try (have e32 := idx_iv (x := i2) (y := i3) (by omega) (by omega) (by omega) (by omega))
  refine Ok_inB (vp_of (by first | omega | assumption | (try simp only [tl0, tl1, tl2, tl3, tl4, tl5, tl6, tl8, tl9, tl10, tl50, tl81, tl100, tl1000, tl9999, tlm1, tlm9, tlm50, tl2147483647]; omega)) (by first | omega | assumption | (try simp only [tl0, tl1, tl2, tl3, tl4, tl5, tl6, tl8, tl9, tl10, tl50, tl81, tl100, tl1000, tl9999, tlm1, tlm9, tlm50, tl2147483647]; omega))) ?_
  exact Ok_some trivial
set_option maxRecDepth 4000 in
theorem ok_X8_flow (f13 : Nat → Int32) (i2 : Int32) (i3 : Int32) (h0 : 0 ≤ i2.toInt) (h1 : i2.toInt ≤ 8) (h2 : 0 ≤ i3.toInt) (h3 : i3.toInt ≤ 8) : Ok (fX8_flow f13 i2 i3) (fun z => True) := by
  unfold fX8_flow
  try (have e33 := idx_iv (x := i2) (y := i3) (by omega) (by omega) (by omega) (by omega))
  refine Ok_inB (vp_of (by first | omega | assumption | (try simp only [tl0, tl1, tl2, tl3, tl4, tl5, tl6, tl8, tl9, tl10, tl50, tl81, tl100, tl1000, tl9999, tlm1, tlm9, tlm50, tl2147483647]; omega)) (by first | omega | assumption | (try simp only [tl0, tl1, tl2, tl3, tl4, tl5, tl6, tl8, tl9, tl10, tl50, tl81, tl100, tl1000, tl9999, tlm1, tlm9, tlm50, tl2147483647]; omega))) ?_
  exact Ok_some trivial
set_option maxRecDepth 4000 in
theorem ok_X8_left (f13 : Nat → Int32) (f14 : Nat → Int32) (i2 : Int32) (i3 : Int32) (h0 : 0 ≤ i2.toInt) (h1 : i2.toInt ≤ 8) (h2 : 0 ≤ i3.toInt) (h3 : i3.toInt ≤ 8) : Ok (fX8_left f13 f14 i2 i3) (fun z => True) := by
  unfold fX8_left
  refine Ok_bind (ok_X8_room f13 i2 i3 (by first | omega | assumption | (try simp only [tl0, tl1, tl2, tl3, tl4, tl5, tl6, tl8, tl9, tl10, tl50, tl81, tl100, tl1000, tl9999, tlm1, tlm9, tlm50, tl2147483647]; omega)) (by first | omega | assumption | (try simp only [tl0, tl1, tl2, tl3, tl4, tl5, tl6, tl8, tl9, tl10, tl50, tl81, tl100, tl1000, tl9999, tlm1, tlm9, tlm50, tl2147483647]; omega)) (by first | omega | assumption | (try simp only [tl0, tl1, tl2, tl3, tl4, tl5, tl6, tl8, tl9, tl10, tl50, tl81, tl100, tl1000, tl9999, tlm1, tlm9, tlm50, tl2147483647]; omega)) (by first | omega | assumption | (try simp only [tl0, tl1, tl2, tl3, tl4, tl5, tl6, tl8, tl9, tl10, tl50, tl81, tl100, tl1000, tl9999, tlm1, tlm9, tlm50, tl2147483647]; omega))) (fun z15 hz15 => ?_)
  refine Ok_bind (ok_X8_flow f14 i2 i3 (by first | omega | assumption | (try simp only [tl0, tl1, tl2, tl3, tl4, tl5, tl6, tl8, tl9, tl10, tl50, tl81, tl100, tl1000, tl9999, tlm1, tlm9, tlm50, tl2147483647]; omega)) (by first | omega | assumption | (try simp only [tl0, tl1, tl2, tl3, tl4, tl5, tl6, tl8, tl9, tl10, tl50, tl81, tl100, tl1000, tl9999, tlm1, tlm9, tlm50, tl2147483647]; omega)) (by first | omega | assumption | (try simp only [tl0, tl1, tl2, tl3, tl4, tl5, tl6, tl8, tl9, tl10, tl50, tl81, tl100, tl1000, tl9999, tlm1, tlm9, tlm50, tl2147483647]; omega)) (by first | omega | assumption | (try simp only [tl0, tl1, tl2, tl3, tl4, tl5, tl6, tl8, tl9, tl10, tl50, tl81, tl100, tl1000, tl9999, tlm1, tlm9, tlm50, tl2147483647]; omega))) (fun z16 hz16 => ?_)
  try (have e34 := sub_iv (x := z15) (y := z16) (by omega) (by omega))
  exact Ok_some trivial
set_option maxRecDepth 4000 in
theorem ok_X8_flowOn (f14 : Nat → Int32) (i2 : Int32) (i3 : Int32) (i4 : Int32) (h0 : 0 ≤ i2.toInt) (h1 : i2.toInt ≤ 8) (h2 : 0 ≤ i3.toInt) (h3 : i3.toInt ≤ 8) : Ok (fX8_flowOn f14 i2 i3 i4) (fun z => True) := by
  unfold fX8_flowOn
  try (have e35 := idx_iv (x := i2) (y := i3) (by omega) (by omega) (by omega) (by omega))
  refine Ok_inB (vp_of (by first | omega | assumption | (try simp only [tl0, tl1, tl2, tl3, tl4, tl5, tl6, tl8, tl9, tl10, tl50, tl81, tl100, tl1000, tl9999, tlm1, tlm9, tlm50, tl2147483647]; omega)) (by first | omega | assumption | (try simp only [tl0, tl1, tl2, tl3, tl4, tl5, tl6, tl8, tl9, tl10, tl50, tl81, tl100, tl1000, tl9999, tlm1, tlm9, tlm50, tl2147483647]; omega))) ?_
  refine Ok_inB (vp_of (by first | omega | assumption | (try simp only [tl0, tl1, tl2, tl3, tl4, tl5, tl6, tl8, tl9, tl10, tl50, tl81, tl100, tl1000, tl9999, tlm1, tlm9, tlm50, tl2147483647]; omega)) (by first | omega | assumption | (try simp only [tl0, tl1, tl2, tl3, tl4, tl5, tl6, tl8, tl9, tl10, tl50, tl81, tl100, tl1000, tl9999, tlm1, tlm9, tlm50, tl2147483647]; omega))) ?_
  try (have e36 := idx_iv (x := i3) (y := i2) (by omega) (by omega) (by omega) (by omega))
  refine Ok_inB (vp_of (by first | omega | assumption | (try simp only [tl0, tl1, tl2, tl3, tl4, tl5, tl6, tl8, tl9, tl10, tl50, tl81, tl100, tl1000, tl9999, tlm1, tlm9, tlm50, tl2147483647]; omega)) (by first | omega | assumption | (try simp only [tl0, tl1, tl2, tl3, tl4, tl5, tl6, tl8, tl9, tl10, tl50, tl81, tl100, tl1000, tl9999, tlm1, tlm9, tlm50, tl2147483647]; omega))) ?_
  refine Ok_inB (vp_of (by first | omega | assumption | (try simp only [tl0, tl1, tl2, tl3, tl4, tl5, tl6, tl8, tl9, tl10, tl50, tl81, tl100, tl1000, tl9999, tlm1, tlm9, tlm50, tl2147483647]; omega)) (by first | omega | assumption | (try simp only [tl0, tl1, tl2, tl3, tl4, tl5, tl6, tl8, tl9, tl10, tl50, tl81, tl100, tl1000, tl9999, tlm1, tlm9, tlm50, tl2147483647]; omega))) ?_
  exact Ok_some trivial
set_option maxRecDepth 4000 in
theorem okL_X8_still_L2      : ∀ (n : Nat) (i23 : Int32) (f24 : Nat → Int32), 0 ≤ i23.toInt → 81 - i23.toInt < n → 0 < n → Ok (LX8_still_L2  n i23 f24 ) (fun z => True) := by
  intro n
  induction n with
  | zero => intro i23 f24 v0 hm h0; exact absurd h0 (Nat.lt_irrefl 0)
  | succ n ih =>
    intro i23 f24 v0 hm h0
    show Ok (BX8_still_L2  i23 f24 (fun i23 f24 => LX8_still_L2  n i23 f24 ) ) _
    unfold BX8_still_L2
    refine Ok_if ?_ ?_
    · intro h
      have c37 : 81 ≤ i23.toInt := i32le h
      exact Ok_some trivial
    · intro h
      have c38 : i23.toInt < 81 := i32nle h
      refine Ok_inB (vp_of (by first | omega | assumption | (try simp only [tl0, tl1, tl2, tl3, tl4, tl5, tl6, tl8, tl9, tl10, tl50, tl81, tl100, tl1000, tl9999, tlm1, tlm9, tlm50, tl2147483647]; omega)) (by first | omega | assumption | (try simp only [tl0, tl1, tl2, tl3, tl4, tl5, tl6, tl8, tl9, tl10, tl50, tl81, tl100, tl1000, tl9999, tlm1, tlm9, tlm50, tl2147483647]; omega))) ?_
      try (have e39 := inc_iv (x := i23) (by omega))
      exact ih (i23 + (1 : Int32)) (upd f24 i23.toNatClampNeg (0 : Int32)) (by first | omega | assumption | (try simp only [tl0, tl1, tl2, tl3, tl4, tl5, tl6, tl8, tl9, tl10, tl50, tl81, tl100, tl1000, tl9999, tlm1, tlm9, tlm50, tl2147483647]; omega)) (by first | omega | assumption | (try simp only [tl0, tl1, tl2, tl3, tl4, tl5, tl6, tl8, tl9, tl10, tl50, tl81, tl100, tl1000, tl9999, tlm1, tlm9, tlm50, tl2147483647]; omega)) (by first | omega | assumption | (try simp only [tl0, tl1, tl2, tl3, tl4, tl5, tl6, tl8, tl9, tl10, tl50, tl81, tl100, tl1000, tl9999, tlm1, tlm9, tlm50, tl2147483647]; omega))
set_option maxRecDepth 4000 in
theorem ok_X8_still (f11 : Nat → Int32)  : Ok (fX8_still f11) (fun z => True) := by
  unfold fX8_still
  refine Ok_mono (okL_X8_still_L2  600 (0 : Int32) f11 (by first | omega | assumption | (try simp only [tl0, tl1, tl2, tl3, tl4, tl5, tl6, tl8, tl9, tl10, tl50, tl81, tl100, tl1000, tl9999, tlm1, tlm9, tlm50, tl2147483647]; omega)) (by first | omega | assumption | (try simp only [tl0, tl1, tl2, tl3, tl4, tl5, tl6, tl8, tl9, tl10, tl50, tl81, tl100, tl1000, tl9999, tlm1, tlm9, tlm50, tl2147483647]; omega)) (by first | omega | assumption | (try simp only [tl0, tl1, tl2, tl3, tl4, tl5, tl6, tl8, tl9, tl10, tl50, tl81, tl100, tl1000, tl9999, tlm1, tlm9, tlm50, tl2147483647]; omega))) ?_
  intro z hz
  first | exact hz | (simp only [Sx] at *; omega) | (dsimp only at *; omega)
set_option maxRecDepth 4000 in
theorem okL_X8_fromPlace_L5 (i4 : Int32) (f13 : Nat → Int32) (i3 : Int32)   (g0 : 2 ≤ i4.toInt ∧ i4.toInt ≤ 9) (g1 : 0 ≤ i3.toInt) (g2 : i3.toInt ≤ 8)  : ∀ (n : Nat) (i28 : Int32) (i29 : Int32), 0 ≤ i29.toInt → i4.toInt - i29.toInt < n → 0 < n → Ok (LX8_fromPlace_L5 i4 f13 i3 n i28 i29 ) (fun z => True) := by
  intro n
  induction n with
  | zero => intro i28 i29 v0 hm h0; exact absurd h0 (Nat.lt_irrefl 0)
  | succ n ih =>
    intro i28 i29 v0 hm h0
    show Ok (BX8_fromPlace_L5 i4 f13 i3 i28 i29 (fun i28 i29 => LX8_fromPlace_L5 i4 f13 i3 n i28 i29 ) ) _
    unfold BX8_fromPlace_L5
    refine Ok_if ?_ ?_
    · intro h
      have c40 : i4.toInt ≤ i29.toInt := i32le h
      exact Ok_some trivial
    · intro h
      have c41 : i29.toInt < i4.toInt := i32nle h
      try (have e42 := idx_iv (x := i3) (y := i29) (by omega) (by omega) (by omega) (by omega))
      refine Ok_inB (vp_of (by first | omega | assumption | (try simp only [tl0, tl1, tl2, tl3, tl4, tl5, tl6, tl8, tl9, tl10, tl50, tl81, tl100, tl1000, tl9999, tlm1, tlm9, tlm50, tl2147483647]; omega)) (by first | omega | assumption | (try simp only [tl0, tl1, tl2, tl3, tl4, tl5, tl6, tl8, tl9, tl10, tl50, tl81, tl100, tl1000, tl9999, tlm1, tlm9, tlm50, tl2147483647]; omega))) ?_
      refine Ok_nm (fun i30 wi30 => ?_)
      have qi30 := i32eq wi30
      try (have e43 := inc_iv (x := i29) (by omega))
      exact ih i30 (i29 + (1 : Int32)) (by first | omega | assumption | (try simp only [tl0, tl1, tl2, tl3, tl4, tl5, tl6, tl8, tl9, tl10, tl50, tl81, tl100, tl1000, tl9999, tlm1, tlm9, tlm50, tl2147483647]; omega)) (by first | omega | assumption | (try simp only [tl0, tl1, tl2, tl3, tl4, tl5, tl6, tl8, tl9, tl10, tl50, tl81, tl100, tl1000, tl9999, tlm1, tlm9, tlm50, tl2147483647]; omega)) (by first | omega | assumption | (try simp only [tl0, tl1, tl2, tl3, tl4, tl5, tl6, tl8, tl9, tl10, tl50, tl81, tl100, tl1000, tl9999, tlm1, tlm9, tlm50, tl2147483647]; omega))
set_option maxRecDepth 4000 in
theorem ok_X8_fromPlace (i4 : Int32) (f13 : Nat → Int32) (i3 : Int32) (h0 : 2 ≤ i4.toInt ∧ i4.toInt ≤ 9) (h1 : 0 ≤ i3.toInt) (h2 : i3.toInt ≤ 8) : Ok (fX8_fromPlace i4 f13 i3) (fun z => True) := by
  unfold fX8_fromPlace
  refine Ok_mono (okL_X8_fromPlace_L5 i4 f13 i3 (by first | omega | assumption | (try simp only [tl0, tl1, tl2, tl3, tl4, tl5, tl6, tl8, tl9, tl10, tl50, tl81, tl100, tl1000, tl9999, tlm1, tlm9, tlm50, tl2147483647]; omega)) (by first | omega | assumption | (try simp only [tl0, tl1, tl2, tl3, tl4, tl5, tl6, tl8, tl9, tl10, tl50, tl81, tl100, tl1000, tl9999, tlm1, tlm9, tlm50, tl2147483647]; omega)) (by first | omega | assumption | (try simp only [tl0, tl1, tl2, tl3, tl4, tl5, tl6, tl8, tl9, tl10, tl50, tl81, tl100, tl1000, tl9999, tlm1, tlm9, tlm50, tl2147483647]; omega)) 600 (0 : Int32) (0 : Int32) (by first | omega | assumption | (try simp only [tl0, tl1, tl2, tl3, tl4, tl5, tl6, tl8, tl9, tl10, tl50, tl81, tl100, tl1000, tl9999, tlm1, tlm9, tlm50, tl2147483647]; omega)) (by first | omega | assumption | (try simp only [tl0, tl1, tl2, tl3, tl4, tl5, tl6, tl8, tl9, tl10, tl50, tl81, tl100, tl1000, tl9999, tlm1, tlm9, tlm50, tl2147483647]; omega)) (by first | omega | assumption | (try simp only [tl0, tl1, tl2, tl3, tl4, tl5, tl6, tl8, tl9, tl10, tl50, tl81, tl100, tl1000, tl9999, tlm1, tlm9, tlm50, tl2147483647]; omega))) ?_
  intro z hz
  first | exact hz | (simp only [Sx] at *; omega) | (dsimp only at *; omega)
set_option maxRecDepth 4000 in
theorem ok_X8_valueNow (i2 : Int32) (i5 : Int32) (f11 : Nat → Int32) (h0 : 2 ≤ i2.toInt ∧ i2.toInt ≤ 9) (h1 : 0 ≤ i5.toInt ∧ i5.toInt ≤ 8) : Ok (fX8_valueNow i2 i5 f11) (fun z => True) := by
  unfold fX8_valueNow
  refine Ok_bind (ok_X8_fromPlace i2 f11 i5 (by first | omega | assumption | (try simp only [tl0, tl1, tl2, tl3, tl4, tl5, tl6, tl8, tl9, tl10, tl50, tl81, tl100, tl1000, tl9999, tlm1, tlm9, tlm50, tl2147483647]; omega)) (by first | omega | assumption | (try simp only [tl0, tl1, tl2, tl3, tl4, tl5, tl6, tl8, tl9, tl10, tl50, tl81, tl100, tl1000, tl9999, tlm1, tlm9, tlm50, tl2147483647]; omega)) (by first | omega | assumption | (try simp only [tl0, tl1, tl2, tl3, tl4, tl5, tl6, tl8, tl9, tl10, tl50, tl81, tl100, tl1000, tl9999, tlm1, tlm9, tlm50, tl2147483647]; omega))) (fun z12 hz12 => ?_)
  exact Ok_some trivial
set_option maxRecDepth 4000 in
theorem okL_X8_through_L29 (i4 : Int32) (f13 : Nat → Int32) (i3 : Int32) (i56 : Int32) {P : (Int32) → Prop} {k1 : Int32 → Option (Int32)} (g0 : 2 ≤ i4.toInt ∧ i4.toInt ≤ 9) (g1 : 0 ≤ i56.toInt) (g2 : i56.toInt ≤ 8) (hk1 : ∀ (y1 : Int32), Ok (k1 y1) P) : ∀ (n : Nat) (i77 : Int32) (i78 : Int32), 0 ≤ i78.toInt → i4.toInt - i78.toInt < n → 0 < n → Ok (LX8_through_L29 i4 f13 i3 i56 n i77 i78 k1) P := by
  intro n
  induction n with
  | zero => intro i77 i78 v0 hm h0; exact absurd h0 (Nat.lt_irrefl 0)
  | succ n ih =>
    intro i77 i78 v0 hm h0
    show Ok (BX8_through_L29 i4 f13 i3 i56 i77 i78 (fun i77 i78 => LX8_through_L29 i4 f13 i3 i56 n i77 i78 k1) k1) _
    unfold BX8_through_L29
    refine Ok_if ?_ ?_
    · intro h
      have c49 : i4.toInt ≤ i78.toInt := i32le h
      exact hk1 i77
    · intro h
      have c50 : i78.toInt < i4.toInt := i32nle h
      refine Ok_jn (fun k79 wk79 => ?_)
      refine Ok_if ?_ ?_
      · intro h
        have c51 : ((i3 >>> (i78 &&& 31)) &&& (1 : Int32)).toInt = 0 := i32eq h
        try (have e52 := idx_iv (x := i56) (y := i78) (by omega) (by omega) (by omega) (by omega))
        refine Ok_inB (vp_of (by first | omega | assumption | (try simp only [tl0, tl1, tl2, tl3, tl4, tl5, tl6, tl8, tl9, tl10, tl50, tl81, tl100, tl1000, tl9999, tlm1, tlm9, tlm50, tl2147483647]; omega)) (by first | omega | assumption | (try simp only [tl0, tl1, tl2, tl3, tl4, tl5, tl6, tl8, tl9, tl10, tl50, tl81, tl100, tl1000, tl9999, tlm1, tlm9, tlm50, tl2147483647]; omega))) ?_
        refine Ok_nm (fun i81 wi81 => ?_)
        have qi81 := i32eq wi81
        rw [wk79]
        show Ok ((fun i77 i78 => LX8_through_L29 i4 f13 i3 i56 n i77 i78 k1) i81 (i78 + (1 : Int32))) _
        try (have e53 := inc_iv (x := i78) (by omega))
        exact ih i81 (i78 + (1 : Int32)) (by first | omega | assumption | (try simp only [tl0, tl1, tl2, tl3, tl4, tl5, tl6, tl8, tl9, tl10, tl50, tl81, tl100, tl1000, tl9999, tlm1, tlm9, tlm50, tl2147483647]; omega)) (by first | omega | assumption | (try simp only [tl0, tl1, tl2, tl3, tl4, tl5, tl6, tl8, tl9, tl10, tl50, tl81, tl100, tl1000, tl9999, tlm1, tlm9, tlm50, tl2147483647]; omega)) (by first | omega | assumption | (try simp only [tl0, tl1, tl2, tl3, tl4, tl5, tl6, tl8, tl9, tl10, tl50, tl81, tl100, tl1000, tl9999, tlm1, tlm9, tlm50, tl2147483647]; omega))
      · intro h
        have c54 : ((i3 >>> (i78 &&& 31)) &&& (1 : Int32)).toInt ≠ 0 := i32ne h
        rw [wk79]
        show Ok ((fun i77 i78 => LX8_through_L29 i4 f13 i3 i56 n i77 i78 k1) i77 (i78 + (1 : Int32))) _
        try (have e55 := inc_iv (x := i78) (by omega))
        exact ih i77 (i78 + (1 : Int32)) (by first | omega | assumption | (try simp only [tl0, tl1, tl2, tl3, tl4, tl5, tl6, tl8, tl9, tl10, tl50, tl81, tl100, tl1000, tl9999, tlm1, tlm9, tlm50, tl2147483647]; omega)) (by first | omega | assumption | (try simp only [tl0, tl1, tl2, tl3, tl4, tl5, tl6, tl8, tl9, tl10, tl50, tl81, tl100, tl1000, tl9999, tlm1, tlm9, tlm50, tl2147483647]; omega)) (by first | omega | assumption | (try simp only [tl0, tl1, tl2, tl3, tl4, tl5, tl6, tl8, tl9, tl10, tl50, tl81, tl100, tl1000, tl9999, tlm1, tlm9, tlm50, tl2147483647]; omega))
set_option maxRecDepth 4000 in
theorem okL_X8_through_L5 (i4 : Int32) (f13 : Nat → Int32) (i3 : Int32)   (g0 : 2 ≤ i4.toInt ∧ i4.toInt ≤ 9)  : ∀ (n : Nat) (i55 : Int32) (i56 : Int32), 0 ≤ i56.toInt → i4.toInt - i56.toInt < n → 0 < n → Ok (LX8_through_L5 i4 f13 i3 n i55 i56 ) (fun z => True) := by
  intro n
  induction n with
  | zero => intro i55 i56 v0 hm h0; exact absurd h0 (Nat.lt_irrefl 0)
  | succ n ih =>
    intro i55 i56 v0 hm h0
    show Ok (BX8_through_L5 i4 f13 i3 i55 i56 (fun i55 i56 => LX8_through_L5 i4 f13 i3 n i55 i56 ) ) _
    unfold BX8_through_L5
    refine Ok_if ?_ ?_
    · intro h
      have c44 : i4.toInt ≤ i56.toInt := i32le h
      exact Ok_some trivial
    · intro h
      have c45 : i56.toInt < i4.toInt := i32nle h
      refine Ok_jn (fun k57 wk57 => ?_)
      refine Ok_if ?_ ?_
      · intro h
        have c46 : ((i3 >>> (i56 &&& 31)) &&& (1 : Int32)).toInt = 0 := i32eq h
        rw [wk57]
        show Ok ((fun i55 i56 => LX8_through_L5 i4 f13 i3 n i55 i56 ) i55 (i56 + (1 : Int32))) _
        try (have e47 := inc_iv (x := i56) (by omega))
        exact ih i55 (i56 + (1 : Int32)) (by first | omega | assumption | (try simp only [tl0, tl1, tl2, tl3, tl4, tl5, tl6, tl8, tl9, tl10, tl50, tl81, tl100, tl1000, tl9999, tlm1, tlm9, tlm50, tl2147483647]; omega)) (by first | omega | assumption | (try simp only [tl0, tl1, tl2, tl3, tl4, tl5, tl6, tl8, tl9, tl10, tl50, tl81, tl100, tl1000, tl9999, tlm1, tlm9, tlm50, tl2147483647]; omega)) (by first | omega | assumption | (try simp only [tl0, tl1, tl2, tl3, tl4, tl5, tl6, tl8, tl9, tl10, tl50, tl81, tl100, tl1000, tl9999, tlm1, tlm9, tlm50, tl2147483647]; omega))
      · intro h
        have c48 : ((i3 >>> (i56 &&& 31)) &&& (1 : Int32)).toInt ≠ 0 := i32ne h
        refine okL_X8_through_L29 i4 f13 i3 i56 (by first | omega | assumption | (try simp only [tl0, tl1, tl2, tl3, tl4, tl5, tl6, tl8, tl9, tl10, tl50, tl81, tl100, tl1000, tl9999, tlm1, tlm9, tlm50, tl2147483647]; omega)) (by first | omega | assumption | (try simp only [tl0, tl1, tl2, tl3, tl4, tl5, tl6, tl8, tl9, tl10, tl50, tl81, tl100, tl1000, tl9999, tlm1, tlm9, tlm50, tl2147483647]; omega)) (by first | omega | assumption | (try simp only [tl0, tl1, tl2, tl3, tl4, tl5, tl6, tl8, tl9, tl10, tl50, tl81, tl100, tl1000, tl9999, tlm1, tlm9, tlm50, tl2147483647]; omega)) ?_ 600 i55 (0 : Int32) (by first | omega | assumption | (try simp only [tl0, tl1, tl2, tl3, tl4, tl5, tl6, tl8, tl9, tl10, tl50, tl81, tl100, tl1000, tl9999, tlm1, tlm9, tlm50, tl2147483647]; omega)) (by first | omega | assumption | (try simp only [tl0, tl1, tl2, tl3, tl4, tl5, tl6, tl8, tl9, tl10, tl50, tl81, tl100, tl1000, tl9999, tlm1, tlm9, tlm50, tl2147483647]; omega)) (by first | omega | assumption | (try simp only [tl0, tl1, tl2, tl3, tl4, tl5, tl6, tl8, tl9, tl10, tl50, tl81, tl100, tl1000, tl9999, tlm1, tlm9, tlm50, tl2147483647]; omega))
        intro i83
        show Ok (k57 i83) _
        rw [wk57]
        show Ok ((fun i55 i56 => LX8_through_L5 i4 f13 i3 n i55 i56 ) i83 (i56 + (1 : Int32))) _
        try (have e56 := inc_iv (x := i56) (by omega))
        exact ih i83 (i56 + (1 : Int32)) (by first | omega | assumption | (try simp only [tl0, tl1, tl2, tl3, tl4, tl5, tl6, tl8, tl9, tl10, tl50, tl81, tl100, tl1000, tl9999, tlm1, tlm9, tlm50, tl2147483647]; omega)) (by first | omega | assumption | (try simp only [tl0, tl1, tl2, tl3, tl4, tl5, tl6, tl8, tl9, tl10, tl50, tl81, tl100, tl1000, tl9999, tlm1, tlm9, tlm50, tl2147483647]; omega)) (by first | omega | assumption | (try simp only [tl0, tl1, tl2, tl3, tl4, tl5, tl6, tl8, tl9, tl10, tl50, tl81, tl100, tl1000, tl9999, tlm1, tlm9, tlm50, tl2147483647]; omega))
set_option maxRecDepth 4000 in
theorem ok_X8_through (i4 : Int32) (f13 : Nat → Int32) (i3 : Int32) (h0 : 2 ≤ i4.toInt ∧ i4.toInt ≤ 9) : Ok (fX8_through i4 f13 i3) (fun z => True) := by
  unfold fX8_through
  refine Ok_mono (okL_X8_through_L5 i4 f13 i3 (by first | omega | assumption | (try simp only [tl0, tl1, tl2, tl3, tl4, tl5, tl6, tl8, tl9, tl10, tl50, tl81, tl100, tl1000, tl9999, tlm1, tlm9, tlm50, tl2147483647]; omega)) 600 (0 : Int32) (0 : Int32) (by first | omega | assumption | (try simp only [tl0, tl1, tl2, tl3, tl4, tl5, tl6, tl8, tl9, tl10, tl50, tl81, tl100, tl1000, tl9999, tlm1, tlm9, tlm50, tl2147483647]; omega)) (by first | omega | assumption | (try simp only [tl0, tl1, tl2, tl3, tl4, tl5, tl6, tl8, tl9, tl10, tl50, tl81, tl100, tl1000, tl9999, tlm1, tlm9, tlm50, tl2147483647]; omega)) (by first | omega | assumption | (try simp only [tl0, tl1, tl2, tl3, tl4, tl5, tl6, tl8, tl9, tl10, tl50, tl81, tl100, tl1000, tl9999, tlm1, tlm9, tlm50, tl2147483647]; omega))) ?_
  intro z hz
  first | exact hz | (simp only [Sx] at *; omega) | (dsimp only at *; omega)
set_option maxRecDepth 4000 in
theorem ok_X8_isCut (i1 : Int32) (i2 : Int32) (i3 : Int32)  : Ok (fX8_isCut i1 i2 i3) (fun z => True) := by
  unfold fX8_isCut
  refine Ok_if ?_ ?_
  · intro h
    have c57 : ((i1 >>> (i2 &&& 31)) &&& (1 : Int32)).toInt = 1 := i32eq h
    refine Ok_if ?_ ?_
    · intro h
      have c58 : ((i1 >>> (i3 &&& 31)) &&& (1 : Int32)).toInt = 0 := i32eq h
      exact Ok_some trivial
    · intro h
      have c59 : ((i1 >>> (i3 &&& 31)) &&& (1 : Int32)).toInt ≠ 0 := i32ne h
      exact Ok_some trivial
  · intro h
    have c60 : ((i1 >>> (i2 &&& 31)) &&& (1 : Int32)).toInt ≠ 1 := i32ne h
    exact Ok_some trivial
set_option maxRecDepth 4000 in
theorem okL_X8_least_L7 (i5 : Int32) (f14 : Nat → Int32) (i3 : Int32) (i4 : Int32)   (g0 : 2 ≤ i5.toInt ∧ i5.toInt ≤ 9)  : ∀ (n : Nat) (i35 : Int32) (i36 : Int32), 0 ≤ i36.toInt → ((1 : Int32) <<< (i5 &&& 31)).toInt - i36.toInt < n → 0 < n → Ok (LX8_least_L7 i5 f14 i3 i4 n i35 i36 ) (fun z => True) := by
  intro n
  induction n with
  | zero => intro i35 i36 v0 hm h0; exact absurd h0 (Nat.lt_irrefl 0)
  | succ n ih =>
    intro i35 i36 v0 hm h0
    show Ok (BX8_least_L7 i5 f14 i3 i4 i35 i36 (fun i35 i36 => LX8_least_L7 i5 f14 i3 i4 n i35 i36 ) ) _
    unfold BX8_least_L7
    refine Ok_if ?_ ?_
    · intro h
      try (have e62 := sh9 (x := i5) (by omega) (by omega))
      have c61 : ((1 : Int32) <<< (i5 &&& 31)).toInt ≤ i36.toInt := i32le h
      exact Ok_some trivial
    · intro h
      try (have e64 := sh9 (x := i5) (by omega) (by omega))
      have c63 : i36.toInt < ((1 : Int32) <<< (i5 &&& 31)).toInt := i32nle h
      refine Ok_bind (ok_X8_isCut i36 i3 i4) (fun z37 hz37 => ?_)
      refine Ok_jn (fun k38 wk38 => ?_)
      refine Ok_if ?_ ?_
      · intro h
        have c65 : z37.toInt = 0 := i32eq h
        rw [wk38]
        show Ok ((fun i35 i36 => LX8_least_L7 i5 f14 i3 i4 n i35 i36 ) i35 (i36 + (1 : Int32))) _
        try (have e66 := inc_iv (x := i36) (by omega))
        exact ih i35 (i36 + (1 : Int32)) (by first | omega | assumption | (try simp only [tl0, tl1, tl2, tl3, tl4, tl5, tl6, tl8, tl9, tl10, tl50, tl81, tl100, tl1000, tl9999, tlm1, tlm9, tlm50, tl2147483647]; omega)) (by first | omega | assumption | (try simp only [tl0, tl1, tl2, tl3, tl4, tl5, tl6, tl8, tl9, tl10, tl50, tl81, tl100, tl1000, tl9999, tlm1, tlm9, tlm50, tl2147483647]; omega)) (by first | omega | assumption | (try simp only [tl0, tl1, tl2, tl3, tl4, tl5, tl6, tl8, tl9, tl10, tl50, tl81, tl100, tl1000, tl9999, tlm1, tlm9, tlm50, tl2147483647]; omega))
      · intro h
        have c67 : z37.toInt ≠ 0 := i32ne h
        refine Ok_bind (ok_X8_through i5 f14 i36 (by first | omega | assumption | (try simp only [tl0, tl1, tl2, tl3, tl4, tl5, tl6, tl8, tl9, tl10, tl50, tl81, tl100, tl1000, tl9999, tlm1, tlm9, tlm50, tl2147483647]; omega))) (fun z40 hz40 => ?_)
        refine Ok_nm (fun i41 wi41 => ?_)
        have qi41 := i32eq wi41
        rw [wk38]
        show Ok ((fun i35 i36 => LX8_least_L7 i5 f14 i3 i4 n i35 i36 ) i41 (i36 + (1 : Int32))) _
        try (have e68 := inc_iv (x := i36) (by omega))
        exact ih i41 (i36 + (1 : Int32)) (by first | omega | assumption | (try simp only [tl0, tl1, tl2, tl3, tl4, tl5, tl6, tl8, tl9, tl10, tl50, tl81, tl100, tl1000, tl9999, tlm1, tlm9, tlm50, tl2147483647]; omega)) (by first | omega | assumption | (try simp only [tl0, tl1, tl2, tl3, tl4, tl5, tl6, tl8, tl9, tl10, tl50, tl81, tl100, tl1000, tl9999, tlm1, tlm9, tlm50, tl2147483647]; omega)) (by first | omega | assumption | (try simp only [tl0, tl1, tl2, tl3, tl4, tl5, tl6, tl8, tl9, tl10, tl50, tl81, tl100, tl1000, tl9999, tlm1, tlm9, tlm50, tl2147483647]; omega))
set_option maxRecDepth 4000 in
theorem ok_X8_least (i5 : Int32) (f14 : Nat → Int32) (i3 : Int32) (i4 : Int32) (h0 : 2 ≤ i5.toInt ∧ i5.toInt ≤ 9) : Ok (fX8_least i5 f14 i3 i4) (fun z => True) := by
  unfold fX8_least
  try (have e69 := sh9 (x := i5) (by omega) (by omega))
  refine Ok_mono (okL_X8_least_L7 i5 f14 i3 i4 (by first | omega | assumption | (try simp only [tl0, tl1, tl2, tl3, tl4, tl5, tl6, tl8, tl9, tl10, tl50, tl81, tl100, tl1000, tl9999, tlm1, tlm9, tlm50, tl2147483647]; omega)) 600 (2147483647 : Int32) (0 : Int32) (by first | omega | assumption | (try simp only [tl0, tl1, tl2, tl3, tl4, tl5, tl6, tl8, tl9, tl10, tl50, tl81, tl100, tl1000, tl9999, tlm1, tlm9, tlm50, tl2147483647]; omega)) (by first | omega | assumption | (try simp only [tl0, tl1, tl2, tl3, tl4, tl5, tl6, tl8, tl9, tl10, tl50, tl81, tl100, tl1000, tl9999, tlm1, tlm9, tlm50, tl2147483647]; omega)) (by first | omega | assumption | (try simp only [tl0, tl1, tl2, tl3, tl4, tl5, tl6, tl8, tl9, tl10, tl50, tl81, tl100, tl1000, tl9999, tlm1, tlm9, tlm50, tl2147483647]; omega))) ?_
  intro z hz
  first | exact hz | (simp only [Sx] at *; omega) | (dsimp only at *; omega)
set_option maxRecDepth 4000 in
theorem ok_X8_leastNow (i2 : Int32) (i5 : Int32) (i6 : Int32) (f11 : Nat → Int32) (h0 : 2 ≤ i2.toInt ∧ i2.toInt ≤ 9) (h1 : 0 ≤ i5.toInt ∧ i5.toInt ≤ 8) (h2 : 0 ≤ i6.toInt ∧ i6.toInt ≤ 8) : Ok (fX8_leastNow i2 i5 i6 f11) (fun z => True) := by
  unfold fX8_leastNow
  refine Ok_bind (ok_X8_least i2 f11 i5 i6 (by first | omega | assumption | (try simp only [tl0, tl1, tl2, tl3, tl4, tl5, tl6, tl8, tl9, tl10, tl50, tl81, tl100, tl1000, tl9999, tlm1, tlm9, tlm50, tl2147483647]; omega))) (fun z12 hz12 => ?_)
  exact Ok_some trivial
set_option maxRecDepth 4000 in
theorem okL_X8_leastsNow_L9 (i2 : Int32) (i5 : Int32) (i6 : Int32) (f11 : Nat → Int32) (i31 : Int32)   (g0 : 2 ≤ i2.toInt ∧ i2.toInt ≤ 9) (g1 : 0 ≤ i5.toInt ∧ i5.toInt ≤ 8) (g2 : 0 ≤ i6.toInt ∧ i6.toInt ≤ 8)  : ∀ (n : Nat) (i32 : Int32) (i33 : Int32), 0 ≤ i33.toInt → ((1 : Int32) <<< (i2 &&& 31)).toInt - i33.toInt < n → 0 < n → Ok (LX8_leastsNow_L9 i2 i5 i6 f11 i31 n i32 i33 ) (fun z => True) := by
  intro n
  induction n with
  | zero => intro i32 i33 v0 hm h0; exact absurd h0 (Nat.lt_irrefl 0)
  | succ n ih =>
    intro i32 i33 v0 hm h0
    show Ok (BX8_leastsNow_L9 i2 i5 i6 f11 i31 i32 i33 (fun i32 i33 => LX8_leastsNow_L9 i2 i5 i6 f11 i31 n i32 i33 ) ) _
    unfold BX8_leastsNow_L9
    refine Ok_if ?_ ?_
    · intro h
      try (have e71 := sh9 (x := i2) (by omega) (by omega))
      have c70 : ((1 : Int32) <<< (i2 &&& 31)).toInt ≤ i33.toInt := i32le h
      exact Ok_some trivial
    · intro h
      try (have e73 := sh9 (x := i2) (by omega) (by omega))
      have c72 : i33.toInt < ((1 : Int32) <<< (i2 &&& 31)).toInt := i32nle h
      refine Ok_bind (ok_X8_isCut i33 i5 i6) (fun z34 hz34 => ?_)
      refine Ok_jn (fun k35 wk35 => ?_)
      refine Ok_if ?_ ?_
      · intro h
        have c74 : z34.toInt = 0 := i32eq h
        rw [wk35]
        show Ok ((fun i32 i33 => LX8_leastsNow_L9 i2 i5 i6 f11 i31 n i32 i33 ) i32 (i33 + (1 : Int32))) _
        try (have e75 := inc_iv (x := i33) (by omega))
        exact ih i32 (i33 + (1 : Int32)) (by first | omega | assumption | (try simp only [tl0, tl1, tl2, tl3, tl4, tl5, tl6, tl8, tl9, tl10, tl50, tl81, tl100, tl1000, tl9999, tlm1, tlm9, tlm50, tl2147483647]; omega)) (by first | omega | assumption | (try simp only [tl0, tl1, tl2, tl3, tl4, tl5, tl6, tl8, tl9, tl10, tl50, tl81, tl100, tl1000, tl9999, tlm1, tlm9, tlm50, tl2147483647]; omega)) (by first | omega | assumption | (try simp only [tl0, tl1, tl2, tl3, tl4, tl5, tl6, tl8, tl9, tl10, tl50, tl81, tl100, tl1000, tl9999, tlm1, tlm9, tlm50, tl2147483647]; omega))
      · intro h
        have c76 : z34.toInt ≠ 0 := i32ne h
        refine Ok_bind (ok_X8_through i2 f11 i33 (by first | omega | assumption | (try simp only [tl0, tl1, tl2, tl3, tl4, tl5, tl6, tl8, tl9, tl10, tl50, tl81, tl100, tl1000, tl9999, tlm1, tlm9, tlm50, tl2147483647]; omega))) (fun z37 hz37 => ?_)
        refine Ok_if ?_ ?_
        · intro h
          have c77 : z37.toInt = i31.toInt := i32eq h
          try (have e78 := inc_iv (x := i32) (by omega))
          rw [wk35]
          show Ok ((fun i32 i33 => LX8_leastsNow_L9 i2 i5 i6 f11 i31 n i32 i33 ) (i32 + (1 : Int32)) (i33 + (1 : Int32))) _
          try (have e79 := inc_iv (x := i33) (by omega))
          exact ih (i32 + (1 : Int32)) (i33 + (1 : Int32)) (by first | omega | assumption | (try simp only [tl0, tl1, tl2, tl3, tl4, tl5, tl6, tl8, tl9, tl10, tl50, tl81, tl100, tl1000, tl9999, tlm1, tlm9, tlm50, tl2147483647]; omega)) (by first | omega | assumption | (try simp only [tl0, tl1, tl2, tl3, tl4, tl5, tl6, tl8, tl9, tl10, tl50, tl81, tl100, tl1000, tl9999, tlm1, tlm9, tlm50, tl2147483647]; omega)) (by first | omega | assumption | (try simp only [tl0, tl1, tl2, tl3, tl4, tl5, tl6, tl8, tl9, tl10, tl50, tl81, tl100, tl1000, tl9999, tlm1, tlm9, tlm50, tl2147483647]; omega))
        · intro h
          have c80 : z37.toInt ≠ i31.toInt := i32ne h
          rw [wk35]
          show Ok ((fun i32 i33 => LX8_leastsNow_L9 i2 i5 i6 f11 i31 n i32 i33 ) i32 (i33 + (1 : Int32))) _
          try (have e81 := inc_iv (x := i33) (by omega))
          exact ih i32 (i33 + (1 : Int32)) (by first | omega | assumption | (try simp only [tl0, tl1, tl2, tl3, tl4, tl5, tl6, tl8, tl9, tl10, tl50, tl81, tl100, tl1000, tl9999, tlm1, tlm9, tlm50, tl2147483647]; omega)) (by first | omega | assumption | (try simp only [tl0, tl1, tl2, tl3, tl4, tl5, tl6, tl8, tl9, tl10, tl50, tl81, tl100, tl1000, tl9999, tlm1, tlm9, tlm50, tl2147483647]; omega)) (by first | omega | assumption | (try simp only [tl0, tl1, tl2, tl3, tl4, tl5, tl6, tl8, tl9, tl10, tl50, tl81, tl100, tl1000, tl9999, tlm1, tlm9, tlm50, tl2147483647]; omega))
set_option maxRecDepth 4000 in
theorem ok_X8_leastsNow (i2 : Int32) (i5 : Int32) (i6 : Int32) (f11 : Nat → Int32) (h0 : 2 ≤ i2.toInt ∧ i2.toInt ≤ 9) (h1 : 0 ≤ i5.toInt ∧ i5.toInt ≤ 8) (h2 : 0 ≤ i6.toInt ∧ i6.toInt ≤ 8) : Ok (fX8_leastsNow i2 i5 i6 f11) (fun z => True) := by
  unfold fX8_leastsNow
  refine Ok_bind (ok_X8_leastNow i2 i5 i6 f11 (by first | omega | assumption | (try simp only [tl0, tl1, tl2, tl3, tl4, tl5, tl6, tl8, tl9, tl10, tl50, tl81, tl100, tl1000, tl9999, tlm1, tlm9, tlm50, tl2147483647]; omega)) (by first | omega | assumption | (try simp only [tl0, tl1, tl2, tl3, tl4, tl5, tl6, tl8, tl9, tl10, tl50, tl81, tl100, tl1000, tl9999, tlm1, tlm9, tlm50, tl2147483647]; omega)) (by first | omega | assumption | (try simp only [tl0, tl1, tl2, tl3, tl4, tl5, tl6, tl8, tl9, tl10, tl50, tl81, tl100, tl1000, tl9999, tlm1, tlm9, tlm50, tl2147483647]; omega))) (fun z12 hz12 => ?_)
  try (have e82 := sh9 (x := i2) (by omega) (by omega))
  refine Ok_mono (okL_X8_leastsNow_L9 i2 i5 i6 f11 z12 (by first | omega | assumption | (try simp only [tl0, tl1, tl2, tl3, tl4, tl5, tl6, tl8, tl9, tl10, tl50, tl81, tl100, tl1000, tl9999, tlm1, tlm9, tlm50, tl2147483647]; omega)) (by first | omega | assumption | (try simp only [tl0, tl1, tl2, tl3, tl4, tl5, tl6, tl8, tl9, tl10, tl50, tl81, tl100, tl1000, tl9999, tlm1, tlm9, tlm50, tl2147483647]; omega)) (by first | omega | assumption | (try simp only [tl0, tl1, tl2, tl3, tl4, tl5, tl6, tl8, tl9, tl10, tl50, tl81, tl100, tl1000, tl9999, tlm1, tlm9, tlm50, tl2147483647]; omega)) 600 (0 : Int32) (0 : Int32) (by first | omega | assumption | (try simp only [tl0, tl1, tl2, tl3, tl4, tl5, tl6, tl8, tl9, tl10, tl50, tl81, tl100, tl1000, tl9999, tlm1, tlm9, tlm50, tl2147483647]; omega)) (by first | omega | assumption | (try simp only [tl0, tl1, tl2, tl3, tl4, tl5, tl6, tl8, tl9, tl10, tl50, tl81, tl100, tl1000, tl9999, tlm1, tlm9, tlm50, tl2147483647]; omega)) (by first | omega | assumption | (try simp only [tl0, tl1, tl2, tl3, tl4, tl5, tl6, tl8, tl9, tl10, tl50, tl81, tl100, tl1000, tl9999, tlm1, tlm9, tlm50, tl2147483647]; omega))) ?_
  intro z hz
  first | exact hz | (simp only [Sx] at *; omega) | (dsimp only at *; omega)
set_option maxRecDepth 4000 in
theorem okL_X8_endNow_L25 (i3 : Int32) (i6 : Int32) (i7 : Int32) (f12 : Nat → Int32) (i2 : Int32) (i39 : Int32)   (g0 : 2 ≤ i3.toInt ∧ i3.toInt ≤ 9) (g1 : 0 ≤ i6.toInt ∧ i6.toInt ≤ 8) (g2 : 0 ≤ i7.toInt ∧ i7.toInt ≤ 8)  : ∀ (n : Nat) (i40 : Int32) (i41 : Int32), 0 ≤ i41.toInt → ((1 : Int32) <<< (i3 &&& 31)).toInt - i41.toInt < n → 0 < n → Ok (LX8_endNow_L25 i3 i6 i7 f12 i2 i39 n i40 i41 ) (fun z => True) := by
  intro n
  induction n with
  | zero => intro i40 i41 v0 hm h0; exact absurd h0 (Nat.lt_irrefl 0)
  | succ n ih =>
    intro i40 i41 v0 hm h0
    show Ok (BX8_endNow_L25 i3 i6 i7 f12 i2 i39 i40 i41 (fun i40 i41 => LX8_endNow_L25 i3 i6 i7 f12 i2 i39 n i40 i41 ) ) _
    unfold BX8_endNow_L25
    refine Ok_if ?_ ?_
    · intro h
      try (have e87 := sh9 (x := i3) (by omega) (by omega))
      have c86 : ((1 : Int32) <<< (i3 &&& 31)).toInt ≤ i41.toInt := i32le h
      exact Ok_some trivial
    · intro h
      try (have e89 := sh9 (x := i3) (by omega) (by omega))
      have c88 : i41.toInt < ((1 : Int32) <<< (i3 &&& 31)).toInt := i32nle h
      refine Ok_bind (ok_X8_isCut i41 i6 i7) (fun z42 hz42 => ?_)
      refine Ok_jn (fun k43 wk43 => ?_)
      refine Ok_if ?_ ?_
      · intro h
        have c90 : z42.toInt = 0 := i32eq h
        rw [wk43]
        show Ok ((fun i40 i41 => LX8_endNow_L25 i3 i6 i7 f12 i2 i39 n i40 i41 ) i40 (i41 + (1 : Int32))) _
        try (have e91 := inc_iv (x := i41) (by omega))
        exact ih i40 (i41 + (1 : Int32)) (by first | omega | assumption | (try simp only [tl0, tl1, tl2, tl3, tl4, tl5, tl6, tl8, tl9, tl10, tl50, tl81, tl100, tl1000, tl9999, tlm1, tlm9, tlm50, tl2147483647]; omega)) (by first | omega | assumption | (try simp only [tl0, tl1, tl2, tl3, tl4, tl5, tl6, tl8, tl9, tl10, tl50, tl81, tl100, tl1000, tl9999, tlm1, tlm9, tlm50, tl2147483647]; omega)) (by first | omega | assumption | (try simp only [tl0, tl1, tl2, tl3, tl4, tl5, tl6, tl8, tl9, tl10, tl50, tl81, tl100, tl1000, tl9999, tlm1, tlm9, tlm50, tl2147483647]; omega))
      · intro h
        have c92 : z42.toInt ≠ 0 := i32ne h
        refine Ok_bind (ok_X8_through i3 f12 i41 (by first | omega | assumption | (try simp only [tl0, tl1, tl2, tl3, tl4, tl5, tl6, tl8, tl9, tl10, tl50, tl81, tl100, tl1000, tl9999, tlm1, tlm9, tlm50, tl2147483647]; omega))) (fun z45 hz45 => ?_)
        refine Ok_if ?_ ?_
        · intro h
          have c93 : z45.toInt = i39.toInt := i32eq h
          refine Ok_jn (fun k46 wk46 => ?_)
          refine Ok_if ?_ ?_
          · intro h
            have c94 : i2.toInt = 0 := i32eq h
            rw [wk46]
            show Ok (k43 (i40 &&& i41)) _
            rw [wk43]
            show Ok ((fun i40 i41 => LX8_endNow_L25 i3 i6 i7 f12 i2 i39 n i40 i41 ) (i40 &&& i41) (i41 + (1 : Int32))) _
            try (have e95 := inc_iv (x := i41) (by omega))
            exact ih (i40 &&& i41) (i41 + (1 : Int32)) (by first | omega | assumption | (try simp only [tl0, tl1, tl2, tl3, tl4, tl5, tl6, tl8, tl9, tl10, tl50, tl81, tl100, tl1000, tl9999, tlm1, tlm9, tlm50, tl2147483647]; omega)) (by first | omega | assumption | (try simp only [tl0, tl1, tl2, tl3, tl4, tl5, tl6, tl8, tl9, tl10, tl50, tl81, tl100, tl1000, tl9999, tlm1, tlm9, tlm50, tl2147483647]; omega)) (by first | omega | assumption | (try simp only [tl0, tl1, tl2, tl3, tl4, tl5, tl6, tl8, tl9, tl10, tl50, tl81, tl100, tl1000, tl9999, tlm1, tlm9, tlm50, tl2147483647]; omega))
          · intro h
            have c96 : i2.toInt ≠ 0 := i32ne h
            rw [wk46]
            show Ok (k43 (i40 ||| i41)) _
            rw [wk43]
            show Ok ((fun i40 i41 => LX8_endNow_L25 i3 i6 i7 f12 i2 i39 n i40 i41 ) (i40 ||| i41) (i41 + (1 : Int32))) _
            try (have e97 := inc_iv (x := i41) (by omega))
            exact ih (i40 ||| i41) (i41 + (1 : Int32)) (by first | omega | assumption | (try simp only [tl0, tl1, tl2, tl3, tl4, tl5, tl6, tl8, tl9, tl10, tl50, tl81, tl100, tl1000, tl9999, tlm1, tlm9, tlm50, tl2147483647]; omega)) (by first | omega | assumption | (try simp only [tl0, tl1, tl2, tl3, tl4, tl5, tl6, tl8, tl9, tl10, tl50, tl81, tl100, tl1000, tl9999, tlm1, tlm9, tlm50, tl2147483647]; omega)) (by first | omega | assumption | (try simp only [tl0, tl1, tl2, tl3, tl4, tl5, tl6, tl8, tl9, tl10, tl50, tl81, tl100, tl1000, tl9999, tlm1, tlm9, tlm50, tl2147483647]; omega))
        · intro h
          have c98 : z45.toInt ≠ i39.toInt := i32ne h
          rw [wk43]
          show Ok ((fun i40 i41 => LX8_endNow_L25 i3 i6 i7 f12 i2 i39 n i40 i41 ) i40 (i41 + (1 : Int32))) _
          try (have e99 := inc_iv (x := i41) (by omega))
          exact ih i40 (i41 + (1 : Int32)) (by first | omega | assumption | (try simp only [tl0, tl1, tl2, tl3, tl4, tl5, tl6, tl8, tl9, tl10, tl50, tl81, tl100, tl1000, tl9999, tlm1, tlm9, tlm50, tl2147483647]; omega)) (by first | omega | assumption | (try simp only [tl0, tl1, tl2, tl3, tl4, tl5, tl6, tl8, tl9, tl10, tl50, tl81, tl100, tl1000, tl9999, tlm1, tlm9, tlm50, tl2147483647]; omega)) (by first | omega | assumption | (try simp only [tl0, tl1, tl2, tl3, tl4, tl5, tl6, tl8, tl9, tl10, tl50, tl81, tl100, tl1000, tl9999, tlm1, tlm9, tlm50, tl2147483647]; omega))
set_option maxRecDepth 4000 in
theorem ok_X8_endNow (i3 : Int32) (i6 : Int32) (i7 : Int32) (f12 : Nat → Int32) (i2 : Int32) (h0 : 2 ≤ i3.toInt ∧ i3.toInt ≤ 9) (h1 : 0 ≤ i6.toInt ∧ i6.toInt ≤ 8) (h2 : 0 ≤ i7.toInt ∧ i7.toInt ≤ 8) : Ok (fX8_endNow i3 i6 i7 f12 i2) (fun z => True) := by
  unfold fX8_endNow
  refine Ok_bind (ok_X8_leastNow i3 i6 i7 f12 (by first | omega | assumption | (try simp only [tl0, tl1, tl2, tl3, tl4, tl5, tl6, tl8, tl9, tl10, tl50, tl81, tl100, tl1000, tl9999, tlm1, tlm9, tlm50, tl2147483647]; omega)) (by first | omega | assumption | (try simp only [tl0, tl1, tl2, tl3, tl4, tl5, tl6, tl8, tl9, tl10, tl50, tl81, tl100, tl1000, tl9999, tlm1, tlm9, tlm50, tl2147483647]; omega)) (by first | omega | assumption | (try simp only [tl0, tl1, tl2, tl3, tl4, tl5, tl6, tl8, tl9, tl10, tl50, tl81, tl100, tl1000, tl9999, tlm1, tlm9, tlm50, tl2147483647]; omega))) (fun z13 hz13 => ?_)
  refine Ok_jn (fun k14 wk14 => ?_)
  refine Ok_if ?_ ?_
  · intro h
    have c83 : i2.toInt = 0 := i32eq h
    try (have e84 := sh9 (x := i3) (by omega) (by omega))
    try (have e85 := dec_iv (x := ((1 : Int32) <<< (i3 &&& 31))) (by omega))
    rw [wk14]
    show Ok (LX8_endNow_L25  i3 i6 i7 f12 i2 z13 600 (((1 : Int32) <<< (i3 &&& 31)) - (1 : Int32)) (0 : Int32)) _
    refine Ok_mono (okL_X8_endNow_L25 i3 i6 i7 f12 i2 z13 (by first | omega | assumption | (try simp only [tl0, tl1, tl2, tl3, tl4, tl5, tl6, tl8, tl9, tl10, tl50, tl81, tl100, tl1000, tl9999, tlm1, tlm9, tlm50, tl2147483647]; omega)) (by first | omega | assumption | (try simp only [tl0, tl1, tl2, tl3, tl4, tl5, tl6, tl8, tl9, tl10, tl50, tl81, tl100, tl1000, tl9999, tlm1, tlm9, tlm50, tl2147483647]; omega)) (by first | omega | assumption | (try simp only [tl0, tl1, tl2, tl3, tl4, tl5, tl6, tl8, tl9, tl10, tl50, tl81, tl100, tl1000, tl9999, tlm1, tlm9, tlm50, tl2147483647]; omega)) 600 (((1 : Int32) <<< (i3 &&& 31)) - (1 : Int32)) (0 : Int32) (by first | omega | assumption | (try simp only [tl0, tl1, tl2, tl3, tl4, tl5, tl6, tl8, tl9, tl10, tl50, tl81, tl100, tl1000, tl9999, tlm1, tlm9, tlm50, tl2147483647]; omega)) (by first | omega | assumption | (try simp only [tl0, tl1, tl2, tl3, tl4, tl5, tl6, tl8, tl9, tl10, tl50, tl81, tl100, tl1000, tl9999, tlm1, tlm9, tlm50, tl2147483647]; omega)) (by first | omega | assumption | (try simp only [tl0, tl1, tl2, tl3, tl4, tl5, tl6, tl8, tl9, tl10, tl50, tl81, tl100, tl1000, tl9999, tlm1, tlm9, tlm50, tl2147483647]; omega))) ?_
    intro z hz
    first | exact hz | (simp only [Sx] at *; omega) | (dsimp only at *; omega)
  · intro h
    have c100 : i2.toInt ≠ 0 := i32ne h
    rw [wk14]
    show Ok (LX8_endNow_L25  i3 i6 i7 f12 i2 z13 600 (0 : Int32) (0 : Int32)) _
    try (have e101 := sh9 (x := i3) (by omega) (by omega))
    refine Ok_mono (okL_X8_endNow_L25 i3 i6 i7 f12 i2 z13 (by first | omega | assumption | (try simp only [tl0, tl1, tl2, tl3, tl4, tl5, tl6, tl8, tl9, tl10, tl50, tl81, tl100, tl1000, tl9999, tlm1, tlm9, tlm50, tl2147483647]; omega)) (by first | omega | assumption | (try simp only [tl0, tl1, tl2, tl3, tl4, tl5, tl6, tl8, tl9, tl10, tl50, tl81, tl100, tl1000, tl9999, tlm1, tlm9, tlm50, tl2147483647]; omega)) (by first | omega | assumption | (try simp only [tl0, tl1, tl2, tl3, tl4, tl5, tl6, tl8, tl9, tl10, tl50, tl81, tl100, tl1000, tl9999, tlm1, tlm9, tlm50, tl2147483647]; omega)) 600 (0 : Int32) (0 : Int32) (by first | omega | assumption | (try simp only [tl0, tl1, tl2, tl3, tl4, tl5, tl6, tl8, tl9, tl10, tl50, tl81, tl100, tl1000, tl9999, tlm1, tlm9, tlm50, tl2147483647]; omega)) (by first | omega | assumption | (try simp only [tl0, tl1, tl2, tl3, tl4, tl5, tl6, tl8, tl9, tl10, tl50, tl81, tl100, tl1000, tl9999, tlm1, tlm9, tlm50, tl2147483647]; omega)) (by first | omega | assumption | (try simp only [tl0, tl1, tl2, tl3, tl4, tl5, tl6, tl8, tl9, tl10, tl50, tl81, tl100, tl1000, tl9999, tlm1, tlm9, tlm50, tl2147483647]; omega))) ?_
    intro z hz
    first | exact hz | (simp only [Sx] at *; omega) | (dsimp only at *; omega)
set_option maxRecDepth 4000 in
theorem okL_X8_flowRow_L10 (f11 : Nat → Int32)     : ∀ (n : Nat) (i26 : Int32) (f27 : Nat → Int32), 0 ≤ i26.toInt → 81 - i26.toInt < n → 0 < n → Ok (LX8_flowRow_L10 f11 n i26 f27 ) (fun z => True) := by
  intro n
  induction n with
  | zero => intro i26 f27 v0 hm h0; exact absurd h0 (Nat.lt_irrefl 0)
  | succ n ih =>
    intro i26 f27 v0 hm h0
    show Ok (BX8_flowRow_L10 f11 i26 f27 (fun i26 f27 => LX8_flowRow_L10 f11 n i26 f27 ) ) _
    unfold BX8_flowRow_L10
    refine Ok_if ?_ ?_
    · intro h
      have c102 : 81 ≤ i26.toInt := i32le h
      exact Ok_some trivial
    · intro h
      have c103 : i26.toInt < 81 := i32nle h
      refine Ok_inB (vp_of (by first | omega | assumption | (try simp only [tl0, tl1, tl2, tl3, tl4, tl5, tl6, tl8, tl9, tl10, tl50, tl81, tl100, tl1000, tl9999, tlm1, tlm9, tlm50, tl2147483647]; omega)) (by first | omega | assumption | (try simp only [tl0, tl1, tl2, tl3, tl4, tl5, tl6, tl8, tl9, tl10, tl50, tl81, tl100, tl1000, tl9999, tlm1, tlm9, tlm50, tl2147483647]; omega))) ?_
      refine Ok_inB (vp_of (by first | omega | assumption | (try simp only [tl0, tl1, tl2, tl3, tl4, tl5, tl6, tl8, tl9, tl10, tl50, tl81, tl100, tl1000, tl9999, tlm1, tlm9, tlm50, tl2147483647]; omega)) (by first | omega | assumption | (try simp only [tl0, tl1, tl2, tl3, tl4, tl5, tl6, tl8, tl9, tl10, tl50, tl81, tl100, tl1000, tl9999, tlm1, tlm9, tlm50, tl2147483647]; omega))) ?_
      try (have e104 := inc_iv (x := i26) (by omega))
      exact ih (i26 + (1 : Int32)) (upd f27 i26.toNatClampNeg (f11 i26.toNatClampNeg)) (by first | omega | assumption | (try simp only [tl0, tl1, tl2, tl3, tl4, tl5, tl6, tl8, tl9, tl10, tl50, tl81, tl100, tl1000, tl9999, tlm1, tlm9, tlm50, tl2147483647]; omega)) (by first | omega | assumption | (try simp only [tl0, tl1, tl2, tl3, tl4, tl5, tl6, tl8, tl9, tl10, tl50, tl81, tl100, tl1000, tl9999, tlm1, tlm9, tlm50, tl2147483647]; omega)) (by first | omega | assumption | (try simp only [tl0, tl1, tl2, tl3, tl4, tl5, tl6, tl8, tl9, tl10, tl50, tl81, tl100, tl1000, tl9999, tlm1, tlm9, tlm50, tl2147483647]; omega))
set_option maxRecDepth 4000 in
theorem ok_X8_flowRow (f11 : Nat → Int32)  : Ok (fX8_flowRow f11) (fun z => True) := by
  unfold fX8_flowRow
  refine Ok_mono (okL_X8_flowRow_L10 f11 600 (0 : Int32) (fun _ => 0) (by first | omega | assumption | (try simp only [tl0, tl1, tl2, tl3, tl4, tl5, tl6, tl8, tl9, tl10, tl50, tl81, tl100, tl1000, tl9999, tlm1, tlm9, tlm50, tl2147483647]; omega)) (by first | omega | assumption | (try simp only [tl0, tl1, tl2, tl3, tl4, tl5, tl6, tl8, tl9, tl10, tl50, tl81, tl100, tl1000, tl9999, tlm1, tlm9, tlm50, tl2147483647]; omega)) (by first | omega | assumption | (try simp only [tl0, tl1, tl2, tl3, tl4, tl5, tl6, tl8, tl9, tl10, tl50, tl81, tl100, tl1000, tl9999, tlm1, tlm9, tlm50, tl2147483647]; omega))) ?_
  intro z hz
  first | exact hz | (simp only [Sx] at *; omega) | (dsimp only at *; omega)
set_option maxRecDepth 4000 in
theorem ok_X8_places (i3 : Int32) (i6 : Int32) (i7 : Int32) (i8 : Int32) (f12 : Nat → Int32) (f13 : Nat → Int32) (i2 : Int32) (h0 : 2 ≤ i3.toInt ∧ i3.toInt ≤ 9) (h1 : 0 ≤ i6.toInt ∧ i6.toInt ≤ 8) (h2 : 0 ≤ i7.toInt ∧ i7.toInt ≤ 8) : Ok (fX8_places i3 i6 i7 i8 f12 f13 i2) (fun z => (2 ≤ z.2.1.toInt ∧ z.2.1.toInt ≤ 9) ∧ (0 ≤ z.2.2.1.toInt ∧ z.2.2.1.toInt ≤ 8) ∧ (0 ≤ z.2.2.2.1.toInt ∧ z.2.2.2.1.toInt ≤ 8)) := by
  unfold fX8_places
  refine Ok_jn (fun k14 wk14 => ?_)
  refine Ok_jn (fun k16 wk16 => ?_)
  refine Ok_if ?_ ?_
  · intro h
    have c105 : i2.toInt < 2 := i32lt h
    rw [wk16]
    show Ok (k14 (1 : Int32)) _
    rw [wk14]
    show Ok ((fX8_isThrown_ (1 : Int32)).bind (fun z19 => if z19.1 = (0 : Int32) then ((fX8_begin i2).bind (fun z20 => (fX8_did i8 i3).bind (fun z23 => some (z23.1, i2, (0 : Int32), z20, z23.2, z19.2, (fun _ => 0), (fun _ => 0))))) else (some ((0 : Int32), i3, i6, i7, i8, z19.2, f12, f13)))) _
    refine Ok_bind (ok_X8_isThrown_ (1 : Int32)) (fun z19 hz19 => ?_)
    try dsimp only at hz19
    try simp only [tl0, tl1, tl2, tl3, tl4, tl5, tl6, tl8, tl9, tl10, tl50, tl81, tl100, tl1000, tl9999, tlm1, tlm9, tlm50, tl2147483647] at hz19
    refine Ok_if ?_ ?_
    · intro h
      have c106 : z19.1.toInt = 0 := i32eq h
      refine Ok_bind (ok_X8_begin i2 (by first | omega | assumption | (try simp only [tl0, tl1, tl2, tl3, tl4, tl5, tl6, tl8, tl9, tl10, tl50, tl81, tl100, tl1000, tl9999, tlm1, tlm9, tlm50, tl2147483647]; omega)) (by first | omega | assumption | (try simp only [tl0, tl1, tl2, tl3, tl4, tl5, tl6, tl8, tl9, tl10, tl50, tl81, tl100, tl1000, tl9999, tlm1, tlm9, tlm50, tl2147483647]; omega))) (fun z20 hz20 => ?_)
      try dsimp only at hz20
      try simp only [tl0, tl1, tl2, tl3, tl4, tl5, tl6, tl8, tl9, tl10, tl50, tl81, tl100, tl1000, tl9999, tlm1, tlm9, tlm50, tl2147483647] at hz20
      refine Ok_bind (ok_X8_did i8 i3) (fun z23 hz23 => ?_)
      refine Ok_some ?_
      try dsimp only
      try simp only [tl0, tl1, tl2, tl3, tl4, tl5, tl6, tl8, tl9, tl10, tl50, tl81, tl100, tl1000, tl9999, tlm1, tlm9, tlm50, tl2147483647]
      first | trivial | omega | (simp; done) | (simp; omega) | (repeat' first | assumption | omega | apply And.intro)
    · intro h
      have c107 : z19.1.toInt ≠ 0 := i32ne h
      refine Ok_some ?_
      try dsimp only
      try simp only [tl0, tl1, tl2, tl3, tl4, tl5, tl6, tl8, tl9, tl10, tl50, tl81, tl100, tl1000, tl9999, tlm1, tlm9, tlm50, tl2147483647]
      first | trivial | omega | (simp; done) | (simp; omega) | (repeat' first | assumption | omega | apply And.intro)
  · intro h
    have c108 : 2 ≤ i2.toInt := i32nlt h
    refine Ok_if ?_ ?_
    · intro h
      have c109 : i2.toInt ≤ 9 := i32le h
      rw [wk14]
      show Ok ((fX8_isThrown_ (0 : Int32)).bind (fun z19 => if z19.1 = (0 : Int32) then ((fX8_begin i2).bind (fun z20 => (fX8_did i8 i3).bind (fun z23 => some (z23.1, i2, (0 : Int32), z20, z23.2, z19.2, (fun _ => 0), (fun _ => 0))))) else (some ((0 : Int32), i3, i6, i7, i8, z19.2, f12, f13)))) _
      refine Ok_bind (ok_X8_isThrown_ (0 : Int32)) (fun z19 hz19 => ?_)
      try dsimp only at hz19
      try simp only [tl0, tl1, tl2, tl3, tl4, tl5, tl6, tl8, tl9, tl10, tl50, tl81, tl100, tl1000, tl9999, tlm1, tlm9, tlm50, tl2147483647] at hz19
      refine Ok_if ?_ ?_
      · intro h
        have c110 : z19.1.toInt = 0 := i32eq h
        refine Ok_bind (ok_X8_begin i2 (by first | omega | assumption | (try simp only [tl0, tl1, tl2, tl3, tl4, tl5, tl6, tl8, tl9, tl10, tl50, tl81, tl100, tl1000, tl9999, tlm1, tlm9, tlm50, tl2147483647]; omega)) (by first | omega | assumption | (try simp only [tl0, tl1, tl2, tl3, tl4, tl5, tl6, tl8, tl9, tl10, tl50, tl81, tl100, tl1000, tl9999, tlm1, tlm9, tlm50, tl2147483647]; omega))) (fun z20 hz20 => ?_)
        try dsimp only at hz20
        try simp only [tl0, tl1, tl2, tl3, tl4, tl5, tl6, tl8, tl9, tl10, tl50, tl81, tl100, tl1000, tl9999, tlm1, tlm9, tlm50, tl2147483647] at hz20
        refine Ok_bind (ok_X8_did i8 i3) (fun z23 hz23 => ?_)
        refine Ok_some ?_
        try dsimp only
        try simp only [tl0, tl1, tl2, tl3, tl4, tl5, tl6, tl8, tl9, tl10, tl50, tl81, tl100, tl1000, tl9999, tlm1, tlm9, tlm50, tl2147483647]
        first | trivial | omega | (simp; done) | (simp; omega) | (repeat' first | assumption | omega | apply And.intro)
      · intro h
        have c111 : z19.1.toInt ≠ 0 := i32ne h
        refine Ok_some ?_
        try dsimp only
        try simp only [tl0, tl1, tl2, tl3, tl4, tl5, tl6, tl8, tl9, tl10, tl50, tl81, tl100, tl1000, tl9999, tlm1, tlm9, tlm50, tl2147483647]
        first | trivial | omega | (simp; done) | (simp; omega) | (repeat' first | assumption | omega | apply And.intro)
    · intro h
      have c112 : 9 < i2.toInt := i32nle h
      rw [wk16]
      show Ok (k14 (1 : Int32)) _
      rw [wk14]
      show Ok ((fX8_isThrown_ (1 : Int32)).bind (fun z19 => if z19.1 = (0 : Int32) then ((fX8_begin i2).bind (fun z20 => (fX8_did i8 i3).bind (fun z23 => some (z23.1, i2, (0 : Int32), z20, z23.2, z19.2, (fun _ => 0), (fun _ => 0))))) else (some ((0 : Int32), i3, i6, i7, i8, z19.2, f12, f13)))) _
      refine Ok_bind (ok_X8_isThrown_ (1 : Int32)) (fun z19 hz19 => ?_)
      try dsimp only at hz19
      try simp only [tl0, tl1, tl2, tl3, tl4, tl5, tl6, tl8, tl9, tl10, tl50, tl81, tl100, tl1000, tl9999, tlm1, tlm9, tlm50, tl2147483647] at hz19
      refine Ok_if ?_ ?_
      · intro h
        have c113 : z19.1.toInt = 0 := i32eq h
        refine Ok_bind (ok_X8_begin i2 (by first | omega | assumption | (try simp only [tl0, tl1, tl2, tl3, tl4, tl5, tl6, tl8, tl9, tl10, tl50, tl81, tl100, tl1000, tl9999, tlm1, tlm9, tlm50, tl2147483647]; omega)) (by first | omega | assumption | (try simp only [tl0, tl1, tl2, tl3, tl4, tl5, tl6, tl8, tl9, tl10, tl50, tl81, tl100, tl1000, tl9999, tlm1, tlm9, tlm50, tl2147483647]; omega))) (fun z20 hz20 => ?_)
        try dsimp only at hz20
        try simp only [tl0, tl1, tl2, tl3, tl4, tl5, tl6, tl8, tl9, tl10, tl50, tl81, tl100, tl1000, tl9999, tlm1, tlm9, tlm50, tl2147483647] at hz20
        refine Ok_bind (ok_X8_did i8 i3) (fun z23 hz23 => ?_)
        refine Ok_some ?_
        try dsimp only
        try simp only [tl0, tl1, tl2, tl3, tl4, tl5, tl6, tl8, tl9, tl10, tl50, tl81, tl100, tl1000, tl9999, tlm1, tlm9, tlm50, tl2147483647]
        first | trivial | omega | (simp; done) | (simp; omega) | (repeat' first | assumption | omega | apply And.intro)
      · intro h
        have c114 : z19.1.toInt ≠ 0 := i32ne h
        refine Ok_some ?_
        try dsimp only
        try simp only [tl0, tl1, tl2, tl3, tl4, tl5, tl6, tl8, tl9, tl10, tl50, tl81, tl100, tl1000, tl9999, tlm1, tlm9, tlm50, tl2147483647]
        first | trivial | omega | (simp; done) | (simp; omega) | (repeat' first | assumption | omega | apply And.intro)
set_option maxRecDepth 4000 in
theorem ok_X8_ends (i4 : Int32) (i7 : Int32) (i8 : Int32) (i9 : Int32) (f13 : Nat → Int32) (i2 : Int32) (i3 : Int32) (h0 : 2 ≤ i4.toInt ∧ i4.toInt ≤ 9) (h1 : 0 ≤ i7.toInt ∧ i7.toInt ≤ 8) (h2 : 0 ≤ i8.toInt ∧ i8.toInt ≤ 8) : Ok (fX8_ends i4 i7 i8 i9 f13 i2 i3) (fun z => (0 ≤ z.2.1.toInt ∧ z.2.1.toInt ≤ 8) ∧ (0 ≤ z.2.2.1.toInt ∧ z.2.2.1.toInt ≤ 8)) := by
  unfold fX8_ends
  refine Ok_bind (ok_X8_isPlace i4 i2 (by first | omega | assumption | (try simp only [tl0, tl1, tl2, tl3, tl4, tl5, tl6, tl8, tl9, tl10, tl50, tl81, tl100, tl1000, tl9999, tlm1, tlm9, tlm50, tl2147483647]; omega))) (fun z14 hz14 => ?_)
  try dsimp only at hz14
  try simp only [tl0, tl1, tl2, tl3, tl4, tl5, tl6, tl8, tl9, tl10, tl50, tl81, tl100, tl1000, tl9999, tlm1, tlm9, tlm50, tl2147483647] at hz14
  refine Ok_jn (fun k15 wk15 => ?_)
  refine Ok_jn (fun k17 wk17 => ?_)
  refine Ok_if ?_ ?_
  · intro h
    have c115 : z14.toInt = 0 := i32eq h
    rw [wk17]
    show Ok (k15 (1 : Int32)) _
    rw [wk15]
    show Ok (jn (fun (i23 : Int32) => (fX8_isThrown (1 : Int32) i23).bind (fun z24 => if z24.1 = (0 : Int32) then ((fX8_valueNow i4 i7 f13).bind (fun z25 => (fX8_still f13).bind (fun z26 => (fX8_did i9 z25).bind (fun z27 => some (z27.1, i2, i3, z27.2, z24.2, z26))))) else (some ((0 : Int32), i7, i8, i9, z24.2, f13)))) (fun (k21 : Int32 → Option (Int32 × Int32 × Int32 × Int32 × Int32 × (Nat → Int32))) => if i2 = i3 then (k21 (1 : Int32)) else (k21 (0 : Int32)))) _
    refine Ok_jn (fun k21 wk21 => ?_)
    refine Ok_if ?_ ?_
    · intro h
      have c116 : i2.toInt = i3.toInt := i32eq h
      rw [wk21]
      show Ok ((fX8_isThrown (1 : Int32) (1 : Int32)).bind (fun z24 => if z24.1 = (0 : Int32) then ((fX8_valueNow i4 i7 f13).bind (fun z25 => (fX8_still f13).bind (fun z26 => (fX8_did i9 z25).bind (fun z27 => some (z27.1, i2, i3, z27.2, z24.2, z26))))) else (some ((0 : Int32), i7, i8, i9, z24.2, f13)))) _
      refine Ok_bind (ok_X8_isThrown (1 : Int32) (1 : Int32)) (fun z24 hz24 => ?_)
      try dsimp only at hz24
      try simp only [tl0, tl1, tl2, tl3, tl4, tl5, tl6, tl8, tl9, tl10, tl50, tl81, tl100, tl1000, tl9999, tlm1, tlm9, tlm50, tl2147483647] at hz24
      refine Ok_if ?_ ?_
      · intro h
        have c117 : z24.1.toInt = 0 := i32eq h
        refine Ok_bind (ok_X8_valueNow i4 i7 f13 (by first | omega | assumption | (try simp only [tl0, tl1, tl2, tl3, tl4, tl5, tl6, tl8, tl9, tl10, tl50, tl81, tl100, tl1000, tl9999, tlm1, tlm9, tlm50, tl2147483647]; omega)) (by first | omega | assumption | (try simp only [tl0, tl1, tl2, tl3, tl4, tl5, tl6, tl8, tl9, tl10, tl50, tl81, tl100, tl1000, tl9999, tlm1, tlm9, tlm50, tl2147483647]; omega))) (fun z25 hz25 => ?_)
        refine Ok_bind (ok_X8_still f13) (fun z26 hz26 => ?_)
        refine Ok_bind (ok_X8_did i9 z25) (fun z27 hz27 => ?_)
        refine Ok_some ?_
        try dsimp only
        try simp only [tl0, tl1, tl2, tl3, tl4, tl5, tl6, tl8, tl9, tl10, tl50, tl81, tl100, tl1000, tl9999, tlm1, tlm9, tlm50, tl2147483647]
        first | trivial | omega | (simp; done) | (simp; omega) | (repeat' first | assumption | omega | apply And.intro)
      · intro h
        have c118 : z24.1.toInt ≠ 0 := i32ne h
        refine Ok_some ?_
        try dsimp only
        try simp only [tl0, tl1, tl2, tl3, tl4, tl5, tl6, tl8, tl9, tl10, tl50, tl81, tl100, tl1000, tl9999, tlm1, tlm9, tlm50, tl2147483647]
        first | trivial | omega | (simp; done) | (simp; omega) | (repeat' first | assumption | omega | apply And.intro)
    · intro h
      have c119 : i2.toInt ≠ i3.toInt := i32ne h
      rw [wk21]
      show Ok ((fX8_isThrown (1 : Int32) (0 : Int32)).bind (fun z24 => if z24.1 = (0 : Int32) then ((fX8_valueNow i4 i7 f13).bind (fun z25 => (fX8_still f13).bind (fun z26 => (fX8_did i9 z25).bind (fun z27 => some (z27.1, i2, i3, z27.2, z24.2, z26))))) else (some ((0 : Int32), i7, i8, i9, z24.2, f13)))) _
      refine Ok_bind (ok_X8_isThrown (1 : Int32) (0 : Int32)) (fun z24 hz24 => ?_)
      try dsimp only at hz24
      try simp only [tl0, tl1, tl2, tl3, tl4, tl5, tl6, tl8, tl9, tl10, tl50, tl81, tl100, tl1000, tl9999, tlm1, tlm9, tlm50, tl2147483647] at hz24
      refine Ok_if ?_ ?_
      · intro h
        have c120 : z24.1.toInt = 0 := i32eq h
        refine Ok_bind (ok_X8_valueNow i4 i7 f13 (by first | omega | assumption | (try simp only [tl0, tl1, tl2, tl3, tl4, tl5, tl6, tl8, tl9, tl10, tl50, tl81, tl100, tl1000, tl9999, tlm1, tlm9, tlm50, tl2147483647]; omega)) (by first | omega | assumption | (try simp only [tl0, tl1, tl2, tl3, tl4, tl5, tl6, tl8, tl9, tl10, tl50, tl81, tl100, tl1000, tl9999, tlm1, tlm9, tlm50, tl2147483647]; omega))) (fun z25 hz25 => ?_)
        refine Ok_bind (ok_X8_still f13) (fun z26 hz26 => ?_)
        refine Ok_bind (ok_X8_did i9 z25) (fun z27 hz27 => ?_)
        refine Ok_some ?_
        try dsimp only
        try simp only [tl0, tl1, tl2, tl3, tl4, tl5, tl6, tl8, tl9, tl10, tl50, tl81, tl100, tl1000, tl9999, tlm1, tlm9, tlm50, tl2147483647]
        first | trivial | omega | (simp; done) | (simp; omega) | (repeat' first | assumption | omega | apply And.intro)
      · intro h
        have c121 : z24.1.toInt ≠ 0 := i32ne h
        refine Ok_some ?_
        try dsimp only
        try simp only [tl0, tl1, tl2, tl3, tl4, tl5, tl6, tl8, tl9, tl10, tl50, tl81, tl100, tl1000, tl9999, tlm1, tlm9, tlm50, tl2147483647]
        first | trivial | omega | (simp; done) | (simp; omega) | (repeat' first | assumption | omega | apply And.intro)
  · intro h
    have c122 : z14.toInt ≠ 0 := i32ne h
    refine Ok_bind (ok_X8_isPlace i4 i3 (by first | omega | assumption | (try simp only [tl0, tl1, tl2, tl3, tl4, tl5, tl6, tl8, tl9, tl10, tl50, tl81, tl100, tl1000, tl9999, tlm1, tlm9, tlm50, tl2147483647]; omega))) (fun z19 hz19 => ?_)
    try dsimp only at hz19
    try simp only [tl0, tl1, tl2, tl3, tl4, tl5, tl6, tl8, tl9, tl10, tl50, tl81, tl100, tl1000, tl9999, tlm1, tlm9, tlm50, tl2147483647] at hz19
    refine Ok_if ?_ ?_
    · intro h
      have c123 : z19.toInt = 0 := i32eq h
      rw [wk17]
      show Ok (k15 (1 : Int32)) _
      rw [wk15]
      show Ok (jn (fun (i23 : Int32) => (fX8_isThrown (1 : Int32) i23).bind (fun z24 => if z24.1 = (0 : Int32) then ((fX8_valueNow i4 i7 f13).bind (fun z25 => (fX8_still f13).bind (fun z26 => (fX8_did i9 z25).bind (fun z27 => some (z27.1, i2, i3, z27.2, z24.2, z26))))) else (some ((0 : Int32), i7, i8, i9, z24.2, f13)))) (fun (k21 : Int32 → Option (Int32 × Int32 × Int32 × Int32 × Int32 × (Nat → Int32))) => if i2 = i3 then (k21 (1 : Int32)) else (k21 (0 : Int32)))) _
      refine Ok_jn (fun k21 wk21 => ?_)
      refine Ok_if ?_ ?_
      · intro h
        have c124 : i2.toInt = i3.toInt := i32eq h
        rw [wk21]
        show Ok ((fX8_isThrown (1 : Int32) (1 : Int32)).bind (fun z24 => if z24.1 = (0 : Int32) then ((fX8_valueNow i4 i7 f13).bind (fun z25 => (fX8_still f13).bind (fun z26 => (fX8_did i9 z25).bind (fun z27 => some (z27.1, i2, i3, z27.2, z24.2, z26))))) else (some ((0 : Int32), i7, i8, i9, z24.2, f13)))) _
        refine Ok_bind (ok_X8_isThrown (1 : Int32) (1 : Int32)) (fun z24 hz24 => ?_)
        try dsimp only at hz24
        try simp only [tl0, tl1, tl2, tl3, tl4, tl5, tl6, tl8, tl9, tl10, tl50, tl81, tl100, tl1000, tl9999, tlm1, tlm9, tlm50, tl2147483647] at hz24
        refine Ok_if ?_ ?_
        · intro h
          have c125 : z24.1.toInt = 0 := i32eq h
          refine Ok_bind (ok_X8_valueNow i4 i7 f13 (by first | omega | assumption | (try simp only [tl0, tl1, tl2, tl3, tl4, tl5, tl6, tl8, tl9, tl10, tl50, tl81, tl100, tl1000, tl9999, tlm1, tlm9, tlm50, tl2147483647]; omega)) (by first | omega | assumption | (try simp only [tl0, tl1, tl2, tl3, tl4, tl5, tl6, tl8, tl9, tl10, tl50, tl81, tl100, tl1000, tl9999, tlm1, tlm9, tlm50, tl2147483647]; omega))) (fun z25 hz25 => ?_)
          refine Ok_bind (ok_X8_still f13) (fun z26 hz26 => ?_)
          refine Ok_bind (ok_X8_did i9 z25) (fun z27 hz27 => ?_)
          refine Ok_some ?_
          try dsimp only
          try simp only [tl0, tl1, tl2, tl3, tl4, tl5, tl6, tl8, tl9, tl10, tl50, tl81, tl100, tl1000, tl9999, tlm1, tlm9, tlm50, tl2147483647]
          first | trivial | omega | (simp; done) | (simp; omega) | (repeat' first | assumption | omega | apply And.intro)
        · intro h
          have c126 : z24.1.toInt ≠ 0 := i32ne h
          refine Ok_some ?_
          try dsimp only
          try simp only [tl0, tl1, tl2, tl3, tl4, tl5, tl6, tl8, tl9, tl10, tl50, tl81, tl100, tl1000, tl9999, tlm1, tlm9, tlm50, tl2147483647]
          first | trivial | omega | (simp; done) | (simp; omega) | (repeat' first | assumption | omega | apply And.intro)
      · intro h
        have c127 : i2.toInt ≠ i3.toInt := i32ne h
        rw [wk21]
        show Ok ((fX8_isThrown (1 : Int32) (0 : Int32)).bind (fun z24 => if z24.1 = (0 : Int32) then ((fX8_valueNow i4 i7 f13).bind (fun z25 => (fX8_still f13).bind (fun z26 => (fX8_did i9 z25).bind (fun z27 => some (z27.1, i2, i3, z27.2, z24.2, z26))))) else (some ((0 : Int32), i7, i8, i9, z24.2, f13)))) _
        refine Ok_bind (ok_X8_isThrown (1 : Int32) (0 : Int32)) (fun z24 hz24 => ?_)
        try dsimp only at hz24
        try simp only [tl0, tl1, tl2, tl3, tl4, tl5, tl6, tl8, tl9, tl10, tl50, tl81, tl100, tl1000, tl9999, tlm1, tlm9, tlm50, tl2147483647] at hz24
        refine Ok_if ?_ ?_
        · intro h
          have c128 : z24.1.toInt = 0 := i32eq h
          refine Ok_bind (ok_X8_valueNow i4 i7 f13 (by first | omega | assumption | (try simp only [tl0, tl1, tl2, tl3, tl4, tl5, tl6, tl8, tl9, tl10, tl50, tl81, tl100, tl1000, tl9999, tlm1, tlm9, tlm50, tl2147483647]; omega)) (by first | omega | assumption | (try simp only [tl0, tl1, tl2, tl3, tl4, tl5, tl6, tl8, tl9, tl10, tl50, tl81, tl100, tl1000, tl9999, tlm1, tlm9, tlm50, tl2147483647]; omega))) (fun z25 hz25 => ?_)
          refine Ok_bind (ok_X8_still f13) (fun z26 hz26 => ?_)
          refine Ok_bind (ok_X8_did i9 z25) (fun z27 hz27 => ?_)
          refine Ok_some ?_
          try dsimp only
          try simp only [tl0, tl1, tl2, tl3, tl4, tl5, tl6, tl8, tl9, tl10, tl50, tl81, tl100, tl1000, tl9999, tlm1, tlm9, tlm50, tl2147483647]
          first | trivial | omega | (simp; done) | (simp; omega) | (repeat' first | assumption | omega | apply And.intro)
        · intro h
          have c129 : z24.1.toInt ≠ 0 := i32ne h
          refine Ok_some ?_
          try dsimp only
          try simp only [tl0, tl1, tl2, tl3, tl4, tl5, tl6, tl8, tl9, tl10, tl50, tl81, tl100, tl1000, tl9999, tlm1, tlm9, tlm50, tl2147483647]
          first | trivial | omega | (simp; done) | (simp; omega) | (repeat' first | assumption | omega | apply And.intro)
    · intro h
      have c130 : z19.toInt ≠ 0 := i32ne h
      rw [wk15]
      show Ok (jn (fun (i23 : Int32) => (fX8_isThrown (0 : Int32) i23).bind (fun z24 => if z24.1 = (0 : Int32) then ((fX8_valueNow i4 i7 f13).bind (fun z25 => (fX8_still f13).bind (fun z26 => (fX8_did i9 z25).bind (fun z27 => some (z27.1, i2, i3, z27.2, z24.2, z26))))) else (some ((0 : Int32), i7, i8, i9, z24.2, f13)))) (fun (k21 : Int32 → Option (Int32 × Int32 × Int32 × Int32 × Int32 × (Nat → Int32))) => if i2 = i3 then (k21 (1 : Int32)) else (k21 (0 : Int32)))) _
      refine Ok_jn (fun k21 wk21 => ?_)
      refine Ok_if ?_ ?_
      · intro h
        have c131 : i2.toInt = i3.toInt := i32eq h
        rw [wk21]
        show Ok ((fX8_isThrown (0 : Int32) (1 : Int32)).bind (fun z24 => if z24.1 = (0 : Int32) then ((fX8_valueNow i4 i7 f13).bind (fun z25 => (fX8_still f13).bind (fun z26 => (fX8_did i9 z25).bind (fun z27 => some (z27.1, i2, i3, z27.2, z24.2, z26))))) else (some ((0 : Int32), i7, i8, i9, z24.2, f13)))) _
        refine Ok_bind (ok_X8_isThrown (0 : Int32) (1 : Int32)) (fun z24 hz24 => ?_)
        try dsimp only at hz24
        try simp only [tl0, tl1, tl2, tl3, tl4, tl5, tl6, tl8, tl9, tl10, tl50, tl81, tl100, tl1000, tl9999, tlm1, tlm9, tlm50, tl2147483647] at hz24
        refine Ok_if ?_ ?_
        · intro h
          have c132 : z24.1.toInt = 0 := i32eq h
          refine Ok_bind (ok_X8_valueNow i4 i7 f13 (by first | omega | assumption | (try simp only [tl0, tl1, tl2, tl3, tl4, tl5, tl6, tl8, tl9, tl10, tl50, tl81, tl100, tl1000, tl9999, tlm1, tlm9, tlm50, tl2147483647]; omega)) (by first | omega | assumption | (try simp only [tl0, tl1, tl2, tl3, tl4, tl5, tl6, tl8, tl9, tl10, tl50, tl81, tl100, tl1000, tl9999, tlm1, tlm9, tlm50, tl2147483647]; omega))) (fun z25 hz25 => ?_)
          refine Ok_bind (ok_X8_still f13) (fun z26 hz26 => ?_)
          refine Ok_bind (ok_X8_did i9 z25) (fun z27 hz27 => ?_)
          refine Ok_some ?_
          try dsimp only
          try simp only [tl0, tl1, tl2, tl3, tl4, tl5, tl6, tl8, tl9, tl10, tl50, tl81, tl100, tl1000, tl9999, tlm1, tlm9, tlm50, tl2147483647]
          first | trivial | omega | (simp; done) | (simp; omega) | (repeat' first | assumption | omega | apply And.intro)
        · intro h
          have c133 : z24.1.toInt ≠ 0 := i32ne h
          refine Ok_some ?_
          try dsimp only
          try simp only [tl0, tl1, tl2, tl3, tl4, tl5, tl6, tl8, tl9, tl10, tl50, tl81, tl100, tl1000, tl9999, tlm1, tlm9, tlm50, tl2147483647]
          first | trivial | omega | (simp; done) | (simp; omega) | (repeat' first | assumption | omega | apply And.intro)
      · intro h
        have c134 : i2.toInt ≠ i3.toInt := i32ne h
        rw [wk21]
        show Ok ((fX8_isThrown (0 : Int32) (0 : Int32)).bind (fun z24 => if z24.1 = (0 : Int32) then ((fX8_valueNow i4 i7 f13).bind (fun z25 => (fX8_still f13).bind (fun z26 => (fX8_did i9 z25).bind (fun z27 => some (z27.1, i2, i3, z27.2, z24.2, z26))))) else (some ((0 : Int32), i7, i8, i9, z24.2, f13)))) _
        refine Ok_bind (ok_X8_isThrown (0 : Int32) (0 : Int32)) (fun z24 hz24 => ?_)
        try dsimp only at hz24
        try simp only [tl0, tl1, tl2, tl3, tl4, tl5, tl6, tl8, tl9, tl10, tl50, tl81, tl100, tl1000, tl9999, tlm1, tlm9, tlm50, tl2147483647] at hz24
        refine Ok_if ?_ ?_
        · intro h
          have c135 : z24.1.toInt = 0 := i32eq h
          refine Ok_bind (ok_X8_valueNow i4 i7 f13 (by first | omega | assumption | (try simp only [tl0, tl1, tl2, tl3, tl4, tl5, tl6, tl8, tl9, tl10, tl50, tl81, tl100, tl1000, tl9999, tlm1, tlm9, tlm50, tl2147483647]; omega)) (by first | omega | assumption | (try simp only [tl0, tl1, tl2, tl3, tl4, tl5, tl6, tl8, tl9, tl10, tl50, tl81, tl100, tl1000, tl9999, tlm1, tlm9, tlm50, tl2147483647]; omega))) (fun z25 hz25 => ?_)
          refine Ok_bind (ok_X8_still f13) (fun z26 hz26 => ?_)
          refine Ok_bind (ok_X8_did i9 z25) (fun z27 hz27 => ?_)
          refine Ok_some ?_
          try dsimp only
          try simp only [tl0, tl1, tl2, tl3, tl4, tl5, tl6, tl8, tl9, tl10, tl50, tl81, tl100, tl1000, tl9999, tlm1, tlm9, tlm50, tl2147483647]
          first | trivial | omega | (simp; done) | (simp; omega) | (repeat' first | assumption | omega | apply And.intro)
        · intro h
          have c136 : z24.1.toInt ≠ 0 := i32ne h
          refine Ok_some ?_
          try dsimp only
          try simp only [tl0, tl1, tl2, tl3, tl4, tl5, tl6, tl8, tl9, tl10, tl50, tl81, tl100, tl1000, tl9999, tlm1, tlm9, tlm50, tl2147483647]
          first | trivial | omega | (simp; done) | (simp; omega) | (repeat' first | assumption | omega | apply And.intro)
set_option maxRecDepth 4000 in
theorem ok_X8_room_ (i5 : Int32) (i10 : Int32) (i11 : Int32) (f14 : Nat → Int32) (f15 : Nat → Int32) (i2 : Int32) (i3 : Int32) (i4 : Int32) (h0 : 2 ≤ i5.toInt ∧ i5.toInt ≤ 9) : Ok (fX8_room_ i5 i10 i11 f14 f15 i2 i3 i4) (fun z => True) := by
  unfold fX8_room_
  refine Ok_bind (ok_X8_isPlace i5 i2 (by first | omega | assumption | (try simp only [tl0, tl1, tl2, tl3, tl4, tl5, tl6, tl8, tl9, tl10, tl50, tl81, tl100, tl1000, tl9999, tlm1, tlm9, tlm50, tl2147483647]; omega))) (fun z16 hz16 => ?_)
  try dsimp only at hz16
  try simp only [tl0, tl1, tl2, tl3, tl4, tl5, tl6, tl8, tl9, tl10, tl50, tl81, tl100, tl1000, tl9999, tlm1, tlm9, tlm50, tl2147483647] at hz16
  refine Ok_jn (fun k17 wk17 => ?_)
  refine Ok_jn (fun k19 wk19 => ?_)
  refine Ok_if ?_ ?_
  · intro h
    have c137 : z16.toInt = 0 := i32eq h
    rw [wk19]
    show Ok (k17 (1 : Int32)) _
    rw [wk17]
    show Ok (jn (fun (i28 : Int32) => (fX8_isThrown (1 : Int32) i28).bind (fun z29 => if z29.1 = (0 : Int32) then ((fX8_flow f15 i2 i3).bind (fun z30 => if z30 ≤ i4 then ((fX8_room f14 i2 i3).bind (fun z31 => inB ((i2 * (9 : Int32)) + i3) 81 ((fX8_did i10 z31).bind (fun z32 => some (z32.1, z32.2, i11, z29.2, upd f14 ((i2 * (9 : Int32)) + i3).toNatClampNeg i4))))) else ((fX8_no i11).bind (fun z33 => some ((-9 : Int32), i10, z33, z29.2, f14))))) else (some ((0 : Int32), i10, i11, z29.2, f14)))) (fun (k23 : Int32 → Option (Int32 × Int32 × Int32 × Int32 × (Nat → Int32))) => jn (fun (_ : Unit) => k23 (1 : Int32)) (fun (k25 : Unit → Option (Int32 × Int32 × Int32 × Int32 × (Nat → Int32))) => if i2 = i3 then (k25 ()) else ((fX8_isRoom i4).bind (fun z27 => if z27 = (0 : Int32) then (k25 ()) else (k23 (0 : Int32))))))) _
    refine Ok_jn (fun k23 wk23 => ?_)
    refine Ok_jn (fun k25 wk25 => ?_)
    refine Ok_if ?_ ?_
    · intro h
      have c138 : i2.toInt = i3.toInt := i32eq h
      rw [wk25]
      show Ok (k23 (1 : Int32)) _
      rw [wk23]
      show Ok ((fX8_isThrown (1 : Int32) (1 : Int32)).bind (fun z29 => if z29.1 = (0 : Int32) then ((fX8_flow f15 i2 i3).bind (fun z30 => if z30 ≤ i4 then ((fX8_room f14 i2 i3).bind (fun z31 => inB ((i2 * (9 : Int32)) + i3) 81 ((fX8_did i10 z31).bind (fun z32 => some (z32.1, z32.2, i11, z29.2, upd f14 ((i2 * (9 : Int32)) + i3).toNatClampNeg i4))))) else ((fX8_no i11).bind (fun z33 => some ((-9 : Int32), i10, z33, z29.2, f14))))) else (some ((0 : Int32), i10, i11, z29.2, f14)))) _
      refine Ok_bind (ok_X8_isThrown (1 : Int32) (1 : Int32)) (fun z29 hz29 => ?_)
      try dsimp only at hz29
      try simp only [tl0, tl1, tl2, tl3, tl4, tl5, tl6, tl8, tl9, tl10, tl50, tl81, tl100, tl1000, tl9999, tlm1, tlm9, tlm50, tl2147483647] at hz29
      refine Ok_if ?_ ?_
      · intro h
        have c139 : z29.1.toInt = 0 := i32eq h
        refine Ok_bind (ok_X8_flow f15 i2 i3 (by first | omega | assumption | (try simp only [tl0, tl1, tl2, tl3, tl4, tl5, tl6, tl8, tl9, tl10, tl50, tl81, tl100, tl1000, tl9999, tlm1, tlm9, tlm50, tl2147483647]; omega)) (by first | omega | assumption | (try simp only [tl0, tl1, tl2, tl3, tl4, tl5, tl6, tl8, tl9, tl10, tl50, tl81, tl100, tl1000, tl9999, tlm1, tlm9, tlm50, tl2147483647]; omega)) (by first | omega | assumption | (try simp only [tl0, tl1, tl2, tl3, tl4, tl5, tl6, tl8, tl9, tl10, tl50, tl81, tl100, tl1000, tl9999, tlm1, tlm9, tlm50, tl2147483647]; omega)) (by first | omega | assumption | (try simp only [tl0, tl1, tl2, tl3, tl4, tl5, tl6, tl8, tl9, tl10, tl50, tl81, tl100, tl1000, tl9999, tlm1, tlm9, tlm50, tl2147483647]; omega))) (fun z30 hz30 => ?_)
        refine Ok_if ?_ ?_
        · intro h
          have c140 : z30.toInt ≤ i4.toInt := i32le h
          refine Ok_bind (ok_X8_room f14 i2 i3 (by first | omega | assumption | (try simp only [tl0, tl1, tl2, tl3, tl4, tl5, tl6, tl8, tl9, tl10, tl50, tl81, tl100, tl1000, tl9999, tlm1, tlm9, tlm50, tl2147483647]; omega)) (by first | omega | assumption | (try simp only [tl0, tl1, tl2, tl3, tl4, tl5, tl6, tl8, tl9, tl10, tl50, tl81, tl100, tl1000, tl9999, tlm1, tlm9, tlm50, tl2147483647]; omega)) (by first | omega | assumption | (try simp only [tl0, tl1, tl2, tl3, tl4, tl5, tl6, tl8, tl9, tl10, tl50, tl81, tl100, tl1000, tl9999, tlm1, tlm9, tlm50, tl2147483647]; omega)) (by first | omega | assumption | (try simp only [tl0, tl1, tl2, tl3, tl4, tl5, tl6, tl8, tl9, tl10, tl50, tl81, tl100, tl1000, tl9999, tlm1, tlm9, tlm50, tl2147483647]; omega))) (fun z31 hz31 => ?_)
          try (have e141 := idx_iv (x := i2) (y := i3) (by omega) (by omega) (by omega) (by omega))
          refine Ok_inB (vp_of (by first | omega | assumption | (try simp only [tl0, tl1, tl2, tl3, tl4, tl5, tl6, tl8, tl9, tl10, tl50, tl81, tl100, tl1000, tl9999, tlm1, tlm9, tlm50, tl2147483647]; omega)) (by first | omega | assumption | (try simp only [tl0, tl1, tl2, tl3, tl4, tl5, tl6, tl8, tl9, tl10, tl50, tl81, tl100, tl1000, tl9999, tlm1, tlm9, tlm50, tl2147483647]; omega))) ?_
          refine Ok_bind (ok_X8_did i10 z31) (fun z32 hz32 => ?_)
          exact Ok_some trivial
        · intro h
          have c142 : i4.toInt < z30.toInt := i32nle h
          refine Ok_bind (ok_X8_no i11) (fun z33 hz33 => ?_)
          exact Ok_some trivial
      · intro h
        have c143 : z29.1.toInt ≠ 0 := i32ne h
        exact Ok_some trivial
    · intro h
      have c144 : i2.toInt ≠ i3.toInt := i32ne h
      refine Ok_bind (ok_X8_isRoom i4) (fun z27 hz27 => ?_)
      try dsimp only at hz27
      try simp only [tl0, tl1, tl2, tl3, tl4, tl5, tl6, tl8, tl9, tl10, tl50, tl81, tl100, tl1000, tl9999, tlm1, tlm9, tlm50, tl2147483647] at hz27
      refine Ok_if ?_ ?_
      · intro h
        have c145 : z27.toInt = 0 := i32eq h
        rw [wk25]
        show Ok (k23 (1 : Int32)) _
        rw [wk23]
        show Ok ((fX8_isThrown (1 : Int32) (1 : Int32)).bind (fun z29 => if z29.1 = (0 : Int32) then ((fX8_flow f15 i2 i3).bind (fun z30 => if z30 ≤ i4 then ((fX8_room f14 i2 i3).bind (fun z31 => inB ((i2 * (9 : Int32)) + i3) 81 ((fX8_did i10 z31).bind (fun z32 => some (z32.1, z32.2, i11, z29.2, upd f14 ((i2 * (9 : Int32)) + i3).toNatClampNeg i4))))) else ((fX8_no i11).bind (fun z33 => some ((-9 : Int32), i10, z33, z29.2, f14))))) else (some ((0 : Int32), i10, i11, z29.2, f14)))) _
        refine Ok_bind (ok_X8_isThrown (1 : Int32) (1 : Int32)) (fun z29 hz29 => ?_)
        try dsimp only at hz29
        try simp only [tl0, tl1, tl2, tl3, tl4, tl5, tl6, tl8, tl9, tl10, tl50, tl81, tl100, tl1000, tl9999, tlm1, tlm9, tlm50, tl2147483647] at hz29
        refine Ok_if ?_ ?_
        · intro h
          have c146 : z29.1.toInt = 0 := i32eq h
          refine Ok_bind (ok_X8_flow f15 i2 i3 (by first | omega | assumption | (try simp only [tl0, tl1, tl2, tl3, tl4, tl5, tl6, tl8, tl9, tl10, tl50, tl81, tl100, tl1000, tl9999, tlm1, tlm9, tlm50, tl2147483647]; omega)) (by first | omega | assumption | (try simp only [tl0, tl1, tl2, tl3, tl4, tl5, tl6, tl8, tl9, tl10, tl50, tl81, tl100, tl1000, tl9999, tlm1, tlm9, tlm50, tl2147483647]; omega)) (by first | omega | assumption | (try simp only [tl0, tl1, tl2, tl3, tl4, tl5, tl6, tl8, tl9, tl10, tl50, tl81, tl100, tl1000, tl9999, tlm1, tlm9, tlm50, tl2147483647]; omega)) (by first | omega | assumption | (try simp only [tl0, tl1, tl2, tl3, tl4, tl5, tl6, tl8, tl9, tl10, tl50, tl81, tl100, tl1000, tl9999, tlm1, tlm9, tlm50, tl2147483647]; omega))) (fun z30 hz30 => ?_)
          refine Ok_if ?_ ?_
          · intro h
            have c147 : z30.toInt ≤ i4.toInt := i32le h
            refine Ok_bind (ok_X8_room f14 i2 i3 (by first | omega | assumption | (try simp only [tl0, tl1, tl2, tl3, tl4, tl5, tl6, tl8, tl9, tl10, tl50, tl81, tl100, tl1000, tl9999, tlm1, tlm9, tlm50, tl2147483647]; omega)) (by first | omega | assumption | (try simp only [tl0, tl1, tl2, tl3, tl4, tl5, tl6, tl8, tl9, tl10, tl50, tl81, tl100, tl1000, tl9999, tlm1, tlm9, tlm50, tl2147483647]; omega)) (by first | omega | assumption | (try simp only [tl0, tl1, tl2, tl3, tl4, tl5, tl6, tl8, tl9, tl10, tl50, tl81, tl100, tl1000, tl9999, tlm1, tlm9, tlm50, tl2147483647]; omega)) (by first | omega | assumption | (try simp only [tl0, tl1, tl2, tl3, tl4, tl5, tl6, tl8, tl9, tl10, tl50, tl81, tl100, tl1000, tl9999, tlm1, tlm9, tlm50, tl2147483647]; omega))) (fun z31 hz31 => ?_)
            try (have e148 := idx_iv (x := i2) (y := i3) (by omega) (by omega) (by omega) (by omega))
            refine Ok_inB (vp_of (by first | omega | assumption | (try simp only [tl0, tl1, tl2, tl3, tl4, tl5, tl6, tl8, tl9, tl10, tl50, tl81, tl100, tl1000, tl9999, tlm1, tlm9, tlm50, tl2147483647]; omega)) (by first | omega | assumption | (try simp only [tl0, tl1, tl2, tl3, tl4, tl5, tl6, tl8, tl9, tl10, tl50, tl81, tl100, tl1000, tl9999, tlm1, tlm9, tlm50, tl2147483647]; omega))) ?_
            refine Ok_bind (ok_X8_did i10 z31) (fun z32 hz32 => ?_)
            exact Ok_some trivial
          · intro h
            have c149 : i4.toInt < z30.toInt := i32nle h
            refine Ok_bind (ok_X8_no i11) (fun z33 hz33 => ?_)
            exact Ok_some trivial
        · intro h
          have c150 : z29.1.toInt ≠ 0 := i32ne h
          exact Ok_some trivial
      · intro h
        have c151 : z27.toInt ≠ 0 := i32ne h
        rw [wk23]
        show Ok ((fX8_isThrown (1 : Int32) (0 : Int32)).bind (fun z29 => if z29.1 = (0 : Int32) then ((fX8_flow f15 i2 i3).bind (fun z30 => if z30 ≤ i4 then ((fX8_room f14 i2 i3).bind (fun z31 => inB ((i2 * (9 : Int32)) + i3) 81 ((fX8_did i10 z31).bind (fun z32 => some (z32.1, z32.2, i11, z29.2, upd f14 ((i2 * (9 : Int32)) + i3).toNatClampNeg i4))))) else ((fX8_no i11).bind (fun z33 => some ((-9 : Int32), i10, z33, z29.2, f14))))) else (some ((0 : Int32), i10, i11, z29.2, f14)))) _
        refine Ok_bind (ok_X8_isThrown (1 : Int32) (0 : Int32)) (fun z29 hz29 => ?_)
        try dsimp only at hz29
        try simp only [tl0, tl1, tl2, tl3, tl4, tl5, tl6, tl8, tl9, tl10, tl50, tl81, tl100, tl1000, tl9999, tlm1, tlm9, tlm50, tl2147483647] at hz29
        refine Ok_if ?_ ?_
        · intro h
          have c152 : z29.1.toInt = 0 := i32eq h
          refine Ok_bind (ok_X8_flow f15 i2 i3 (by first | omega | assumption | (try simp only [tl0, tl1, tl2, tl3, tl4, tl5, tl6, tl8, tl9, tl10, tl50, tl81, tl100, tl1000, tl9999, tlm1, tlm9, tlm50, tl2147483647]; omega)) (by first | omega | assumption | (try simp only [tl0, tl1, tl2, tl3, tl4, tl5, tl6, tl8, tl9, tl10, tl50, tl81, tl100, tl1000, tl9999, tlm1, tlm9, tlm50, tl2147483647]; omega)) (by first | omega | assumption | (try simp only [tl0, tl1, tl2, tl3, tl4, tl5, tl6, tl8, tl9, tl10, tl50, tl81, tl100, tl1000, tl9999, tlm1, tlm9, tlm50, tl2147483647]; omega)) (by first | omega | assumption | (try simp only [tl0, tl1, tl2, tl3, tl4, tl5, tl6, tl8, tl9, tl10, tl50, tl81, tl100, tl1000, tl9999, tlm1, tlm9, tlm50, tl2147483647]; omega))) (fun z30 hz30 => ?_)
          refine Ok_if ?_ ?_
          · intro h
            have c153 : z30.toInt ≤ i4.toInt := i32le h
            refine Ok_bind (ok_X8_room f14 i2 i3 (by first | omega | assumption | (try simp only [tl0, tl1, tl2, tl3, tl4, tl5, tl6, tl8, tl9, tl10, tl50, tl81, tl100, tl1000, tl9999, tlm1, tlm9, tlm50, tl2147483647]; omega)) (by first | omega | assumption | (try simp only [tl0, tl1, tl2, tl3, tl4, tl5, tl6, tl8, tl9, tl10, tl50, tl81, tl100, tl1000, tl9999, tlm1, tlm9, tlm50, tl2147483647]; omega)) (by first | omega | assumption | (try simp only [tl0, tl1, tl2, tl3, tl4, tl5, tl6, tl8, tl9, tl10, tl50, tl81, tl100, tl1000, tl9999, tlm1, tlm9, tlm50, tl2147483647]; omega)) (by first | omega | assumption | (try simp only [tl0, tl1, tl2, tl3, tl4, tl5, tl6, tl8, tl9, tl10, tl50, tl81, tl100, tl1000, tl9999, tlm1, tlm9, tlm50, tl2147483647]; omega))) (fun z31 hz31 => ?_)
            try (have e154 := idx_iv (x := i2) (y := i3) (by omega) (by omega) (by omega) (by omega))
            refine Ok_inB (vp_of (by first | omega | assumption | (try simp only [tl0, tl1, tl2, tl3, tl4, tl5, tl6, tl8, tl9, tl10, tl50, tl81, tl100, tl1000, tl9999, tlm1, tlm9, tlm50, tl2147483647]; omega)) (by first | omega | assumption | (try simp only [tl0, tl1, tl2, tl3, tl4, tl5, tl6, tl8, tl9, tl10, tl50, tl81, tl100, tl1000, tl9999, tlm1, tlm9, tlm50, tl2147483647]; omega))) ?_
            refine Ok_bind (ok_X8_did i10 z31) (fun z32 hz32 => ?_)
            exact Ok_some trivial
          · intro h
            have c155 : i4.toInt < z30.toInt := i32nle h
            refine Ok_bind (ok_X8_no i11) (fun z33 hz33 => ?_)
            exact Ok_some trivial
        · intro h
          have c156 : z29.1.toInt ≠ 0 := i32ne h
          exact Ok_some trivial
  · intro h
    have c157 : z16.toInt ≠ 0 := i32ne h
    refine Ok_bind (ok_X8_isPlace i5 i3 (by first | omega | assumption | (try simp only [tl0, tl1, tl2, tl3, tl4, tl5, tl6, tl8, tl9, tl10, tl50, tl81, tl100, tl1000, tl9999, tlm1, tlm9, tlm50, tl2147483647]; omega))) (fun z21 hz21 => ?_)
    try dsimp only at hz21
    try simp only [tl0, tl1, tl2, tl3, tl4, tl5, tl6, tl8, tl9, tl10, tl50, tl81, tl100, tl1000, tl9999, tlm1, tlm9, tlm50, tl2147483647] at hz21
    refine Ok_if ?_ ?_
    · intro h
      have c158 : z21.toInt = 0 := i32eq h
      rw [wk19]
      show Ok (k17 (1 : Int32)) _
      rw [wk17]
      show Ok (jn (fun (i28 : Int32) => (fX8_isThrown (1 : Int32) i28).bind (fun z29 => if z29.1 = (0 : Int32) then ((fX8_flow f15 i2 i3).bind (fun z30 => if z30 ≤ i4 then ((fX8_room f14 i2 i3).bind (fun z31 => inB ((i2 * (9 : Int32)) + i3) 81 ((fX8_did i10 z31).bind (fun z32 => some (z32.1, z32.2, i11, z29.2, upd f14 ((i2 * (9 : Int32)) + i3).toNatClampNeg i4))))) else ((fX8_no i11).bind (fun z33 => some ((-9 : Int32), i10, z33, z29.2, f14))))) else (some ((0 : Int32), i10, i11, z29.2, f14)))) (fun (k23 : Int32 → Option (Int32 × Int32 × Int32 × Int32 × (Nat → Int32))) => jn (fun (_ : Unit) => k23 (1 : Int32)) (fun (k25 : Unit → Option (Int32 × Int32 × Int32 × Int32 × (Nat → Int32))) => if i2 = i3 then (k25 ()) else ((fX8_isRoom i4).bind (fun z27 => if z27 = (0 : Int32) then (k25 ()) else (k23 (0 : Int32))))))) _
      refine Ok_jn (fun k23 wk23 => ?_)
      refine Ok_jn (fun k25 wk25 => ?_)
      refine Ok_if ?_ ?_
      · intro h
        have c159 : i2.toInt = i3.toInt := i32eq h
        rw [wk25]
        show Ok (k23 (1 : Int32)) _
        rw [wk23]
        show Ok ((fX8_isThrown (1 : Int32) (1 : Int32)).bind (fun z29 => if z29.1 = (0 : Int32) then ((fX8_flow f15 i2 i3).bind (fun z30 => if z30 ≤ i4 then ((fX8_room f14 i2 i3).bind (fun z31 => inB ((i2 * (9 : Int32)) + i3) 81 ((fX8_did i10 z31).bind (fun z32 => some (z32.1, z32.2, i11, z29.2, upd f14 ((i2 * (9 : Int32)) + i3).toNatClampNeg i4))))) else ((fX8_no i11).bind (fun z33 => some ((-9 : Int32), i10, z33, z29.2, f14))))) else (some ((0 : Int32), i10, i11, z29.2, f14)))) _
        refine Ok_bind (ok_X8_isThrown (1 : Int32) (1 : Int32)) (fun z29 hz29 => ?_)
        try dsimp only at hz29
        try simp only [tl0, tl1, tl2, tl3, tl4, tl5, tl6, tl8, tl9, tl10, tl50, tl81, tl100, tl1000, tl9999, tlm1, tlm9, tlm50, tl2147483647] at hz29
        refine Ok_if ?_ ?_
        · intro h
          have c160 : z29.1.toInt = 0 := i32eq h
          refine Ok_bind (ok_X8_flow f15 i2 i3 (by first | omega | assumption | (try simp only [tl0, tl1, tl2, tl3, tl4, tl5, tl6, tl8, tl9, tl10, tl50, tl81, tl100, tl1000, tl9999, tlm1, tlm9, tlm50, tl2147483647]; omega)) (by first | omega | assumption | (try simp only [tl0, tl1, tl2, tl3, tl4, tl5, tl6, tl8, tl9, tl10, tl50, tl81, tl100, tl1000, tl9999, tlm1, tlm9, tlm50, tl2147483647]; omega)) (by first | omega | assumption | (try simp only [tl0, tl1, tl2, tl3, tl4, tl5, tl6, tl8, tl9, tl10, tl50, tl81, tl100, tl1000, tl9999, tlm1, tlm9, tlm50, tl2147483647]; omega)) (by first | omega | assumption | (try simp only [tl0, tl1, tl2, tl3, tl4, tl5, tl6, tl8, tl9, tl10, tl50, tl81, tl100, tl1000, tl9999, tlm1, tlm9, tlm50, tl2147483647]; omega))) (fun z30 hz30 => ?_)
          refine Ok_if ?_ ?_
          · intro h
            have c161 : z30.toInt ≤ i4.toInt := i32le h
            refine Ok_bind (ok_X8_room f14 i2 i3 (by first | omega | assumption | (try simp only [tl0, tl1, tl2, tl3, tl4, tl5, tl6, tl8, tl9, tl10, tl50, tl81, tl100, tl1000, tl9999, tlm1, tlm9, tlm50, tl2147483647]; omega)) (by first | omega | assumption | (try simp only [tl0, tl1, tl2, tl3, tl4, tl5, tl6, tl8, tl9, tl10, tl50, tl81, tl100, tl1000, tl9999, tlm1, tlm9, tlm50, tl2147483647]; omega)) (by first | omega | assumption | (try simp only [tl0, tl1, tl2, tl3, tl4, tl5, tl6, tl8, tl9, tl10, tl50, tl81, tl100, tl1000, tl9999, tlm1, tlm9, tlm50, tl2147483647]; omega)) (by first | omega | assumption | (try simp only [tl0, tl1, tl2, tl3, tl4, tl5, tl6, tl8, tl9, tl10, tl50, tl81, tl100, tl1000, tl9999, tlm1, tlm9, tlm50, tl2147483647]; omega))) (fun z31 hz31 => ?_)
            try (have e162 := idx_iv (x := i2) (y := i3) (by omega) (by omega) (by omega) (by omega))
            refine Ok_inB (vp_of (by first | omega | assumption | (try simp only [tl0, tl1, tl2, tl3, tl4, tl5, tl6, tl8, tl9, tl10, tl50, tl81, tl100, tl1000, tl9999, tlm1, tlm9, tlm50, tl2147483647]; omega)) (by first | omega | assumption | (try simp only [tl0, tl1, tl2, tl3, tl4, tl5, tl6, tl8, tl9, tl10, tl50, tl81, tl100, tl1000, tl9999, tlm1, tlm9, tlm50, tl2147483647]; omega))) ?_
            refine Ok_bind (ok_X8_did i10 z31) (fun z32 hz32 => ?_)
            exact Ok_some trivial
          · intro h
            have c163 : i4.toInt < z30.toInt := i32nle h
            refine Ok_bind (ok_X8_no i11) (fun z33 hz33 => ?_)
            exact Ok_some trivial
        · intro h
          have c164 : z29.1.toInt ≠ 0 := i32ne h
          exact Ok_some trivial
      · intro h
        have c165 : i2.toInt ≠ i3.toInt := i32ne h
        refine Ok_bind (ok_X8_isRoom i4) (fun z27 hz27 => ?_)
        try dsimp only at hz27
        try simp only [tl0, tl1, tl2, tl3, tl4, tl5, tl6, tl8, tl9, tl10, tl50, tl81, tl100, tl1000, tl9999, tlm1, tlm9, tlm50, tl2147483647] at hz27
        refine Ok_if ?_ ?_
        · intro h
          have c166 : z27.toInt = 0 := i32eq h
          rw [wk25]
          show Ok (k23 (1 : Int32)) _
          rw [wk23]
          show Ok ((fX8_isThrown (1 : Int32) (1 : Int32)).bind (fun z29 => if z29.1 = (0 : Int32) then ((fX8_flow f15 i2 i3).bind (fun z30 => if z30 ≤ i4 then ((fX8_room f14 i2 i3).bind (fun z31 => inB ((i2 * (9 : Int32)) + i3) 81 ((fX8_did i10 z31).bind (fun z32 => some (z32.1, z32.2, i11, z29.2, upd f14 ((i2 * (9 : Int32)) + i3).toNatClampNeg i4))))) else ((fX8_no i11).bind (fun z33 => some ((-9 : Int32), i10, z33, z29.2, f14))))) else (some ((0 : Int32), i10, i11, z29.2, f14)))) _
          refine Ok_bind (ok_X8_isThrown (1 : Int32) (1 : Int32)) (fun z29 hz29 => ?_)
          try dsimp only at hz29
          try simp only [tl0, tl1, tl2, tl3, tl4, tl5, tl6, tl8, tl9, tl10, tl50, tl81, tl100, tl1000, tl9999, tlm1, tlm9, tlm50, tl2147483647] at hz29
          refine Ok_if ?_ ?_
          · intro h
            have c167 : z29.1.toInt = 0 := i32eq h
            refine Ok_bind (ok_X8_flow f15 i2 i3 (by first | omega | assumption | (try simp only [tl0, tl1, tl2, tl3, tl4, tl5, tl6, tl8, tl9, tl10, tl50, tl81, tl100, tl1000, tl9999, tlm1, tlm9, tlm50, tl2147483647]; omega)) (by first | omega | assumption | (try simp only [tl0, tl1, tl2, tl3, tl4, tl5, tl6, tl8, tl9, tl10, tl50, tl81, tl100, tl1000, tl9999, tlm1, tlm9, tlm50, tl2147483647]; omega)) (by first | omega | assumption | (try simp only [tl0, tl1, tl2, tl3, tl4, tl5, tl6, tl8, tl9, tl10, tl50, tl81, tl100, tl1000, tl9999, tlm1, tlm9, tlm50, tl2147483647]; omega)) (by first | omega | assumption | (try simp only [tl0, tl1, tl2, tl3, tl4, tl5, tl6, tl8, tl9, tl10, tl50, tl81, tl100, tl1000, tl9999, tlm1, tlm9, tlm50, tl2147483647]; omega))) (fun z30 hz30 => ?_)
            refine Ok_if ?_ ?_
            · intro h
              have c168 : z30.toInt ≤ i4.toInt := i32le h
              refine Ok_bind (ok_X8_room f14 i2 i3 (by first | omega | assumption | (try simp only [tl0, tl1, tl2, tl3, tl4, tl5, tl6, tl8, tl9, tl10, tl50, tl81, tl100, tl1000, tl9999, tlm1, tlm9, tlm50, tl2147483647]; omega)) (by first | omega | assumption | (try simp only [tl0, tl1, tl2, tl3, tl4, tl5, tl6, tl8, tl9, tl10, tl50, tl81, tl100, tl1000, tl9999, tlm1, tlm9, tlm50, tl2147483647]; omega)) (by first | omega | assumption | (try simp only [tl0, tl1, tl2, tl3, tl4, tl5, tl6, tl8, tl9, tl10, tl50, tl81, tl100, tl1000, tl9999, tlm1, tlm9, tlm50, tl2147483647]; omega)) (by first | omega | assumption | (try simp only [tl0, tl1, tl2, tl3, tl4, tl5, tl6, tl8, tl9, tl10, tl50, tl81, tl100, tl1000, tl9999, tlm1, tlm9, tlm50, tl2147483647]; omega))) (fun z31 hz31 => ?_)
              try (have e169 := idx_iv (x := i2) (y := i3) (by omega) (by omega) (by omega) (by omega))
              refine Ok_inB (vp_of (by first | omega | assumption | (try simp only [tl0, tl1, tl2, tl3, tl4, tl5, tl6, tl8, tl9, tl10, tl50, tl81, tl100, tl1000, tl9999, tlm1, tlm9, tlm50, tl2147483647]; omega)) (by first | omega | assumption | (try simp only [tl0, tl1, tl2, tl3, tl4, tl5, tl6, tl8, tl9, tl10, tl50, tl81, tl100, tl1000, tl9999, tlm1, tlm9, tlm50, tl2147483647]; omega))) ?_
              refine Ok_bind (ok_X8_did i10 z31) (fun z32 hz32 => ?_)
              exact Ok_some trivial
            · intro h
              have c170 : i4.toInt < z30.toInt := i32nle h
              refine Ok_bind (ok_X8_no i11) (fun z33 hz33 => ?_)
              exact Ok_some trivial
          · intro h
            have c171 : z29.1.toInt ≠ 0 := i32ne h
            exact Ok_some trivial
        · intro h
          have c172 : z27.toInt ≠ 0 := i32ne h
          rw [wk23]
          show Ok ((fX8_isThrown (1 : Int32) (0 : Int32)).bind (fun z29 => if z29.1 = (0 : Int32) then ((fX8_flow f15 i2 i3).bind (fun z30 => if z30 ≤ i4 then ((fX8_room f14 i2 i3).bind (fun z31 => inB ((i2 * (9 : Int32)) + i3) 81 ((fX8_did i10 z31).bind (fun z32 => some (z32.1, z32.2, i11, z29.2, upd f14 ((i2 * (9 : Int32)) + i3).toNatClampNeg i4))))) else ((fX8_no i11).bind (fun z33 => some ((-9 : Int32), i10, z33, z29.2, f14))))) else (some ((0 : Int32), i10, i11, z29.2, f14)))) _
          refine Ok_bind (ok_X8_isThrown (1 : Int32) (0 : Int32)) (fun z29 hz29 => ?_)
          try dsimp only at hz29
          try simp only [tl0, tl1, tl2, tl3, tl4, tl5, tl6, tl8, tl9, tl10, tl50, tl81, tl100, tl1000, tl9999, tlm1, tlm9, tlm50, tl2147483647] at hz29
          refine Ok_if ?_ ?_
          · intro h
            have c173 : z29.1.toInt = 0 := i32eq h
            refine Ok_bind (ok_X8_flow f15 i2 i3 (by first | omega | assumption | (try simp only [tl0, tl1, tl2, tl3, tl4, tl5, tl6, tl8, tl9, tl10, tl50, tl81, tl100, tl1000, tl9999, tlm1, tlm9, tlm50, tl2147483647]; omega)) (by first | omega | assumption | (try simp only [tl0, tl1, tl2, tl3, tl4, tl5, tl6, tl8, tl9, tl10, tl50, tl81, tl100, tl1000, tl9999, tlm1, tlm9, tlm50, tl2147483647]; omega)) (by first | omega | assumption | (try simp only [tl0, tl1, tl2, tl3, tl4, tl5, tl6, tl8, tl9, tl10, tl50, tl81, tl100, tl1000, tl9999, tlm1, tlm9, tlm50, tl2147483647]; omega)) (by first | omega | assumption | (try simp only [tl0, tl1, tl2, tl3, tl4, tl5, tl6, tl8, tl9, tl10, tl50, tl81, tl100, tl1000, tl9999, tlm1, tlm9, tlm50, tl2147483647]; omega))) (fun z30 hz30 => ?_)
            refine Ok_if ?_ ?_
            · intro h
              have c174 : z30.toInt ≤ i4.toInt := i32le h
              refine Ok_bind (ok_X8_room f14 i2 i3 (by first | omega | assumption | (try simp only [tl0, tl1, tl2, tl3, tl4, tl5, tl6, tl8, tl9, tl10, tl50, tl81, tl100, tl1000, tl9999, tlm1, tlm9, tlm50, tl2147483647]; omega)) (by first | omega | assumption | (try simp only [tl0, tl1, tl2, tl3, tl4, tl5, tl6, tl8, tl9, tl10, tl50, tl81, tl100, tl1000, tl9999, tlm1, tlm9, tlm50, tl2147483647]; omega)) (by first | omega | assumption | (try simp only [tl0, tl1, tl2, tl3, tl4, tl5, tl6, tl8, tl9, tl10, tl50, tl81, tl100, tl1000, tl9999, tlm1, tlm9, tlm50, tl2147483647]; omega)) (by first | omega | assumption | (try simp only [tl0, tl1, tl2, tl3, tl4, tl5, tl6, tl8, tl9, tl10, tl50, tl81, tl100, tl1000, tl9999, tlm1, tlm9, tlm50, tl2147483647]; omega))) (fun z31 hz31 => ?_)
              try (have e175 := idx_iv (x := i2) (y := i3) (by omega) (by omega) (by omega) (by omega))
              refine Ok_inB (vp_of (by first | omega | assumption | (try simp only [tl0, tl1, tl2, tl3, tl4, tl5, tl6, tl8, tl9, tl10, tl50, tl81, tl100, tl1000, tl9999, tlm1, tlm9, tlm50, tl2147483647]; omega)) (by first | omega | assumption | (try simp only [tl0, tl1, tl2, tl3, tl4, tl5, tl6, tl8, tl9, tl10, tl50, tl81, tl100, tl1000, tl9999, tlm1, tlm9, tlm50, tl2147483647]; omega))) ?_
              refine Ok_bind (ok_X8_did i10 z31) (fun z32 hz32 => ?_)
              exact Ok_some trivial
            · intro h
              have c176 : i4.toInt < z30.toInt := i32nle h
              refine Ok_bind (ok_X8_no i11) (fun z33 hz33 => ?_)
              exact Ok_some trivial
          · intro h
            have c177 : z29.1.toInt ≠ 0 := i32ne h
            exact Ok_some trivial
    · intro h
      have c178 : z21.toInt ≠ 0 := i32ne h
      rw [wk17]
      show Ok (jn (fun (i28 : Int32) => (fX8_isThrown (0 : Int32) i28).bind (fun z29 => if z29.1 = (0 : Int32) then ((fX8_flow f15 i2 i3).bind (fun z30 => if z30 ≤ i4 then ((fX8_room f14 i2 i3).bind (fun z31 => inB ((i2 * (9 : Int32)) + i3) 81 ((fX8_did i10 z31).bind (fun z32 => some (z32.1, z32.2, i11, z29.2, upd f14 ((i2 * (9 : Int32)) + i3).toNatClampNeg i4))))) else ((fX8_no i11).bind (fun z33 => some ((-9 : Int32), i10, z33, z29.2, f14))))) else (some ((0 : Int32), i10, i11, z29.2, f14)))) (fun (k23 : Int32 → Option (Int32 × Int32 × Int32 × Int32 × (Nat → Int32))) => jn (fun (_ : Unit) => k23 (1 : Int32)) (fun (k25 : Unit → Option (Int32 × Int32 × Int32 × Int32 × (Nat → Int32))) => if i2 = i3 then (k25 ()) else ((fX8_isRoom i4).bind (fun z27 => if z27 = (0 : Int32) then (k25 ()) else (k23 (0 : Int32))))))) _
      refine Ok_jn (fun k23 wk23 => ?_)
      refine Ok_jn (fun k25 wk25 => ?_)
      refine Ok_if ?_ ?_
      · intro h
        have c179 : i2.toInt = i3.toInt := i32eq h
        rw [wk25]
        show Ok (k23 (1 : Int32)) _
        rw [wk23]
        show Ok ((fX8_isThrown (0 : Int32) (1 : Int32)).bind (fun z29 => if z29.1 = (0 : Int32) then ((fX8_flow f15 i2 i3).bind (fun z30 => if z30 ≤ i4 then ((fX8_room f14 i2 i3).bind (fun z31 => inB ((i2 * (9 : Int32)) + i3) 81 ((fX8_did i10 z31).bind (fun z32 => some (z32.1, z32.2, i11, z29.2, upd f14 ((i2 * (9 : Int32)) + i3).toNatClampNeg i4))))) else ((fX8_no i11).bind (fun z33 => some ((-9 : Int32), i10, z33, z29.2, f14))))) else (some ((0 : Int32), i10, i11, z29.2, f14)))) _
        refine Ok_bind (ok_X8_isThrown (0 : Int32) (1 : Int32)) (fun z29 hz29 => ?_)
        try dsimp only at hz29
        try simp only [tl0, tl1, tl2, tl3, tl4, tl5, tl6, tl8, tl9, tl10, tl50, tl81, tl100, tl1000, tl9999, tlm1, tlm9, tlm50, tl2147483647] at hz29
        refine Ok_if ?_ ?_
        · intro h
          have c180 : z29.1.toInt = 0 := i32eq h
          refine Ok_bind (ok_X8_flow f15 i2 i3 (by first | omega | assumption | (try simp only [tl0, tl1, tl2, tl3, tl4, tl5, tl6, tl8, tl9, tl10, tl50, tl81, tl100, tl1000, tl9999, tlm1, tlm9, tlm50, tl2147483647]; omega)) (by first | omega | assumption | (try simp only [tl0, tl1, tl2, tl3, tl4, tl5, tl6, tl8, tl9, tl10, tl50, tl81, tl100, tl1000, tl9999, tlm1, tlm9, tlm50, tl2147483647]; omega)) (by first | omega | assumption | (try simp only [tl0, tl1, tl2, tl3, tl4, tl5, tl6, tl8, tl9, tl10, tl50, tl81, tl100, tl1000, tl9999, tlm1, tlm9, tlm50, tl2147483647]; omega)) (by first | omega | assumption | (try simp only [tl0, tl1, tl2, tl3, tl4, tl5, tl6, tl8, tl9, tl10, tl50, tl81, tl100, tl1000, tl9999, tlm1, tlm9, tlm50, tl2147483647]; omega))) (fun z30 hz30 => ?_)
          refine Ok_if ?_ ?_
          · intro h
            have c181 : z30.toInt ≤ i4.toInt := i32le h
            refine Ok_bind (ok_X8_room f14 i2 i3 (by first | omega | assumption | (try simp only [tl0, tl1, tl2, tl3, tl4, tl5, tl6, tl8, tl9, tl10, tl50, tl81, tl100, tl1000, tl9999, tlm1, tlm9, tlm50, tl2147483647]; omega)) (by first | omega | assumption | (try simp only [tl0, tl1, tl2, tl3, tl4, tl5, tl6, tl8, tl9, tl10, tl50, tl81, tl100, tl1000, tl9999, tlm1, tlm9, tlm50, tl2147483647]; omega)) (by first | omega | assumption | (try simp only [tl0, tl1, tl2, tl3, tl4, tl5, tl6, tl8, tl9, tl10, tl50, tl81, tl100, tl1000, tl9999, tlm1, tlm9, tlm50, tl2147483647]; omega)) (by first | omega | assumption | (try simp only [tl0, tl1, tl2, tl3, tl4, tl5, tl6, tl8, tl9, tl10, tl50, tl81, tl100, tl1000, tl9999, tlm1, tlm9, tlm50, tl2147483647]; omega))) (fun z31 hz31 => ?_)
            try (have e182 := idx_iv (x := i2) (y := i3) (by omega) (by omega) (by omega) (by omega))
            refine Ok_inB (vp_of (by first | omega | assumption | (try simp only [tl0, tl1, tl2, tl3, tl4, tl5, tl6, tl8, tl9, tl10, tl50, tl81, tl100, tl1000, tl9999, tlm1, tlm9, tlm50, tl2147483647]; omega)) (by first | omega | assumption | (try simp only [tl0, tl1, tl2, tl3, tl4, tl5, tl6, tl8, tl9, tl10, tl50, tl81, tl100, tl1000, tl9999, tlm1, tlm9, tlm50, tl2147483647]; omega))) ?_
            refine Ok_bind (ok_X8_did i10 z31) (fun z32 hz32 => ?_)
            exact Ok_some trivial
          · intro h
            have c183 : i4.toInt < z30.toInt := i32nle h
            refine Ok_bind (ok_X8_no i11) (fun z33 hz33 => ?_)
            exact Ok_some trivial
        · intro h
          have c184 : z29.1.toInt ≠ 0 := i32ne h
          exact Ok_some trivial
      · intro h
        have c185 : i2.toInt ≠ i3.toInt := i32ne h
        refine Ok_bind (ok_X8_isRoom i4) (fun z27 hz27 => ?_)
        try dsimp only at hz27
        try simp only [tl0, tl1, tl2, tl3, tl4, tl5, tl6, tl8, tl9, tl10, tl50, tl81, tl100, tl1000, tl9999, tlm1, tlm9, tlm50, tl2147483647] at hz27
        refine Ok_if ?_ ?_
        · intro h
          have c186 : z27.toInt = 0 := i32eq h
          rw [wk25]
          show Ok (k23 (1 : Int32)) _
          rw [wk23]
          show Ok ((fX8_isThrown (0 : Int32) (1 : Int32)).bind (fun z29 => if z29.1 = (0 : Int32) then ((fX8_flow f15 i2 i3).bind (fun z30 => if z30 ≤ i4 then ((fX8_room f14 i2 i3).bind (fun z31 => inB ((i2 * (9 : Int32)) + i3) 81 ((fX8_did i10 z31).bind (fun z32 => some (z32.1, z32.2, i11, z29.2, upd f14 ((i2 * (9 : Int32)) + i3).toNatClampNeg i4))))) else ((fX8_no i11).bind (fun z33 => some ((-9 : Int32), i10, z33, z29.2, f14))))) else (some ((0 : Int32), i10, i11, z29.2, f14)))) _
          refine Ok_bind (ok_X8_isThrown (0 : Int32) (1 : Int32)) (fun z29 hz29 => ?_)
          try dsimp only at hz29
          try simp only [tl0, tl1, tl2, tl3, tl4, tl5, tl6, tl8, tl9, tl10, tl50, tl81, tl100, tl1000, tl9999, tlm1, tlm9, tlm50, tl2147483647] at hz29
          refine Ok_if ?_ ?_
          · intro h
            have c187 : z29.1.toInt = 0 := i32eq h
            refine Ok_bind (ok_X8_flow f15 i2 i3 (by first | omega | assumption | (try simp only [tl0, tl1, tl2, tl3, tl4, tl5, tl6, tl8, tl9, tl10, tl50, tl81, tl100, tl1000, tl9999, tlm1, tlm9, tlm50, tl2147483647]; omega)) (by first | omega | assumption | (try simp only [tl0, tl1, tl2, tl3, tl4, tl5, tl6, tl8, tl9, tl10, tl50, tl81, tl100, tl1000, tl9999, tlm1, tlm9, tlm50, tl2147483647]; omega)) (by first | omega | assumption | (try simp only [tl0, tl1, tl2, tl3, tl4, tl5, tl6, tl8, tl9, tl10, tl50, tl81, tl100, tl1000, tl9999, tlm1, tlm9, tlm50, tl2147483647]; omega)) (by first | omega | assumption | (try simp only [tl0, tl1, tl2, tl3, tl4, tl5, tl6, tl8, tl9, tl10, tl50, tl81, tl100, tl1000, tl9999, tlm1, tlm9, tlm50, tl2147483647]; omega))) (fun z30 hz30 => ?_)
            refine Ok_if ?_ ?_
            · intro h
              have c188 : z30.toInt ≤ i4.toInt := i32le h
              refine Ok_bind (ok_X8_room f14 i2 i3 (by first | omega | assumption | (try simp only [tl0, tl1, tl2, tl3, tl4, tl5, tl6, tl8, tl9, tl10, tl50, tl81, tl100, tl1000, tl9999, tlm1, tlm9, tlm50, tl2147483647]; omega)) (by first | omega | assumption | (try simp only [tl0, tl1, tl2, tl3, tl4, tl5, tl6, tl8, tl9, tl10, tl50, tl81, tl100, tl1000, tl9999, tlm1, tlm9, tlm50, tl2147483647]; omega)) (by first | omega | assumption | (try simp only [tl0, tl1, tl2, tl3, tl4, tl5, tl6, tl8, tl9, tl10, tl50, tl81, tl100, tl1000, tl9999, tlm1, tlm9, tlm50, tl2147483647]; omega)) (by first | omega | assumption | (try simp only [tl0, tl1, tl2, tl3, tl4, tl5, tl6, tl8, tl9, tl10, tl50, tl81, tl100, tl1000, tl9999, tlm1, tlm9, tlm50, tl2147483647]; omega))) (fun z31 hz31 => ?_)
              try (have e189 := idx_iv (x := i2) (y := i3) (by omega) (by omega) (by omega) (by omega))
              refine Ok_inB (vp_of (by first | omega | assumption | (try simp only [tl0, tl1, tl2, tl3, tl4, tl5, tl6, tl8, tl9, tl10, tl50, tl81, tl100, tl1000, tl9999, tlm1, tlm9, tlm50, tl2147483647]; omega)) (by first | omega | assumption | (try simp only [tl0, tl1, tl2, tl3, tl4, tl5, tl6, tl8, tl9, tl10, tl50, tl81, tl100, tl1000, tl9999, tlm1, tlm9, tlm50, tl2147483647]; omega))) ?_
              refine Ok_bind (ok_X8_did i10 z31) (fun z32 hz32 => ?_)
              exact Ok_some trivial
            · intro h
              have c190 : i4.toInt < z30.toInt := i32nle h
              refine Ok_bind (ok_X8_no i11) (fun z33 hz33 => ?_)
              exact Ok_some trivial
          · intro h
            have c191 : z29.1.toInt ≠ 0 := i32ne h
            exact Ok_some trivial
        · intro h
          have c192 : z27.toInt ≠ 0 := i32ne h
          rw [wk23]
          show Ok ((fX8_isThrown (0 : Int32) (0 : Int32)).bind (fun z29 => if z29.1 = (0 : Int32) then ((fX8_flow f15 i2 i3).bind (fun z30 => if z30 ≤ i4 then ((fX8_room f14 i2 i3).bind (fun z31 => inB ((i2 * (9 : Int32)) + i3) 81 ((fX8_did i10 z31).bind (fun z32 => some (z32.1, z32.2, i11, z29.2, upd f14 ((i2 * (9 : Int32)) + i3).toNatClampNeg i4))))) else ((fX8_no i11).bind (fun z33 => some ((-9 : Int32), i10, z33, z29.2, f14))))) else (some ((0 : Int32), i10, i11, z29.2, f14)))) _
          refine Ok_bind (ok_X8_isThrown (0 : Int32) (0 : Int32)) (fun z29 hz29 => ?_)
          try dsimp only at hz29
          try simp only [tl0, tl1, tl2, tl3, tl4, tl5, tl6, tl8, tl9, tl10, tl50, tl81, tl100, tl1000, tl9999, tlm1, tlm9, tlm50, tl2147483647] at hz29
          refine Ok_if ?_ ?_
          · intro h
            have c193 : z29.1.toInt = 0 := i32eq h
            refine Ok_bind (ok_X8_flow f15 i2 i3 (by first | omega | assumption | (try simp only [tl0, tl1, tl2, tl3, tl4, tl5, tl6, tl8, tl9, tl10, tl50, tl81, tl100, tl1000, tl9999, tlm1, tlm9, tlm50, tl2147483647]; omega)) (by first | omega | assumption | (try simp only [tl0, tl1, tl2, tl3, tl4, tl5, tl6, tl8, tl9, tl10, tl50, tl81, tl100, tl1000, tl9999, tlm1, tlm9, tlm50, tl2147483647]; omega)) (by first | omega | assumption | (try simp only [tl0, tl1, tl2, tl3, tl4, tl5, tl6, tl8, tl9, tl10, tl50, tl81, tl100, tl1000, tl9999, tlm1, tlm9, tlm50, tl2147483647]; omega)) (by first | omega | assumption | (try simp only [tl0, tl1, tl2, tl3, tl4, tl5, tl6, tl8, tl9, tl10, tl50, tl81, tl100, tl1000, tl9999, tlm1, tlm9, tlm50, tl2147483647]; omega))) (fun z30 hz30 => ?_)
            refine Ok_if ?_ ?_
            · intro h
              have c194 : z30.toInt ≤ i4.toInt := i32le h
              refine Ok_bind (ok_X8_room f14 i2 i3 (by first | omega | assumption | (try simp only [tl0, tl1, tl2, tl3, tl4, tl5, tl6, tl8, tl9, tl10, tl50, tl81, tl100, tl1000, tl9999, tlm1, tlm9, tlm50, tl2147483647]; omega)) (by first | omega | assumption | (try simp only [tl0, tl1, tl2, tl3, tl4, tl5, tl6, tl8, tl9, tl10, tl50, tl81, tl100, tl1000, tl9999, tlm1, tlm9, tlm50, tl2147483647]; omega)) (by first | omega | assumption | (try simp only [tl0, tl1, tl2, tl3, tl4, tl5, tl6, tl8, tl9, tl10, tl50, tl81, tl100, tl1000, tl9999, tlm1, tlm9, tlm50, tl2147483647]; omega)) (by first | omega | assumption | (try simp only [tl0, tl1, tl2, tl3, tl4, tl5, tl6, tl8, tl9, tl10, tl50, tl81, tl100, tl1000, tl9999, tlm1, tlm9, tlm50, tl2147483647]; omega))) (fun z31 hz31 => ?_)
              try (have e195 := idx_iv (x := i2) (y := i3) (by omega) (by omega) (by omega) (by omega))
              refine Ok_inB (vp_of (by first | omega | assumption | (try simp only [tl0, tl1, tl2, tl3, tl4, tl5, tl6, tl8, tl9, tl10, tl50, tl81, tl100, tl1000, tl9999, tlm1, tlm9, tlm50, tl2147483647]; omega)) (by first | omega | assumption | (try simp only [tl0, tl1, tl2, tl3, tl4, tl5, tl6, tl8, tl9, tl10, tl50, tl81, tl100, tl1000, tl9999, tlm1, tlm9, tlm50, tl2147483647]; omega))) ?_
              refine Ok_bind (ok_X8_did i10 z31) (fun z32 hz32 => ?_)
              exact Ok_some trivial
            · intro h
              have c196 : i4.toInt < z30.toInt := i32nle h
              refine Ok_bind (ok_X8_no i11) (fun z33 hz33 => ?_)
              exact Ok_some trivial
          · intro h
            have c197 : z29.1.toInt ≠ 0 := i32ne h
            exact Ok_some trivial
set_option maxRecDepth 4000 in
theorem ok_X8_widen (i5 : Int32) (i10 : Int32) (i11 : Int32) (f14 : Nat → Int32) (f15 : Nat → Int32) (i2 : Int32) (i3 : Int32) (i4 : Int32) (h0 : 2 ≤ i5.toInt ∧ i5.toInt ≤ 9) : Ok (fX8_widen i5 i10 i11 f14 f15 i2 i3 i4) (fun z => True) := by
  unfold fX8_widen
  refine Ok_bind (ok_X8_isPlace i5 i2 (by first | omega | assumption | (try simp only [tl0, tl1, tl2, tl3, tl4, tl5, tl6, tl8, tl9, tl10, tl50, tl81, tl100, tl1000, tl9999, tlm1, tlm9, tlm50, tl2147483647]; omega))) (fun z16 hz16 => ?_)
  try dsimp only at hz16
  try simp only [tl0, tl1, tl2, tl3, tl4, tl5, tl6, tl8, tl9, tl10, tl50, tl81, tl100, tl1000, tl9999, tlm1, tlm9, tlm50, tl2147483647] at hz16
  refine Ok_jn (fun k17 wk17 => ?_)
  refine Ok_jn (fun k19 wk19 => ?_)
  refine Ok_if ?_ ?_
  · intro h
    have c198 : z16.toInt = 0 := i32eq h
    rw [wk19]
    show Ok (k17 (1 : Int32)) _
    rw [wk17]
    show Ok (jn (fun (i27 : Int32) => (fX8_isThrown (1 : Int32) i27).bind (fun z28 => if z28.1 = (0 : Int32) then ((fX8_room f14 i2 i3).bind (fun z29 => nm (z29 + i4) (fun (i30 : Int32) => (fX8_isRoom i30).bind (fun z31 => jn (fun (_ : Unit) => (fX8_no i11).bind (fun z36 => some ((-9 : Int32), i10, z36, z28.2, f14))) (fun (k32 : Unit → Option (Int32 × Int32 × Int32 × Int32 × (Nat → Int32))) => if z31 = (0 : Int32) then (k32 ()) else ((fX8_flow f15 i2 i3).bind (fun z34 => if z34 ≤ i30 then (inB ((i2 * (9 : Int32)) + i3) 81 ((fX8_did i10 i30).bind (fun z35 => some (z35.1, z35.2, i11, z28.2, upd f14 ((i2 * (9 : Int32)) + i3).toNatClampNeg i30)))) else (k32 ())))))))) else (some ((0 : Int32), i10, i11, z28.2, f14)))) (fun (k23 : Int32 → Option (Int32 × Int32 × Int32 × Int32 × (Nat → Int32))) => jn (fun (_ : Unit) => k23 (1 : Int32)) (fun (k25 : Unit → Option (Int32 × Int32 × Int32 × Int32 × (Nat → Int32))) => if i2 = i3 then (k25 ()) else (if i4 < (-50 : Int32) then (k25 ()) else (if i4 ≤ (50 : Int32) then (k23 (0 : Int32)) else (k25 ())))))) _
    refine Ok_jn (fun k23 wk23 => ?_)
    refine Ok_jn (fun k25 wk25 => ?_)
    refine Ok_if ?_ ?_
    · intro h
      have c199 : i2.toInt = i3.toInt := i32eq h
      rw [wk25]
      show Ok (k23 (1 : Int32)) _
      rw [wk23]
      show Ok ((fX8_isThrown (1 : Int32) (1 : Int32)).bind (fun z28 => if z28.1 = (0 : Int32) then ((fX8_room f14 i2 i3).bind (fun z29 => nm (z29 + i4) (fun (i30 : Int32) => (fX8_isRoom i30).bind (fun z31 => jn (fun (_ : Unit) => (fX8_no i11).bind (fun z36 => some ((-9 : Int32), i10, z36, z28.2, f14))) (fun (k32 : Unit → Option (Int32 × Int32 × Int32 × Int32 × (Nat → Int32))) => if z31 = (0 : Int32) then (k32 ()) else ((fX8_flow f15 i2 i3).bind (fun z34 => if z34 ≤ i30 then (inB ((i2 * (9 : Int32)) + i3) 81 ((fX8_did i10 i30).bind (fun z35 => some (z35.1, z35.2, i11, z28.2, upd f14 ((i2 * (9 : Int32)) + i3).toNatClampNeg i30)))) else (k32 ())))))))) else (some ((0 : Int32), i10, i11, z28.2, f14)))) _
      refine Ok_bind (ok_X8_isThrown (1 : Int32) (1 : Int32)) (fun z28 hz28 => ?_)
      try dsimp only at hz28
      try simp only [tl0, tl1, tl2, tl3, tl4, tl5, tl6, tl8, tl9, tl10, tl50, tl81, tl100, tl1000, tl9999, tlm1, tlm9, tlm50, tl2147483647] at hz28
      refine Ok_if ?_ ?_
      · intro h
        have c200 : z28.1.toInt = 0 := i32eq h
        refine Ok_bind (ok_X8_room f14 i2 i3 (by first | omega | assumption | (try simp only [tl0, tl1, tl2, tl3, tl4, tl5, tl6, tl8, tl9, tl10, tl50, tl81, tl100, tl1000, tl9999, tlm1, tlm9, tlm50, tl2147483647]; omega)) (by first | omega | assumption | (try simp only [tl0, tl1, tl2, tl3, tl4, tl5, tl6, tl8, tl9, tl10, tl50, tl81, tl100, tl1000, tl9999, tlm1, tlm9, tlm50, tl2147483647]; omega)) (by first | omega | assumption | (try simp only [tl0, tl1, tl2, tl3, tl4, tl5, tl6, tl8, tl9, tl10, tl50, tl81, tl100, tl1000, tl9999, tlm1, tlm9, tlm50, tl2147483647]; omega)) (by first | omega | assumption | (try simp only [tl0, tl1, tl2, tl3, tl4, tl5, tl6, tl8, tl9, tl10, tl50, tl81, tl100, tl1000, tl9999, tlm1, tlm9, tlm50, tl2147483647]; omega))) (fun z29 hz29 => ?_)
        refine Ok_nm (fun i30 wi30 => ?_)
        have qi30 := i32eq wi30
        refine Ok_bind (ok_X8_isRoom i30) (fun z31 hz31 => ?_)
        try dsimp only at hz31
        try simp only [tl0, tl1, tl2, tl3, tl4, tl5, tl6, tl8, tl9, tl10, tl50, tl81, tl100, tl1000, tl9999, tlm1, tlm9, tlm50, tl2147483647] at hz31
        refine Ok_jn (fun k32 wk32 => ?_)
        refine Ok_if ?_ ?_
        · intro h
          have c201 : z31.toInt = 0 := i32eq h
          rw [wk32]
          show Ok ((fX8_no i11).bind (fun z36 => some ((-9 : Int32), i10, z36, z28.2, f14))) _
          refine Ok_bind (ok_X8_no i11) (fun z36 hz36 => ?_)
          exact Ok_some trivial
        · intro h
          have c202 : z31.toInt ≠ 0 := i32ne h
          refine Ok_bind (ok_X8_flow f15 i2 i3 (by first | omega | assumption | (try simp only [tl0, tl1, tl2, tl3, tl4, tl5, tl6, tl8, tl9, tl10, tl50, tl81, tl100, tl1000, tl9999, tlm1, tlm9, tlm50, tl2147483647]; omega)) (by first | omega | assumption | (try simp only [tl0, tl1, tl2, tl3, tl4, tl5, tl6, tl8, tl9, tl10, tl50, tl81, tl100, tl1000, tl9999, tlm1, tlm9, tlm50, tl2147483647]; omega)) (by first | omega | assumption | (try simp only [tl0, tl1, tl2, tl3, tl4, tl5, tl6, tl8, tl9, tl10, tl50, tl81, tl100, tl1000, tl9999, tlm1, tlm9, tlm50, tl2147483647]; omega)) (by first | omega | assumption | (try simp only [tl0, tl1, tl2, tl3, tl4, tl5, tl6, tl8, tl9, tl10, tl50, tl81, tl100, tl1000, tl9999, tlm1, tlm9, tlm50, tl2147483647]; omega))) (fun z34 hz34 => ?_)
          refine Ok_if ?_ ?_
          · intro h
            have c203 : z34.toInt ≤ i30.toInt := i32le h
            try (have e204 := idx_iv (x := i2) (y := i3) (by omega) (by omega) (by omega) (by omega))
            refine Ok_inB (vp_of (by first | omega | assumption | (try simp only [tl0, tl1, tl2, tl3, tl4, tl5, tl6, tl8, tl9, tl10, tl50, tl81, tl100, tl1000, tl9999, tlm1, tlm9, tlm50, tl2147483647]; omega)) (by first | omega | assumption | (try simp only [tl0, tl1, tl2, tl3, tl4, tl5, tl6, tl8, tl9, tl10, tl50, tl81, tl100, tl1000, tl9999, tlm1, tlm9, tlm50, tl2147483647]; omega))) ?_
            refine Ok_bind (ok_X8_did i10 i30) (fun z35 hz35 => ?_)
            exact Ok_some trivial
          · intro h
            have c205 : i30.toInt < z34.toInt := i32nle h
            rw [wk32]
            show Ok ((fX8_no i11).bind (fun z36 => some ((-9 : Int32), i10, z36, z28.2, f14))) _
            refine Ok_bind (ok_X8_no i11) (fun z36 hz36 => ?_)
            exact Ok_some trivial
      · intro h
        have c206 : z28.1.toInt ≠ 0 := i32ne h
        exact Ok_some trivial
    · intro h
      have c207 : i2.toInt ≠ i3.toInt := i32ne h
      refine Ok_if ?_ ?_
      · intro h
        have c208 : i4.toInt < (-50) := i32lt h
        rw [wk25]
        show Ok (k23 (1 : Int32)) _
        rw [wk23]
        show Ok ((fX8_isThrown (1 : Int32) (1 : Int32)).bind (fun z28 => if z28.1 = (0 : Int32) then ((fX8_room f14 i2 i3).bind (fun z29 => nm (z29 + i4) (fun (i30 : Int32) => (fX8_isRoom i30).bind (fun z31 => jn (fun (_ : Unit) => (fX8_no i11).bind (fun z36 => some ((-9 : Int32), i10, z36, z28.2, f14))) (fun (k32 : Unit → Option (Int32 × Int32 × Int32 × Int32 × (Nat → Int32))) => if z31 = (0 : Int32) then (k32 ()) else ((fX8_flow f15 i2 i3).bind (fun z34 => if z34 ≤ i30 then (inB ((i2 * (9 : Int32)) + i3) 81 ((fX8_did i10 i30).bind (fun z35 => some (z35.1, z35.2, i11, z28.2, upd f14 ((i2 * (9 : Int32)) + i3).toNatClampNeg i30)))) else (k32 ())))))))) else (some ((0 : Int32), i10, i11, z28.2, f14)))) _
        refine Ok_bind (ok_X8_isThrown (1 : Int32) (1 : Int32)) (fun z28 hz28 => ?_)
        try dsimp only at hz28
        try simp only [tl0, tl1, tl2, tl3, tl4, tl5, tl6, tl8, tl9, tl10, tl50, tl81, tl100, tl1000, tl9999, tlm1, tlm9, tlm50, tl2147483647] at hz28
        refine Ok_if ?_ ?_
        · intro h
          have c209 : z28.1.toInt = 0 := i32eq h
          refine Ok_bind (ok_X8_room f14 i2 i3 (by first | omega | assumption | (try simp only [tl0, tl1, tl2, tl3, tl4, tl5, tl6, tl8, tl9, tl10, tl50, tl81, tl100, tl1000, tl9999, tlm1, tlm9, tlm50, tl2147483647]; omega)) (by first | omega | assumption | (try simp only [tl0, tl1, tl2, tl3, tl4, tl5, tl6, tl8, tl9, tl10, tl50, tl81, tl100, tl1000, tl9999, tlm1, tlm9, tlm50, tl2147483647]; omega)) (by first | omega | assumption | (try simp only [tl0, tl1, tl2, tl3, tl4, tl5, tl6, tl8, tl9, tl10, tl50, tl81, tl100, tl1000, tl9999, tlm1, tlm9, tlm50, tl2147483647]; omega)) (by first | omega | assumption | (try simp only [tl0, tl1, tl2, tl3, tl4, tl5, tl6, tl8, tl9, tl10, tl50, tl81, tl100, tl1000, tl9999, tlm1, tlm9, tlm50, tl2147483647]; omega))) (fun z29 hz29 => ?_)
          refine Ok_nm (fun i30 wi30 => ?_)
          have qi30 := i32eq wi30
          refine Ok_bind (ok_X8_isRoom i30) (fun z31 hz31 => ?_)
          try dsimp only at hz31
          try simp only [tl0, tl1, tl2, tl3, tl4, tl5, tl6, tl8, tl9, tl10, tl50, tl81, tl100, tl1000, tl9999, tlm1, tlm9, tlm50, tl2147483647] at hz31
          refine Ok_jn (fun k32 wk32 => ?_)
          refine Ok_if ?_ ?_
          · intro h
            have c210 : z31.toInt = 0 := i32eq h
            rw [wk32]
            show Ok ((fX8_no i11).bind (fun z36 => some ((-9 : Int32), i10, z36, z28.2, f14))) _
            refine Ok_bind (ok_X8_no i11) (fun z36 hz36 => ?_)
            exact Ok_some trivial
          · intro h
            have c211 : z31.toInt ≠ 0 := i32ne h
            refine Ok_bind (ok_X8_flow f15 i2 i3 (by first | omega | assumption | (try simp only [tl0, tl1, tl2, tl3, tl4, tl5, tl6, tl8, tl9, tl10, tl50, tl81, tl100, tl1000, tl9999, tlm1, tlm9, tlm50, tl2147483647]; omega)) (by first | omega | assumption | (try simp only [tl0, tl1, tl2, tl3, tl4, tl5, tl6, tl8, tl9, tl10, tl50, tl81, tl100, tl1000, tl9999, tlm1, tlm9, tlm50, tl2147483647]; omega)) (by first | omega | assumption | (try simp only [tl0, tl1, tl2, tl3, tl4, tl5, tl6, tl8, tl9, tl10, tl50, tl81, tl100, tl1000, tl9999, tlm1, tlm9, tlm50, tl2147483647]; omega)) (by first | omega | assumption | (try simp only [tl0, tl1, tl2, tl3, tl4, tl5, tl6, tl8, tl9, tl10, tl50, tl81, tl100, tl1000, tl9999, tlm1, tlm9, tlm50, tl2147483647]; omega))) (fun z34 hz34 => ?_)
            refine Ok_if ?_ ?_
            · intro h
              have c212 : z34.toInt ≤ i30.toInt := i32le h
              try (have e213 := idx_iv (x := i2) (y := i3) (by omega) (by omega) (by omega) (by omega))
              refine Ok_inB (vp_of (by first | omega | assumption | (try simp only [tl0, tl1, tl2, tl3, tl4, tl5, tl6, tl8, tl9, tl10, tl50, tl81, tl100, tl1000, tl9999, tlm1, tlm9, tlm50, tl2147483647]; omega)) (by first | omega | assumption | (try simp only [tl0, tl1, tl2, tl3, tl4, tl5, tl6, tl8, tl9, tl10, tl50, tl81, tl100, tl1000, tl9999, tlm1, tlm9, tlm50, tl2147483647]; omega))) ?_
              refine Ok_bind (ok_X8_did i10 i30) (fun z35 hz35 => ?_)
              exact Ok_some trivial
            · intro h
              have c214 : i30.toInt < z34.toInt := i32nle h
              rw [wk32]
              show Ok ((fX8_no i11).bind (fun z36 => some ((-9 : Int32), i10, z36, z28.2, f14))) _
              refine Ok_bind (ok_X8_no i11) (fun z36 hz36 => ?_)
              exact Ok_some trivial
        · intro h
          have c215 : z28.1.toInt ≠ 0 := i32ne h
          exact Ok_some trivial
      · intro h
        have c216 : (-50) ≤ i4.toInt := i32nlt h
        refine Ok_if ?_ ?_
        · intro h
          have c217 : i4.toInt ≤ 50 := i32le h
          rw [wk23]
          show Ok ((fX8_isThrown (1 : Int32) (0 : Int32)).bind (fun z28 => if z28.1 = (0 : Int32) then ((fX8_room f14 i2 i3).bind (fun z29 => nm (z29 + i4) (fun (i30 : Int32) => (fX8_isRoom i30).bind (fun z31 => jn (fun (_ : Unit) => (fX8_no i11).bind (fun z36 => some ((-9 : Int32), i10, z36, z28.2, f14))) (fun (k32 : Unit → Option (Int32 × Int32 × Int32 × Int32 × (Nat → Int32))) => if z31 = (0 : Int32) then (k32 ()) else ((fX8_flow f15 i2 i3).bind (fun z34 => if z34 ≤ i30 then (inB ((i2 * (9 : Int32)) + i3) 81 ((fX8_did i10 i30).bind (fun z35 => some (z35.1, z35.2, i11, z28.2, upd f14 ((i2 * (9 : Int32)) + i3).toNatClampNeg i30)))) else (k32 ())))))))) else (some ((0 : Int32), i10, i11, z28.2, f14)))) _
          refine Ok_bind (ok_X8_isThrown (1 : Int32) (0 : Int32)) (fun z28 hz28 => ?_)
          try dsimp only at hz28
          try simp only [tl0, tl1, tl2, tl3, tl4, tl5, tl6, tl8, tl9, tl10, tl50, tl81, tl100, tl1000, tl9999, tlm1, tlm9, tlm50, tl2147483647] at hz28
          refine Ok_if ?_ ?_
          · intro h
            have c218 : z28.1.toInt = 0 := i32eq h
            refine Ok_bind (ok_X8_room f14 i2 i3 (by first | omega | assumption | (try simp only [tl0, tl1, tl2, tl3, tl4, tl5, tl6, tl8, tl9, tl10, tl50, tl81, tl100, tl1000, tl9999, tlm1, tlm9, tlm50, tl2147483647]; omega)) (by first | omega | assumption | (try simp only [tl0, tl1, tl2, tl3, tl4, tl5, tl6, tl8, tl9, tl10, tl50, tl81, tl100, tl1000, tl9999, tlm1, tlm9, tlm50, tl2147483647]; omega)) (by first | omega | assumption | (try simp only [tl0, tl1, tl2, tl3, tl4, tl5, tl6, tl8, tl9, tl10, tl50, tl81, tl100, tl1000, tl9999, tlm1, tlm9, tlm50, tl2147483647]; omega)) (by first | omega | assumption | (try simp only [tl0, tl1, tl2, tl3, tl4, tl5, tl6, tl8, tl9, tl10, tl50, tl81, tl100, tl1000, tl9999, tlm1, tlm9, tlm50, tl2147483647]; omega))) (fun z29 hz29 => ?_)
            refine Ok_nm (fun i30 wi30 => ?_)
            have qi30 := i32eq wi30
            refine Ok_bind (ok_X8_isRoom i30) (fun z31 hz31 => ?_)
            try dsimp only at hz31
            try simp only [tl0, tl1, tl2, tl3, tl4, tl5, tl6, tl8, tl9, tl10, tl50, tl81, tl100, tl1000, tl9999, tlm1, tlm9, tlm50, tl2147483647] at hz31
            refine Ok_jn (fun k32 wk32 => ?_)
            refine Ok_if ?_ ?_
            · intro h
              have c219 : z31.toInt = 0 := i32eq h
              rw [wk32]
              show Ok ((fX8_no i11).bind (fun z36 => some ((-9 : Int32), i10, z36, z28.2, f14))) _
              refine Ok_bind (ok_X8_no i11) (fun z36 hz36 => ?_)
              exact Ok_some trivial
            · intro h
              have c220 : z31.toInt ≠ 0 := i32ne h
              refine Ok_bind (ok_X8_flow f15 i2 i3 (by first | omega | assumption | (try simp only [tl0, tl1, tl2, tl3, tl4, tl5, tl6, tl8, tl9, tl10, tl50, tl81, tl100, tl1000, tl9999, tlm1, tlm9, tlm50, tl2147483647]; omega)) (by first | omega | assumption | (try simp only [tl0, tl1, tl2, tl3, tl4, tl5, tl6, tl8, tl9, tl10, tl50, tl81, tl100, tl1000, tl9999, tlm1, tlm9, tlm50, tl2147483647]; omega)) (by first | omega | assumption | (try simp only [tl0, tl1, tl2, tl3, tl4, tl5, tl6, tl8, tl9, tl10, tl50, tl81, tl100, tl1000, tl9999, tlm1, tlm9, tlm50, tl2147483647]; omega)) (by first | omega | assumption | (try simp only [tl0, tl1, tl2, tl3, tl4, tl5, tl6, tl8, tl9, tl10, tl50, tl81, tl100, tl1000, tl9999, tlm1, tlm9, tlm50, tl2147483647]; omega))) (fun z34 hz34 => ?_)
              refine Ok_if ?_ ?_
              · intro h
                have c221 : z34.toInt ≤ i30.toInt := i32le h
                try (have e222 := idx_iv (x := i2) (y := i3) (by omega) (by omega) (by omega) (by omega))
                refine Ok_inB (vp_of (by first | omega | assumption | (try simp only [tl0, tl1, tl2, tl3, tl4, tl5, tl6, tl8, tl9, tl10, tl50, tl81, tl100, tl1000, tl9999, tlm1, tlm9, tlm50, tl2147483647]; omega)) (by first | omega | assumption | (try simp only [tl0, tl1, tl2, tl3, tl4, tl5, tl6, tl8, tl9, tl10, tl50, tl81, tl100, tl1000, tl9999, tlm1, tlm9, tlm50, tl2147483647]; omega))) ?_
                refine Ok_bind (ok_X8_did i10 i30) (fun z35 hz35 => ?_)
                exact Ok_some trivial
              · intro h
                have c223 : i30.toInt < z34.toInt := i32nle h
                rw [wk32]
                show Ok ((fX8_no i11).bind (fun z36 => some ((-9 : Int32), i10, z36, z28.2, f14))) _
                refine Ok_bind (ok_X8_no i11) (fun z36 hz36 => ?_)
                exact Ok_some trivial
          · intro h
            have c224 : z28.1.toInt ≠ 0 := i32ne h
            exact Ok_some trivial
        · intro h
          have c225 : 50 < i4.toInt := i32nle h
          rw [wk25]
          show Ok (k23 (1 : Int32)) _
          rw [wk23]
          show Ok ((fX8_isThrown (1 : Int32) (1 : Int32)).bind (fun z28 => if z28.1 = (0 : Int32) then ((fX8_room f14 i2 i3).bind (fun z29 => nm (z29 + i4) (fun (i30 : Int32) => (fX8_isRoom i30).bind (fun z31 => jn (fun (_ : Unit) => (fX8_no i11).bind (fun z36 => some ((-9 : Int32), i10, z36, z28.2, f14))) (fun (k32 : Unit → Option (Int32 × Int32 × Int32 × Int32 × (Nat → Int32))) => if z31 = (0 : Int32) then (k32 ()) else ((fX8_flow f15 i2 i3).bind (fun z34 => if z34 ≤ i30 then (inB ((i2 * (9 : Int32)) + i3) 81 ((fX8_did i10 i30).bind (fun z35 => some (z35.1, z35.2, i11, z28.2, upd f14 ((i2 * (9 : Int32)) + i3).toNatClampNeg i30)))) else (k32 ())))))))) else (some ((0 : Int32), i10, i11, z28.2, f14)))) _
          refine Ok_bind (ok_X8_isThrown (1 : Int32) (1 : Int32)) (fun z28 hz28 => ?_)
          try dsimp only at hz28
          try simp only [tl0, tl1, tl2, tl3, tl4, tl5, tl6, tl8, tl9, tl10, tl50, tl81, tl100, tl1000, tl9999, tlm1, tlm9, tlm50, tl2147483647] at hz28
          refine Ok_if ?_ ?_
          · intro h
            have c226 : z28.1.toInt = 0 := i32eq h
            refine Ok_bind (ok_X8_room f14 i2 i3 (by first | omega | assumption | (try simp only [tl0, tl1, tl2, tl3, tl4, tl5, tl6, tl8, tl9, tl10, tl50, tl81, tl100, tl1000, tl9999, tlm1, tlm9, tlm50, tl2147483647]; omega)) (by first | omega | assumption | (try simp only [tl0, tl1, tl2, tl3, tl4, tl5, tl6, tl8, tl9, tl10, tl50, tl81, tl100, tl1000, tl9999, tlm1, tlm9, tlm50, tl2147483647]; omega)) (by first | omega | assumption | (try simp only [tl0, tl1, tl2, tl3, tl4, tl5, tl6, tl8, tl9, tl10, tl50, tl81, tl100, tl1000, tl9999, tlm1, tlm9, tlm50, tl2147483647]; omega)) (by first | omega | assumption | (try simp only [tl0, tl1, tl2, tl3, tl4, tl5, tl6, tl8, tl9, tl10, tl50, tl81, tl100, tl1000, tl9999, tlm1, tlm9, tlm50, tl2147483647]; omega))) (fun z29 hz29 => ?_)
            refine Ok_nm (fun i30 wi30 => ?_)
            have qi30 := i32eq wi30
            refine Ok_bind (ok_X8_isRoom i30) (fun z31 hz31 => ?_)
            try dsimp only at hz31
            try simp only [tl0, tl1, tl2, tl3, tl4, tl5, tl6, tl8, tl9, tl10, tl50, tl81, tl100, tl1000, tl9999, tlm1, tlm9, tlm50, tl2147483647] at hz31
            refine Ok_jn (fun k32 wk32 => ?_)
            refine Ok_if ?_ ?_
            · intro h
              have c227 : z31.toInt = 0 := i32eq h
              rw [wk32]
              show Ok ((fX8_no i11).bind (fun z36 => some ((-9 : Int32), i10, z36, z28.2, f14))) _
              refine Ok_bind (ok_X8_no i11) (fun z36 hz36 => ?_)
              exact Ok_some trivial
            · intro h
              have c228 : z31.toInt ≠ 0 := i32ne h
              refine Ok_bind (ok_X8_flow f15 i2 i3 (by first | omega | assumption | (try simp only [tl0, tl1, tl2, tl3, tl4, tl5, tl6, tl8, tl9, tl10, tl50, tl81, tl100, tl1000, tl9999, tlm1, tlm9, tlm50, tl2147483647]; omega)) (by first | omega | assumption | (try simp only [tl0, tl1, tl2, tl3, tl4, tl5, tl6, tl8, tl9, tl10, tl50, tl81, tl100, tl1000, tl9999, tlm1, tlm9, tlm50, tl2147483647]; omega)) (by first | omega | assumption | (try simp only [tl0, tl1, tl2, tl3, tl4, tl5, tl6, tl8, tl9, tl10, tl50, tl81, tl100, tl1000, tl9999, tlm1, tlm9, tlm50, tl2147483647]; omega)) (by first | omega | assumption | (try simp only [tl0, tl1, tl2, tl3, tl4, tl5, tl6, tl8, tl9, tl10, tl50, tl81, tl100, tl1000, tl9999, tlm1, tlm9, tlm50, tl2147483647]; omega))) (fun z34 hz34 => ?_)
              refine Ok_if ?_ ?_
              · intro h
                have c229 : z34.toInt ≤ i30.toInt := i32le h
                try (have e230 := idx_iv (x := i2) (y := i3) (by omega) (by omega) (by omega) (by omega))
                refine Ok_inB (vp_of (by first | omega | assumption | (try simp only [tl0, tl1, tl2, tl3, tl4, tl5, tl6, tl8, tl9, tl10, tl50, tl81, tl100, tl1000, tl9999, tlm1, tlm9, tlm50, tl2147483647]; omega)) (by first | omega | assumption | (try simp only [tl0, tl1, tl2, tl3, tl4, tl5, tl6, tl8, tl9, tl10, tl50, tl81, tl100, tl1000, tl9999, tlm1, tlm9, tlm50, tl2147483647]; omega))) ?_
                refine Ok_bind (ok_X8_did i10 i30) (fun z35 hz35 => ?_)
                exact Ok_some trivial
              · intro h
                have c231 : i30.toInt < z34.toInt := i32nle h
                rw [wk32]
                show Ok ((fX8_no i11).bind (fun z36 => some ((-9 : Int32), i10, z36, z28.2, f14))) _
                refine Ok_bind (ok_X8_no i11) (fun z36 hz36 => ?_)
                exact Ok_some trivial
          · intro h
            have c232 : z28.1.toInt ≠ 0 := i32ne h
            exact Ok_some trivial
  · intro h
    have c233 : z16.toInt ≠ 0 := i32ne h
    refine Ok_bind (ok_X8_isPlace i5 i3 (by first | omega | assumption | (try simp only [tl0, tl1, tl2, tl3, tl4, tl5, tl6, tl8, tl9, tl10, tl50, tl81, tl100, tl1000, tl9999, tlm1, tlm9, tlm50, tl2147483647]; omega))) (fun z21 hz21 => ?_)
    try dsimp only at hz21
    try simp only [tl0, tl1, tl2, tl3, tl4, tl5, tl6, tl8, tl9, tl10, tl50, tl81, tl100, tl1000, tl9999, tlm1, tlm9, tlm50, tl2147483647] at hz21
    refine Ok_if ?_ ?_
    · intro h
      have c234 : z21.toInt = 0 := i32eq h
      rw [wk19]
      show Ok (k17 (1 : Int32)) _
      rw [wk17]
      show Ok (jn (fun (i27 : Int32) => (fX8_isThrown (1 : Int32) i27).bind (fun z28 => if z28.1 = (0 : Int32) then ((fX8_room f14 i2 i3).bind (fun z29 => nm (z29 + i4) (fun (i30 : Int32) => (fX8_isRoom i30).bind (fun z31 => jn (fun (_ : Unit) => (fX8_no i11).bind (fun z36 => some ((-9 : Int32), i10, z36, z28.2, f14))) (fun (k32 : Unit → Option (Int32 × Int32 × Int32 × Int32 × (Nat → Int32))) => if z31 = (0 : Int32) then (k32 ()) else ((fX8_flow f15 i2 i3).bind (fun z34 => if z34 ≤ i30 then (inB ((i2 * (9 : Int32)) + i3) 81 ((fX8_did i10 i30).bind (fun z35 => some (z35.1, z35.2, i11, z28.2, upd f14 ((i2 * (9 : Int32)) + i3).toNatClampNeg i30)))) else (k32 ())))))))) else (some ((0 : Int32), i10, i11, z28.2, f14)))) (fun (k23 : Int32 → Option (Int32 × Int32 × Int32 × Int32 × (Nat → Int32))) => jn (fun (_ : Unit) => k23 (1 : Int32)) (fun (k25 : Unit → Option (Int32 × Int32 × Int32 × Int32 × (Nat → Int32))) => if i2 = i3 then (k25 ()) else (if i4 < (-50 : Int32) then (k25 ()) else (if i4 ≤ (50 : Int32) then (k23 (0 : Int32)) else (k25 ())))))) _
      refine Ok_jn (fun k23 wk23 => ?_)
      refine Ok_jn (fun k25 wk25 => ?_)
      refine Ok_if ?_ ?_
      · intro h
        have c235 : i2.toInt = i3.toInt := i32eq h
        rw [wk25]
        show Ok (k23 (1 : Int32)) _
        rw [wk23]
        show Ok ((fX8_isThrown (1 : Int32) (1 : Int32)).bind (fun z28 => if z28.1 = (0 : Int32) then ((fX8_room f14 i2 i3).bind (fun z29 => nm (z29 + i4) (fun (i30 : Int32) => (fX8_isRoom i30).bind (fun z31 => jn (fun (_ : Unit) => (fX8_no i11).bind (fun z36 => some ((-9 : Int32), i10, z36, z28.2, f14))) (fun (k32 : Unit → Option (Int32 × Int32 × Int32 × Int32 × (Nat → Int32))) => if z31 = (0 : Int32) then (k32 ()) else ((fX8_flow f15 i2 i3).bind (fun z34 => if z34 ≤ i30 then (inB ((i2 * (9 : Int32)) + i3) 81 ((fX8_did i10 i30).bind (fun z35 => some (z35.1, z35.2, i11, z28.2, upd f14 ((i2 * (9 : Int32)) + i3).toNatClampNeg i30)))) else (k32 ())))))))) else (some ((0 : Int32), i10, i11, z28.2, f14)))) _
        refine Ok_bind (ok_X8_isThrown (1 : Int32) (1 : Int32)) (fun z28 hz28 => ?_)
        try dsimp only at hz28
        try simp only [tl0, tl1, tl2, tl3, tl4, tl5, tl6, tl8, tl9, tl10, tl50, tl81, tl100, tl1000, tl9999, tlm1, tlm9, tlm50, tl2147483647] at hz28
        refine Ok_if ?_ ?_
        · intro h
          have c236 : z28.1.toInt = 0 := i32eq h
          refine Ok_bind (ok_X8_room f14 i2 i3 (by first | omega | assumption | (try simp only [tl0, tl1, tl2, tl3, tl4, tl5, tl6, tl8, tl9, tl10, tl50, tl81, tl100, tl1000, tl9999, tlm1, tlm9, tlm50, tl2147483647]; omega)) (by first | omega | assumption | (try simp only [tl0, tl1, tl2, tl3, tl4, tl5, tl6, tl8, tl9, tl10, tl50, tl81, tl100, tl1000, tl9999, tlm1, tlm9, tlm50, tl2147483647]; omega)) (by first | omega | assumption | (try simp only [tl0, tl1, tl2, tl3, tl4, tl5, tl6, tl8, tl9, tl10, tl50, tl81, tl100, tl1000, tl9999, tlm1, tlm9, tlm50, tl2147483647]; omega)) (by first | omega | assumption | (try simp only [tl0, tl1, tl2, tl3, tl4, tl5, tl6, tl8, tl9, tl10, tl50, tl81, tl100, tl1000, tl9999, tlm1, tlm9, tlm50, tl2147483647]; omega))) (fun z29 hz29 => ?_)
          refine Ok_nm (fun i30 wi30 => ?_)
          have qi30 := i32eq wi30
          refine Ok_bind (ok_X8_isRoom i30) (fun z31 hz31 => ?_)
          try dsimp only at hz31
          try simp only [tl0, tl1, tl2, tl3, tl4, tl5, tl6, tl8, tl9, tl10, tl50, tl81, tl100, tl1000, tl9999, tlm1, tlm9, tlm50, tl2147483647] at hz31
          refine Ok_jn (fun k32 wk32 => ?_)
          refine Ok_if ?_ ?_
          · intro h
            have c237 : z31.toInt = 0 := i32eq h
            rw [wk32]
            show Ok ((fX8_no i11).bind (fun z36 => some ((-9 : Int32), i10, z36, z28.2, f14))) _
            refine Ok_bind (ok_X8_no i11) (fun z36 hz36 => ?_)
            exact Ok_some trivial
          · intro h
            have c238 : z31.toInt ≠ 0 := i32ne h
            refine Ok_bind (ok_X8_flow f15 i2 i3 (by first | omega | assumption | (try simp only [tl0, tl1, tl2, tl3, tl4, tl5, tl6, tl8, tl9, tl10, tl50, tl81, tl100, tl1000, tl9999, tlm1, tlm9, tlm50, tl2147483647]; omega)) (by first | omega | assumption | (try simp only [tl0, tl1, tl2, tl3, tl4, tl5, tl6, tl8, tl9, tl10, tl50, tl81, tl100, tl1000, tl9999, tlm1, tlm9, tlm50, tl2147483647]; omega)) (by first | omega | assumption | (try simp only [tl0, tl1, tl2, tl3, tl4, tl5, tl6, tl8, tl9, tl10, tl50, tl81, tl100, tl1000, tl9999, tlm1, tlm9, tlm50, tl2147483647]; omega)) (by first | omega | assumption | (try simp only [tl0, tl1, tl2, tl3, tl4, tl5, tl6, tl8, tl9, tl10, tl50, tl81, tl100, tl1000, tl9999, tlm1, tlm9, tlm50, tl2147483647]; omega))) (fun z34 hz34 => ?_)
            refine Ok_if ?_ ?_
            · intro h
              have c239 : z34.toInt ≤ i30.toInt := i32le h
              try (have e240 := idx_iv (x := i2) (y := i3) (by omega) (by omega) (by omega) (by omega))
              refine Ok_inB (vp_of (by first | omega | assumption | (try simp only [tl0, tl1, tl2, tl3, tl4, tl5, tl6, tl8, tl9, tl10, tl50, tl81, tl100, tl1000, tl9999, tlm1, tlm9, tlm50, tl2147483647]; omega)) (by first | omega | assumption | (try simp only [tl0, tl1, tl2, tl3, tl4, tl5, tl6, tl8, tl9, tl10, tl50, tl81, tl100, tl1000, tl9999, tlm1, tlm9, tlm50, tl2147483647]; omega))) ?_
              refine Ok_bind (ok_X8_did i10 i30) (fun z35 hz35 => ?_)
              exact Ok_some trivial
            · intro h
              have c241 : i30.toInt < z34.toInt := i32nle h
              rw [wk32]
              show Ok ((fX8_no i11).bind (fun z36 => some ((-9 : Int32), i10, z36, z28.2, f14))) _
              refine Ok_bind (ok_X8_no i11) (fun z36 hz36 => ?_)
              exact Ok_some trivial
        · intro h
          have c242 : z28.1.toInt ≠ 0 := i32ne h
          exact Ok_some trivial
      · intro h
        have c243 : i2.toInt ≠ i3.toInt := i32ne h
        refine Ok_if ?_ ?_
        · intro h
          have c244 : i4.toInt < (-50) := i32lt h
          rw [wk25]
          show Ok (k23 (1 : Int32)) _
          rw [wk23]
          show Ok ((fX8_isThrown (1 : Int32) (1 : Int32)).bind (fun z28 => if z28.1 = (0 : Int32) then ((fX8_room f14 i2 i3).bind (fun z29 => nm (z29 + i4) (fun (i30 : Int32) => (fX8_isRoom i30).bind (fun z31 => jn (fun (_ : Unit) => (fX8_no i11).bind (fun z36 => some ((-9 : Int32), i10, z36, z28.2, f14))) (fun (k32 : Unit → Option (Int32 × Int32 × Int32 × Int32 × (Nat → Int32))) => if z31 = (0 : Int32) then (k32 ()) else ((fX8_flow f15 i2 i3).bind (fun z34 => if z34 ≤ i30 then (inB ((i2 * (9 : Int32)) + i3) 81 ((fX8_did i10 i30).bind (fun z35 => some (z35.1, z35.2, i11, z28.2, upd f14 ((i2 * (9 : Int32)) + i3).toNatClampNeg i30)))) else (k32 ())))))))) else (some ((0 : Int32), i10, i11, z28.2, f14)))) _
          refine Ok_bind (ok_X8_isThrown (1 : Int32) (1 : Int32)) (fun z28 hz28 => ?_)
          try dsimp only at hz28
          try simp only [tl0, tl1, tl2, tl3, tl4, tl5, tl6, tl8, tl9, tl10, tl50, tl81, tl100, tl1000, tl9999, tlm1, tlm9, tlm50, tl2147483647] at hz28
          refine Ok_if ?_ ?_
          · intro h
            have c245 : z28.1.toInt = 0 := i32eq h
            refine Ok_bind (ok_X8_room f14 i2 i3 (by first | omega | assumption | (try simp only [tl0, tl1, tl2, tl3, tl4, tl5, tl6, tl8, tl9, tl10, tl50, tl81, tl100, tl1000, tl9999, tlm1, tlm9, tlm50, tl2147483647]; omega)) (by first | omega | assumption | (try simp only [tl0, tl1, tl2, tl3, tl4, tl5, tl6, tl8, tl9, tl10, tl50, tl81, tl100, tl1000, tl9999, tlm1, tlm9, tlm50, tl2147483647]; omega)) (by first | omega | assumption | (try simp only [tl0, tl1, tl2, tl3, tl4, tl5, tl6, tl8, tl9, tl10, tl50, tl81, tl100, tl1000, tl9999, tlm1, tlm9, tlm50, tl2147483647]; omega)) (by first | omega | assumption | (try simp only [tl0, tl1, tl2, tl3, tl4, tl5, tl6, tl8, tl9, tl10, tl50, tl81, tl100, tl1000, tl9999, tlm1, tlm9, tlm50, tl2147483647]; omega))) (fun z29 hz29 => ?_)
            refine Ok_nm (fun i30 wi30 => ?_)
            have qi30 := i32eq wi30
            refine Ok_bind (ok_X8_isRoom i30) (fun z31 hz31 => ?_)
            try dsimp only at hz31
            try simp only [tl0, tl1, tl2, tl3, tl4, tl5, tl6, tl8, tl9, tl10, tl50, tl81, tl100, tl1000, tl9999, tlm1, tlm9, tlm50, tl2147483647] at hz31
            refine Ok_jn (fun k32 wk32 => ?_)
            refine Ok_if ?_ ?_
            · intro h
              have c246 : z31.toInt = 0 := i32eq h
              rw [wk32]
              show Ok ((fX8_no i11).bind (fun z36 => some ((-9 : Int32), i10, z36, z28.2, f14))) _
              refine Ok_bind (ok_X8_no i11) (fun z36 hz36 => ?_)
              exact Ok_some trivial
            · intro h
              have c247 : z31.toInt ≠ 0 := i32ne h
              refine Ok_bind (ok_X8_flow f15 i2 i3 (by first | omega | assumption | (try simp only [tl0, tl1, tl2, tl3, tl4, tl5, tl6, tl8, tl9, tl10, tl50, tl81, tl100, tl1000, tl9999, tlm1, tlm9, tlm50, tl2147483647]; omega)) (by first | omega | assumption | (try simp only [tl0, tl1, tl2, tl3, tl4, tl5, tl6, tl8, tl9, tl10, tl50, tl81, tl100, tl1000, tl9999, tlm1, tlm9, tlm50, tl2147483647]; omega)) (by first | omega | assumption | (try simp only [tl0, tl1, tl2, tl3, tl4, tl5, tl6, tl8, tl9, tl10, tl50, tl81, tl100, tl1000, tl9999, tlm1, tlm9, tlm50, tl2147483647]; omega)) (by first | omega | assumption | (try simp only [tl0, tl1, tl2, tl3, tl4, tl5, tl6, tl8, tl9, tl10, tl50, tl81, tl100, tl1000, tl9999, tlm1, tlm9, tlm50, tl2147483647]; omega))) (fun z34 hz34 => ?_)
              refine Ok_if ?_ ?_
              · intro h
                have c248 : z34.toInt ≤ i30.toInt := i32le h
                try (have e249 := idx_iv (x := i2) (y := i3) (by omega) (by omega) (by omega) (by omega))
                refine Ok_inB (vp_of (by first | omega | assumption | (try simp only [tl0, tl1, tl2, tl3, tl4, tl5, tl6, tl8, tl9, tl10, tl50, tl81, tl100, tl1000, tl9999, tlm1, tlm9, tlm50, tl2147483647]; omega)) (by first | omega | assumption | (try simp only [tl0, tl1, tl2, tl3, tl4, tl5, tl6, tl8, tl9, tl10, tl50, tl81, tl100, tl1000, tl9999, tlm1, tlm9, tlm50, tl2147483647]; omega))) ?_
                refine Ok_bind (ok_X8_did i10 i30) (fun z35 hz35 => ?_)
                exact Ok_some trivial
              · intro h
                have c250 : i30.toInt < z34.toInt := i32nle h
                rw [wk32]
                show Ok ((fX8_no i11).bind (fun z36 => some ((-9 : Int32), i10, z36, z28.2, f14))) _
                refine Ok_bind (ok_X8_no i11) (fun z36 hz36 => ?_)
                exact Ok_some trivial
          · intro h
            have c251 : z28.1.toInt ≠ 0 := i32ne h
            exact Ok_some trivial
        · intro h
          have c252 : (-50) ≤ i4.toInt := i32nlt h
          refine Ok_if ?_ ?_
          · intro h
            have c253 : i4.toInt ≤ 50 := i32le h
            rw [wk23]
            show Ok ((fX8_isThrown (1 : Int32) (0 : Int32)).bind (fun z28 => if z28.1 = (0 : Int32) then ((fX8_room f14 i2 i3).bind (fun z29 => nm (z29 + i4) (fun (i30 : Int32) => (fX8_isRoom i30).bind (fun z31 => jn (fun (_ : Unit) => (fX8_no i11).bind (fun z36 => some ((-9 : Int32), i10, z36, z28.2, f14))) (fun (k32 : Unit → Option (Int32 × Int32 × Int32 × Int32 × (Nat → Int32))) => if z31 = (0 : Int32) then (k32 ()) else ((fX8_flow f15 i2 i3).bind (fun z34 => if z34 ≤ i30 then (inB ((i2 * (9 : Int32)) + i3) 81 ((fX8_did i10 i30).bind (fun z35 => some (z35.1, z35.2, i11, z28.2, upd f14 ((i2 * (9 : Int32)) + i3).toNatClampNeg i30)))) else (k32 ())))))))) else (some ((0 : Int32), i10, i11, z28.2, f14)))) _
            refine Ok_bind (ok_X8_isThrown (1 : Int32) (0 : Int32)) (fun z28 hz28 => ?_)
            try dsimp only at hz28
            try simp only [tl0, tl1, tl2, tl3, tl4, tl5, tl6, tl8, tl9, tl10, tl50, tl81, tl100, tl1000, tl9999, tlm1, tlm9, tlm50, tl2147483647] at hz28
            refine Ok_if ?_ ?_
            · intro h
              have c254 : z28.1.toInt = 0 := i32eq h
              refine Ok_bind (ok_X8_room f14 i2 i3 (by first | omega | assumption | (try simp only [tl0, tl1, tl2, tl3, tl4, tl5, tl6, tl8, tl9, tl10, tl50, tl81, tl100, tl1000, tl9999, tlm1, tlm9, tlm50, tl2147483647]; omega)) (by first | omega | assumption | (try simp only [tl0, tl1, tl2, tl3, tl4, tl5, tl6, tl8, tl9, tl10, tl50, tl81, tl100, tl1000, tl9999, tlm1, tlm9, tlm50, tl2147483647]; omega)) (by first | omega | assumption | (try simp only [tl0, tl1, tl2, tl3, tl4, tl5, tl6, tl8, tl9, tl10, tl50, tl81, tl100, tl1000, tl9999, tlm1, tlm9, tlm50, tl2147483647]; omega)) (by first | omega | assumption | (try simp only [tl0, tl1, tl2, tl3, tl4, tl5, tl6, tl8, tl9, tl10, tl50, tl81, tl100, tl1000, tl9999, tlm1, tlm9, tlm50, tl2147483647]; omega))) (fun z29 hz29 => ?_)
              refine Ok_nm (fun i30 wi30 => ?_)
              have qi30 := i32eq wi30
              refine Ok_bind (ok_X8_isRoom i30) (fun z31 hz31 => ?_)
              try dsimp only at hz31
              try simp only [tl0, tl1, tl2, tl3, tl4, tl5, tl6, tl8, tl9, tl10, tl50, tl81, tl100, tl1000, tl9999, tlm1, tlm9, tlm50, tl2147483647] at hz31
              refine Ok_jn (fun k32 wk32 => ?_)
              refine Ok_if ?_ ?_
              · intro h
                have c255 : z31.toInt = 0 := i32eq h
                rw [wk32]
                show Ok ((fX8_no i11).bind (fun z36 => some ((-9 : Int32), i10, z36, z28.2, f14))) _
                refine Ok_bind (ok_X8_no i11) (fun z36 hz36 => ?_)
                exact Ok_some trivial
              · intro h
                have c256 : z31.toInt ≠ 0 := i32ne h
                refine Ok_bind (ok_X8_flow f15 i2 i3 (by first | omega | assumption | (try simp only [tl0, tl1, tl2, tl3, tl4, tl5, tl6, tl8, tl9, tl10, tl50, tl81, tl100, tl1000, tl9999, tlm1, tlm9, tlm50, tl2147483647]; omega)) (by first | omega | assumption | (try simp only [tl0, tl1, tl2, tl3, tl4, tl5, tl6, tl8, tl9, tl10, tl50, tl81, tl100, tl1000, tl9999, tlm1, tlm9, tlm50, tl2147483647]; omega)) (by first | omega | assumption | (try simp only [tl0, tl1, tl2, tl3, tl4, tl5, tl6, tl8, tl9, tl10, tl50, tl81, tl100, tl1000, tl9999, tlm1, tlm9, tlm50, tl2147483647]; omega)) (by first | omega | assumption | (try simp only [tl0, tl1, tl2, tl3, tl4, tl5, tl6, tl8, tl9, tl10, tl50, tl81, tl100, tl1000, tl9999, tlm1, tlm9, tlm50, tl2147483647]; omega))) (fun z34 hz34 => ?_)
                refine Ok_if ?_ ?_
                · intro h
                  have c257 : z34.toInt ≤ i30.toInt := i32le h
                  try (have e258 := idx_iv (x := i2) (y := i3) (by omega) (by omega) (by omega) (by omega))
                  refine Ok_inB (vp_of (by first | omega | assumption | (try simp only [tl0, tl1, tl2, tl3, tl4, tl5, tl6, tl8, tl9, tl10, tl50, tl81, tl100, tl1000, tl9999, tlm1, tlm9, tlm50, tl2147483647]; omega)) (by first | omega | assumption | (try simp only [tl0, tl1, tl2, tl3, tl4, tl5, tl6, tl8, tl9, tl10, tl50, tl81, tl100, tl1000, tl9999, tlm1, tlm9, tlm50, tl2147483647]; omega))) ?_
                  refine Ok_bind (ok_X8_did i10 i30) (fun z35 hz35 => ?_)
                  exact Ok_some trivial
                · intro h
                  have c259 : i30.toInt < z34.toInt := i32nle h
                  rw [wk32]
                  show Ok ((fX8_no i11).bind (fun z36 => some ((-9 : Int32), i10, z36, z28.2, f14))) _
                  refine Ok_bind (ok_X8_no i11) (fun z36 hz36 => ?_)
                  exact Ok_some trivial
            · intro h
              have c260 : z28.1.toInt ≠ 0 := i32ne h
              exact Ok_some trivial
          · intro h
            have c261 : 50 < i4.toInt := i32nle h
            rw [wk25]
            show Ok (k23 (1 : Int32)) _
            rw [wk23]
            show Ok ((fX8_isThrown (1 : Int32) (1 : Int32)).bind (fun z28 => if z28.1 = (0 : Int32) then ((fX8_room f14 i2 i3).bind (fun z29 => nm (z29 + i4) (fun (i30 : Int32) => (fX8_isRoom i30).bind (fun z31 => jn (fun (_ : Unit) => (fX8_no i11).bind (fun z36 => some ((-9 : Int32), i10, z36, z28.2, f14))) (fun (k32 : Unit → Option (Int32 × Int32 × Int32 × Int32 × (Nat → Int32))) => if z31 = (0 : Int32) then (k32 ()) else ((fX8_flow f15 i2 i3).bind (fun z34 => if z34 ≤ i30 then (inB ((i2 * (9 : Int32)) + i3) 81 ((fX8_did i10 i30).bind (fun z35 => some (z35.1, z35.2, i11, z28.2, upd f14 ((i2 * (9 : Int32)) + i3).toNatClampNeg i30)))) else (k32 ())))))))) else (some ((0 : Int32), i10, i11, z28.2, f14)))) _
            refine Ok_bind (ok_X8_isThrown (1 : Int32) (1 : Int32)) (fun z28 hz28 => ?_)
            try dsimp only at hz28
            try simp only [tl0, tl1, tl2, tl3, tl4, tl5, tl6, tl8, tl9, tl10, tl50, tl81, tl100, tl1000, tl9999, tlm1, tlm9, tlm50, tl2147483647] at hz28
            refine Ok_if ?_ ?_
            · intro h
              have c262 : z28.1.toInt = 0 := i32eq h
              refine Ok_bind (ok_X8_room f14 i2 i3 (by first | omega | assumption | (try simp only [tl0, tl1, tl2, tl3, tl4, tl5, tl6, tl8, tl9, tl10, tl50, tl81, tl100, tl1000, tl9999, tlm1, tlm9, tlm50, tl2147483647]; omega)) (by first | omega | assumption | (try simp only [tl0, tl1, tl2, tl3, tl4, tl5, tl6, tl8, tl9, tl10, tl50, tl81, tl100, tl1000, tl9999, tlm1, tlm9, tlm50, tl2147483647]; omega)) (by first | omega | assumption | (try simp only [tl0, tl1, tl2, tl3, tl4, tl5, tl6, tl8, tl9, tl10, tl50, tl81, tl100, tl1000, tl9999, tlm1, tlm9, tlm50, tl2147483647]; omega)) (by first | omega | assumption | (try simp only [tl0, tl1, tl2, tl3, tl4, tl5, tl6, tl8, tl9, tl10, tl50, tl81, tl100, tl1000, tl9999, tlm1, tlm9, tlm50, tl2147483647]; omega))) (fun z29 hz29 => ?_)
              refine Ok_nm (fun i30 wi30 => ?_)
              have qi30 := i32eq wi30
              refine Ok_bind (ok_X8_isRoom i30) (fun z31 hz31 => ?_)
              try dsimp only at hz31
              try simp only [tl0, tl1, tl2, tl3, tl4, tl5, tl6, tl8, tl9, tl10, tl50, tl81, tl100, tl1000, tl9999, tlm1, tlm9, tlm50, tl2147483647] at hz31
              refine Ok_jn (fun k32 wk32 => ?_)
              refine Ok_if ?_ ?_
              · intro h
                have c263 : z31.toInt = 0 := i32eq h
                rw [wk32]
                show Ok ((fX8_no i11).bind (fun z36 => some ((-9 : Int32), i10, z36, z28.2, f14))) _
                refine Ok_bind (ok_X8_no i11) (fun z36 hz36 => ?_)
                exact Ok_some trivial
              · intro h
                have c264 : z31.toInt ≠ 0 := i32ne h
                refine Ok_bind (ok_X8_flow f15 i2 i3 (by first | omega | assumption | (try simp only [tl0, tl1, tl2, tl3, tl4, tl5, tl6, tl8, tl9, tl10, tl50, tl81, tl100, tl1000, tl9999, tlm1, tlm9, tlm50, tl2147483647]; omega)) (by first | omega | assumption | (try simp only [tl0, tl1, tl2, tl3, tl4, tl5, tl6, tl8, tl9, tl10, tl50, tl81, tl100, tl1000, tl9999, tlm1, tlm9, tlm50, tl2147483647]; omega)) (by first | omega | assumption | (try simp only [tl0, tl1, tl2, tl3, tl4, tl5, tl6, tl8, tl9, tl10, tl50, tl81, tl100, tl1000, tl9999, tlm1, tlm9, tlm50, tl2147483647]; omega)) (by first | omega | assumption | (try simp only [tl0, tl1, tl2, tl3, tl4, tl5, tl6, tl8, tl9, tl10, tl50, tl81, tl100, tl1000, tl9999, tlm1, tlm9, tlm50, tl2147483647]; omega))) (fun z34 hz34 => ?_)
                refine Ok_if ?_ ?_
                · intro h
                  have c265 : z34.toInt ≤ i30.toInt := i32le h
                  try (have e266 := idx_iv (x := i2) (y := i3) (by omega) (by omega) (by omega) (by omega))
                  refine Ok_inB (vp_of (by first | omega | assumption | (try simp only [tl0, tl1, tl2, tl3, tl4, tl5, tl6, tl8, tl9, tl10, tl50, tl81, tl100, tl1000, tl9999, tlm1, tlm9, tlm50, tl2147483647]; omega)) (by first | omega | assumption | (try simp only [tl0, tl1, tl2, tl3, tl4, tl5, tl6, tl8, tl9, tl10, tl50, tl81, tl100, tl1000, tl9999, tlm1, tlm9, tlm50, tl2147483647]; omega))) ?_
                  refine Ok_bind (ok_X8_did i10 i30) (fun z35 hz35 => ?_)
                  exact Ok_some trivial
                · intro h
                  have c267 : i30.toInt < z34.toInt := i32nle h
                  rw [wk32]
                  show Ok ((fX8_no i11).bind (fun z36 => some ((-9 : Int32), i10, z36, z28.2, f14))) _
                  refine Ok_bind (ok_X8_no i11) (fun z36 hz36 => ?_)
                  exact Ok_some trivial
            · intro h
              have c268 : z28.1.toInt ≠ 0 := i32ne h
              exact Ok_some trivial
    · intro h
      have c269 : z21.toInt ≠ 0 := i32ne h
      rw [wk17]
      show Ok (jn (fun (i27 : Int32) => (fX8_isThrown (0 : Int32) i27).bind (fun z28 => if z28.1 = (0 : Int32) then ((fX8_room f14 i2 i3).bind (fun z29 => nm (z29 + i4) (fun (i30 : Int32) => (fX8_isRoom i30).bind (fun z31 => jn (fun (_ : Unit) => (fX8_no i11).bind (fun z36 => some ((-9 : Int32), i10, z36, z28.2, f14))) (fun (k32 : Unit → Option (Int32 × Int32 × Int32 × Int32 × (Nat → Int32))) => if z31 = (0 : Int32) then (k32 ()) else ((fX8_flow f15 i2 i3).bind (fun z34 => if z34 ≤ i30 then (inB ((i2 * (9 : Int32)) + i3) 81 ((fX8_did i10 i30).bind (fun z35 => some (z35.1, z35.2, i11, z28.2, upd f14 ((i2 * (9 : Int32)) + i3).toNatClampNeg i30)))) else (k32 ())))))))) else (some ((0 : Int32), i10, i11, z28.2, f14)))) (fun (k23 : Int32 → Option (Int32 × Int32 × Int32 × Int32 × (Nat → Int32))) => jn (fun (_ : Unit) => k23 (1 : Int32)) (fun (k25 : Unit → Option (Int32 × Int32 × Int32 × Int32 × (Nat → Int32))) => if i2 = i3 then (k25 ()) else (if i4 < (-50 : Int32) then (k25 ()) else (if i4 ≤ (50 : Int32) then (k23 (0 : Int32)) else (k25 ())))))) _
      refine Ok_jn (fun k23 wk23 => ?_)
      refine Ok_jn (fun k25 wk25 => ?_)
      refine Ok_if ?_ ?_
      · intro h
        have c270 : i2.toInt = i3.toInt := i32eq h
        rw [wk25]
        show Ok (k23 (1 : Int32)) _
        rw [wk23]
        show Ok ((fX8_isThrown (0 : Int32) (1 : Int32)).bind (fun z28 => if z28.1 = (0 : Int32) then ((fX8_room f14 i2 i3).bind (fun z29 => nm (z29 + i4) (fun (i30 : Int32) => (fX8_isRoom i30).bind (fun z31 => jn (fun (_ : Unit) => (fX8_no i11).bind (fun z36 => some ((-9 : Int32), i10, z36, z28.2, f14))) (fun (k32 : Unit → Option (Int32 × Int32 × Int32 × Int32 × (Nat → Int32))) => if z31 = (0 : Int32) then (k32 ()) else ((fX8_flow f15 i2 i3).bind (fun z34 => if z34 ≤ i30 then (inB ((i2 * (9 : Int32)) + i3) 81 ((fX8_did i10 i30).bind (fun z35 => some (z35.1, z35.2, i11, z28.2, upd f14 ((i2 * (9 : Int32)) + i3).toNatClampNeg i30)))) else (k32 ())))))))) else (some ((0 : Int32), i10, i11, z28.2, f14)))) _
        refine Ok_bind (ok_X8_isThrown (0 : Int32) (1 : Int32)) (fun z28 hz28 => ?_)
        try dsimp only at hz28
        try simp only [tl0, tl1, tl2, tl3, tl4, tl5, tl6, tl8, tl9, tl10, tl50, tl81, tl100, tl1000, tl9999, tlm1, tlm9, tlm50, tl2147483647] at hz28
        refine Ok_if ?_ ?_
        · intro h
          have c271 : z28.1.toInt = 0 := i32eq h
          refine Ok_bind (ok_X8_room f14 i2 i3 (by first | omega | assumption | (try simp only [tl0, tl1, tl2, tl3, tl4, tl5, tl6, tl8, tl9, tl10, tl50, tl81, tl100, tl1000, tl9999, tlm1, tlm9, tlm50, tl2147483647]; omega)) (by first | omega | assumption | (try simp only [tl0, tl1, tl2, tl3, tl4, tl5, tl6, tl8, tl9, tl10, tl50, tl81, tl100, tl1000, tl9999, tlm1, tlm9, tlm50, tl2147483647]; omega)) (by first | omega | assumption | (try simp only [tl0, tl1, tl2, tl3, tl4, tl5, tl6, tl8, tl9, tl10, tl50, tl81, tl100, tl1000, tl9999, tlm1, tlm9, tlm50, tl2147483647]; omega)) (by first | omega | assumption | (try simp only [tl0, tl1, tl2, tl3, tl4, tl5, tl6, tl8, tl9, tl10, tl50, tl81, tl100, tl1000, tl9999, tlm1, tlm9, tlm50, tl2147483647]; omega))) (fun z29 hz29 => ?_)
          refine Ok_nm (fun i30 wi30 => ?_)
          have qi30 := i32eq wi30
          refine Ok_bind (ok_X8_isRoom i30) (fun z31 hz31 => ?_)
          try dsimp only at hz31
          try simp only [tl0, tl1, tl2, tl3, tl4, tl5, tl6, tl8, tl9, tl10, tl50, tl81, tl100, tl1000, tl9999, tlm1, tlm9, tlm50, tl2147483647] at hz31
          refine Ok_jn (fun k32 wk32 => ?_)
          refine Ok_if ?_ ?_
          · intro h
            have c272 : z31.toInt = 0 := i32eq h
            rw [wk32]
            show Ok ((fX8_no i11).bind (fun z36 => some ((-9 : Int32), i10, z36, z28.2, f14))) _
            refine Ok_bind (ok_X8_no i11) (fun z36 hz36 => ?_)
            exact Ok_some trivial
          · intro h
            have c273 : z31.toInt ≠ 0 := i32ne h
            refine Ok_bind (ok_X8_flow f15 i2 i3 (by first | omega | assumption | (try simp only [tl0, tl1, tl2, tl3, tl4, tl5, tl6, tl8, tl9, tl10, tl50, tl81, tl100, tl1000, tl9999, tlm1, tlm9, tlm50, tl2147483647]; omega)) (by first | omega | assumption | (try simp only [tl0, tl1, tl2, tl3, tl4, tl5, tl6, tl8, tl9, tl10, tl50, tl81, tl100, tl1000, tl9999, tlm1, tlm9, tlm50, tl2147483647]; omega)) (by first | omega | assumption | (try simp only [tl0, tl1, tl2, tl3, tl4, tl5, tl6, tl8, tl9, tl10, tl50, tl81, tl100, tl1000, tl9999, tlm1, tlm9, tlm50, tl2147483647]; omega)) (by first | omega | assumption | (try simp only [tl0, tl1, tl2, tl3, tl4, tl5, tl6, tl8, tl9, tl10, tl50, tl81, tl100, tl1000, tl9999, tlm1, tlm9, tlm50, tl2147483647]; omega))) (fun z34 hz34 => ?_)
            refine Ok_if ?_ ?_
            · intro h
              have c274 : z34.toInt ≤ i30.toInt := i32le h
              try (have e275 := idx_iv (x := i2) (y := i3) (by omega) (by omega) (by omega) (by omega))
              refine Ok_inB (vp_of (by first | omega | assumption | (try simp only [tl0, tl1, tl2, tl3, tl4, tl5, tl6, tl8, tl9, tl10, tl50, tl81, tl100, tl1000, tl9999, tlm1, tlm9, tlm50, tl2147483647]; omega)) (by first | omega | assumption | (try simp only [tl0, tl1, tl2, tl3, tl4, tl5, tl6, tl8, tl9, tl10, tl50, tl81, tl100, tl1000, tl9999, tlm1, tlm9, tlm50, tl2147483647]; omega))) ?_
              refine Ok_bind (ok_X8_did i10 i30) (fun z35 hz35 => ?_)
              exact Ok_some trivial
            · intro h
              have c276 : i30.toInt < z34.toInt := i32nle h
              rw [wk32]
              show Ok ((fX8_no i11).bind (fun z36 => some ((-9 : Int32), i10, z36, z28.2, f14))) _
              refine Ok_bind (ok_X8_no i11) (fun z36 hz36 => ?_)
              exact Ok_some trivial
        · intro h
          have c277 : z28.1.toInt ≠ 0 := i32ne h
          exact Ok_some trivial
      · intro h
        have c278 : i2.toInt ≠ i3.toInt := i32ne h
        refine Ok_if ?_ ?_
        · intro h
          have c279 : i4.toInt < (-50) := i32lt h
          rw [wk25]
          show Ok (k23 (1 : Int32)) _
          rw [wk23]
          show Ok ((fX8_isThrown (0 : Int32) (1 : Int32)).bind (fun z28 => if z28.1 = (0 : Int32) then ((fX8_room f14 i2 i3).bind (fun z29 => nm (z29 + i4) (fun (i30 : Int32) => (fX8_isRoom i30).bind (fun z31 => jn (fun (_ : Unit) => (fX8_no i11).bind (fun z36 => some ((-9 : Int32), i10, z36, z28.2, f14))) (fun (k32 : Unit → Option (Int32 × Int32 × Int32 × Int32 × (Nat → Int32))) => if z31 = (0 : Int32) then (k32 ()) else ((fX8_flow f15 i2 i3).bind (fun z34 => if z34 ≤ i30 then (inB ((i2 * (9 : Int32)) + i3) 81 ((fX8_did i10 i30).bind (fun z35 => some (z35.1, z35.2, i11, z28.2, upd f14 ((i2 * (9 : Int32)) + i3).toNatClampNeg i30)))) else (k32 ())))))))) else (some ((0 : Int32), i10, i11, z28.2, f14)))) _
          refine Ok_bind (ok_X8_isThrown (0 : Int32) (1 : Int32)) (fun z28 hz28 => ?_)
          try dsimp only at hz28
          try simp only [tl0, tl1, tl2, tl3, tl4, tl5, tl6, tl8, tl9, tl10, tl50, tl81, tl100, tl1000, tl9999, tlm1, tlm9, tlm50, tl2147483647] at hz28
          refine Ok_if ?_ ?_
          · intro h
            have c280 : z28.1.toInt = 0 := i32eq h
            refine Ok_bind (ok_X8_room f14 i2 i3 (by first | omega | assumption | (try simp only [tl0, tl1, tl2, tl3, tl4, tl5, tl6, tl8, tl9, tl10, tl50, tl81, tl100, tl1000, tl9999, tlm1, tlm9, tlm50, tl2147483647]; omega)) (by first | omega | assumption | (try simp only [tl0, tl1, tl2, tl3, tl4, tl5, tl6, tl8, tl9, tl10, tl50, tl81, tl100, tl1000, tl9999, tlm1, tlm9, tlm50, tl2147483647]; omega)) (by first | omega | assumption | (try simp only [tl0, tl1, tl2, tl3, tl4, tl5, tl6, tl8, tl9, tl10, tl50, tl81, tl100, tl1000, tl9999, tlm1, tlm9, tlm50, tl2147483647]; omega)) (by first | omega | assumption | (try simp only [tl0, tl1, tl2, tl3, tl4, tl5, tl6, tl8, tl9, tl10, tl50, tl81, tl100, tl1000, tl9999, tlm1, tlm9, tlm50, tl2147483647]; omega))) (fun z29 hz29 => ?_)
            refine Ok_nm (fun i30 wi30 => ?_)
            have qi30 := i32eq wi30
            refine Ok_bind (ok_X8_isRoom i30) (fun z31 hz31 => ?_)
            try dsimp only at hz31
            try simp only [tl0, tl1, tl2, tl3, tl4, tl5, tl6, tl8, tl9, tl10, tl50, tl81, tl100, tl1000, tl9999, tlm1, tlm9, tlm50, tl2147483647] at hz31
            refine Ok_jn (fun k32 wk32 => ?_)
            refine Ok_if ?_ ?_
            · intro h
              have c281 : z31.toInt = 0 := i32eq h
              rw [wk32]
              show Ok ((fX8_no i11).bind (fun z36 => some ((-9 : Int32), i10, z36, z28.2, f14))) _
              refine Ok_bind (ok_X8_no i11) (fun z36 hz36 => ?_)
              exact Ok_some trivial
            · intro h
              have c282 : z31.toInt ≠ 0 := i32ne h
              refine Ok_bind (ok_X8_flow f15 i2 i3 (by first | omega | assumption | (try simp only [tl0, tl1, tl2, tl3, tl4, tl5, tl6, tl8, tl9, tl10, tl50, tl81, tl100, tl1000, tl9999, tlm1, tlm9, tlm50, tl2147483647]; omega)) (by first | omega | assumption | (try simp only [tl0, tl1, tl2, tl3, tl4, tl5, tl6, tl8, tl9, tl10, tl50, tl81, tl100, tl1000, tl9999, tlm1, tlm9, tlm50, tl2147483647]; omega)) (by first | omega | assumption | (try simp only [tl0, tl1, tl2, tl3, tl4, tl5, tl6, tl8, tl9, tl10, tl50, tl81, tl100, tl1000, tl9999, tlm1, tlm9, tlm50, tl2147483647]; omega)) (by first | omega | assumption | (try simp only [tl0, tl1, tl2, tl3, tl4, tl5, tl6, tl8, tl9, tl10, tl50, tl81, tl100, tl1000, tl9999, tlm1, tlm9, tlm50, tl2147483647]; omega))) (fun z34 hz34 => ?_)
              refine Ok_if ?_ ?_
              · intro h
                have c283 : z34.toInt ≤ i30.toInt := i32le h
                try (have e284 := idx_iv (x := i2) (y := i3) (by omega) (by omega) (by omega) (by omega))
                refine Ok_inB (vp_of (by first | omega | assumption | (try simp only [tl0, tl1, tl2, tl3, tl4, tl5, tl6, tl8, tl9, tl10, tl50, tl81, tl100, tl1000, tl9999, tlm1, tlm9, tlm50, tl2147483647]; omega)) (by first | omega | assumption | (try simp only [tl0, tl1, tl2, tl3, tl4, tl5, tl6, tl8, tl9, tl10, tl50, tl81, tl100, tl1000, tl9999, tlm1, tlm9, tlm50, tl2147483647]; omega))) ?_
                refine Ok_bind (ok_X8_did i10 i30) (fun z35 hz35 => ?_)
                exact Ok_some trivial
              · intro h
                have c285 : i30.toInt < z34.toInt := i32nle h
                rw [wk32]
                show Ok ((fX8_no i11).bind (fun z36 => some ((-9 : Int32), i10, z36, z28.2, f14))) _
                refine Ok_bind (ok_X8_no i11) (fun z36 hz36 => ?_)
                exact Ok_some trivial
          · intro h
            have c286 : z28.1.toInt ≠ 0 := i32ne h
            exact Ok_some trivial
        · intro h
          have c287 : (-50) ≤ i4.toInt := i32nlt h
          refine Ok_if ?_ ?_
          · intro h
            have c288 : i4.toInt ≤ 50 := i32le h
            rw [wk23]
            show Ok ((fX8_isThrown (0 : Int32) (0 : Int32)).bind (fun z28 => if z28.1 = (0 : Int32) then ((fX8_room f14 i2 i3).bind (fun z29 => nm (z29 + i4) (fun (i30 : Int32) => (fX8_isRoom i30).bind (fun z31 => jn (fun (_ : Unit) => (fX8_no i11).bind (fun z36 => some ((-9 : Int32), i10, z36, z28.2, f14))) (fun (k32 : Unit → Option (Int32 × Int32 × Int32 × Int32 × (Nat → Int32))) => if z31 = (0 : Int32) then (k32 ()) else ((fX8_flow f15 i2 i3).bind (fun z34 => if z34 ≤ i30 then (inB ((i2 * (9 : Int32)) + i3) 81 ((fX8_did i10 i30).bind (fun z35 => some (z35.1, z35.2, i11, z28.2, upd f14 ((i2 * (9 : Int32)) + i3).toNatClampNeg i30)))) else (k32 ())))))))) else (some ((0 : Int32), i10, i11, z28.2, f14)))) _
            refine Ok_bind (ok_X8_isThrown (0 : Int32) (0 : Int32)) (fun z28 hz28 => ?_)
            try dsimp only at hz28
            try simp only [tl0, tl1, tl2, tl3, tl4, tl5, tl6, tl8, tl9, tl10, tl50, tl81, tl100, tl1000, tl9999, tlm1, tlm9, tlm50, tl2147483647] at hz28
            refine Ok_if ?_ ?_
            · intro h
              have c289 : z28.1.toInt = 0 := i32eq h
              refine Ok_bind (ok_X8_room f14 i2 i3 (by first | omega | assumption | (try simp only [tl0, tl1, tl2, tl3, tl4, tl5, tl6, tl8, tl9, tl10, tl50, tl81, tl100, tl1000, tl9999, tlm1, tlm9, tlm50, tl2147483647]; omega)) (by first | omega | assumption | (try simp only [tl0, tl1, tl2, tl3, tl4, tl5, tl6, tl8, tl9, tl10, tl50, tl81, tl100, tl1000, tl9999, tlm1, tlm9, tlm50, tl2147483647]; omega)) (by first | omega | assumption | (try simp only [tl0, tl1, tl2, tl3, tl4, tl5, tl6, tl8, tl9, tl10, tl50, tl81, tl100, tl1000, tl9999, tlm1, tlm9, tlm50, tl2147483647]; omega)) (by first | omega | assumption | (try simp only [tl0, tl1, tl2, tl3, tl4, tl5, tl6, tl8, tl9, tl10, tl50, tl81, tl100, tl1000, tl9999, tlm1, tlm9, tlm50, tl2147483647]; omega))) (fun z29 hz29 => ?_)
              refine Ok_nm (fun i30 wi30 => ?_)
              have qi30 := i32eq wi30
              refine Ok_bind (ok_X8_isRoom i30) (fun z31 hz31 => ?_)
              try dsimp only at hz31
              try simp only [tl0, tl1, tl2, tl3, tl4, tl5, tl6, tl8, tl9, tl10, tl50, tl81, tl100, tl1000, tl9999, tlm1, tlm9, tlm50, tl2147483647] at hz31
              refine Ok_jn (fun k32 wk32 => ?_)
              refine Ok_if ?_ ?_
              · intro h
                have c290 : z31.toInt = 0 := i32eq h
                rw [wk32]
                show Ok ((fX8_no i11).bind (fun z36 => some ((-9 : Int32), i10, z36, z28.2, f14))) _
                refine Ok_bind (ok_X8_no i11) (fun z36 hz36 => ?_)
                exact Ok_some trivial
              · intro h
                have c291 : z31.toInt ≠ 0 := i32ne h
                refine Ok_bind (ok_X8_flow f15 i2 i3 (by first | omega | assumption | (try simp only [tl0, tl1, tl2, tl3, tl4, tl5, tl6, tl8, tl9, tl10, tl50, tl81, tl100, tl1000, tl9999, tlm1, tlm9, tlm50, tl2147483647]; omega)) (by first | omega | assumption | (try simp only [tl0, tl1, tl2, tl3, tl4, tl5, tl6, tl8, tl9, tl10, tl50, tl81, tl100, tl1000, tl9999, tlm1, tlm9, tlm50, tl2147483647]; omega)) (by first | omega | assumption | (try simp only [tl0, tl1, tl2, tl3, tl4, tl5, tl6, tl8, tl9, tl10, tl50, tl81, tl100, tl1000, tl9999, tlm1, tlm9, tlm50, tl2147483647]; omega)) (by first | omega | assumption | (try simp only [tl0, tl1, tl2, tl3, tl4, tl5, tl6, tl8, tl9, tl10, tl50, tl81, tl100, tl1000, tl9999, tlm1, tlm9, tlm50, tl2147483647]; omega))) (fun z34 hz34 => ?_)
                refine Ok_if ?_ ?_
                · intro h
                  have c292 : z34.toInt ≤ i30.toInt := i32le h
                  try (have e293 := idx_iv (x := i2) (y := i3) (by omega) (by omega) (by omega) (by omega))
                  refine Ok_inB (vp_of (by first | omega | assumption | (try simp only [tl0, tl1, tl2, tl3, tl4, tl5, tl6, tl8, tl9, tl10, tl50, tl81, tl100, tl1000, tl9999, tlm1, tlm9, tlm50, tl2147483647]; omega)) (by first | omega | assumption | (try simp only [tl0, tl1, tl2, tl3, tl4, tl5, tl6, tl8, tl9, tl10, tl50, tl81, tl100, tl1000, tl9999, tlm1, tlm9, tlm50, tl2147483647]; omega))) ?_
                  refine Ok_bind (ok_X8_did i10 i30) (fun z35 hz35 => ?_)
                  exact Ok_some trivial
                · intro h
                  have c294 : i30.toInt < z34.toInt := i32nle h
                  rw [wk32]
                  show Ok ((fX8_no i11).bind (fun z36 => some ((-9 : Int32), i10, z36, z28.2, f14))) _
                  refine Ok_bind (ok_X8_no i11) (fun z36 hz36 => ?_)
                  exact Ok_some trivial
            · intro h
              have c295 : z28.1.toInt ≠ 0 := i32ne h
              exact Ok_some trivial
          · intro h
            have c296 : 50 < i4.toInt := i32nle h
            rw [wk25]
            show Ok (k23 (1 : Int32)) _
            rw [wk23]
            show Ok ((fX8_isThrown (0 : Int32) (1 : Int32)).bind (fun z28 => if z28.1 = (0 : Int32) then ((fX8_room f14 i2 i3).bind (fun z29 => nm (z29 + i4) (fun (i30 : Int32) => (fX8_isRoom i30).bind (fun z31 => jn (fun (_ : Unit) => (fX8_no i11).bind (fun z36 => some ((-9 : Int32), i10, z36, z28.2, f14))) (fun (k32 : Unit → Option (Int32 × Int32 × Int32 × Int32 × (Nat → Int32))) => if z31 = (0 : Int32) then (k32 ()) else ((fX8_flow f15 i2 i3).bind (fun z34 => if z34 ≤ i30 then (inB ((i2 * (9 : Int32)) + i3) 81 ((fX8_did i10 i30).bind (fun z35 => some (z35.1, z35.2, i11, z28.2, upd f14 ((i2 * (9 : Int32)) + i3).toNatClampNeg i30)))) else (k32 ())))))))) else (some ((0 : Int32), i10, i11, z28.2, f14)))) _
            refine Ok_bind (ok_X8_isThrown (0 : Int32) (1 : Int32)) (fun z28 hz28 => ?_)
            try dsimp only at hz28
            try simp only [tl0, tl1, tl2, tl3, tl4, tl5, tl6, tl8, tl9, tl10, tl50, tl81, tl100, tl1000, tl9999, tlm1, tlm9, tlm50, tl2147483647] at hz28
            refine Ok_if ?_ ?_
            · intro h
              have c297 : z28.1.toInt = 0 := i32eq h
              refine Ok_bind (ok_X8_room f14 i2 i3 (by first | omega | assumption | (try simp only [tl0, tl1, tl2, tl3, tl4, tl5, tl6, tl8, tl9, tl10, tl50, tl81, tl100, tl1000, tl9999, tlm1, tlm9, tlm50, tl2147483647]; omega)) (by first | omega | assumption | (try simp only [tl0, tl1, tl2, tl3, tl4, tl5, tl6, tl8, tl9, tl10, tl50, tl81, tl100, tl1000, tl9999, tlm1, tlm9, tlm50, tl2147483647]; omega)) (by first | omega | assumption | (try simp only [tl0, tl1, tl2, tl3, tl4, tl5, tl6, tl8, tl9, tl10, tl50, tl81, tl100, tl1000, tl9999, tlm1, tlm9, tlm50, tl2147483647]; omega)) (by first | omega | assumption | (try simp only [tl0, tl1, tl2, tl3, tl4, tl5, tl6, tl8, tl9, tl10, tl50, tl81, tl100, tl1000, tl9999, tlm1, tlm9, tlm50, tl2147483647]; omega))) (fun z29 hz29 => ?_)
              refine Ok_nm (fun i30 wi30 => ?_)
              have qi30 := i32eq wi30
              refine Ok_bind (ok_X8_isRoom i30) (fun z31 hz31 => ?_)
              try dsimp only at hz31
              try simp only [tl0, tl1, tl2, tl3, tl4, tl5, tl6, tl8, tl9, tl10, tl50, tl81, tl100, tl1000, tl9999, tlm1, tlm9, tlm50, tl2147483647] at hz31
              refine Ok_jn (fun k32 wk32 => ?_)
              refine Ok_if ?_ ?_
              · intro h
                have c298 : z31.toInt = 0 := i32eq h
                rw [wk32]
                show Ok ((fX8_no i11).bind (fun z36 => some ((-9 : Int32), i10, z36, z28.2, f14))) _
                refine Ok_bind (ok_X8_no i11) (fun z36 hz36 => ?_)
                exact Ok_some trivial
              · intro h
                have c299 : z31.toInt ≠ 0 := i32ne h
                refine Ok_bind (ok_X8_flow f15 i2 i3 (by first | omega | assumption | (try simp only [tl0, tl1, tl2, tl3, tl4, tl5, tl6, tl8, tl9, tl10, tl50, tl81, tl100, tl1000, tl9999, tlm1, tlm9, tlm50, tl2147483647]; omega)) (by first | omega | assumption | (try simp only [tl0, tl1, tl2, tl3, tl4, tl5, tl6, tl8, tl9, tl10, tl50, tl81, tl100, tl1000, tl9999, tlm1, tlm9, tlm50, tl2147483647]; omega)) (by first | omega | assumption | (try simp only [tl0, tl1, tl2, tl3, tl4, tl5, tl6, tl8, tl9, tl10, tl50, tl81, tl100, tl1000, tl9999, tlm1, tlm9, tlm50, tl2147483647]; omega)) (by first | omega | assumption | (try simp only [tl0, tl1, tl2, tl3, tl4, tl5, tl6, tl8, tl9, tl10, tl50, tl81, tl100, tl1000, tl9999, tlm1, tlm9, tlm50, tl2147483647]; omega))) (fun z34 hz34 => ?_)
                refine Ok_if ?_ ?_
                · intro h
                  have c300 : z34.toInt ≤ i30.toInt := i32le h
                  try (have e301 := idx_iv (x := i2) (y := i3) (by omega) (by omega) (by omega) (by omega))
                  refine Ok_inB (vp_of (by first | omega | assumption | (try simp only [tl0, tl1, tl2, tl3, tl4, tl5, tl6, tl8, tl9, tl10, tl50, tl81, tl100, tl1000, tl9999, tlm1, tlm9, tlm50, tl2147483647]; omega)) (by first | omega | assumption | (try simp only [tl0, tl1, tl2, tl3, tl4, tl5, tl6, tl8, tl9, tl10, tl50, tl81, tl100, tl1000, tl9999, tlm1, tlm9, tlm50, tl2147483647]; omega))) ?_
                  refine Ok_bind (ok_X8_did i10 i30) (fun z35 hz35 => ?_)
                  exact Ok_some trivial
                · intro h
                  have c302 : i30.toInt < z34.toInt := i32nle h
                  rw [wk32]
                  show Ok ((fX8_no i11).bind (fun z36 => some ((-9 : Int32), i10, z36, z28.2, f14))) _
                  refine Ok_bind (ok_X8_no i11) (fun z36 hz36 => ?_)
                  exact Ok_some trivial
            · intro h
              have c303 : z28.1.toInt ≠ 0 := i32ne h
              exact Ok_some trivial
set_option maxRecDepth 4000 in
theorem okL_X8_circle_L25 (i3 : Int32) (f13 : Nat → Int32) (i2 : Int32) (f12 : Nat → Int32) {P : (Int32 × Int32 × Int32 × Int32 × (Nat → Int32)) → Prop} {k1 : Unit → Option (Int32 × Int32 × Int32 × Int32 × (Nat → Int32))} {k2 : Int32 → Option (Int32 × Int32 × Int32 × Int32 × (Nat → Int32))} (g0 : 2 ≤ i3.toInt ∧ i3.toInt ≤ 9) (hk1 : Ok (k1 ()) P) (hk2 : ∀ (y1 : Int32), Ok (k2 y1) P) : ∀ (n : Nat) (i40 : Int32) (i41 : Int32), 0 ≤ i41.toInt → i3.toInt - i41.toInt < n → 0 < n → Ok (LX8_circle_L25 i3 f13 i2 f12 n i40 i41 k1 k2) P := by
  intro n
  induction n with
  | zero => intro i40 i41 v0 hm h0; exact absurd h0 (Nat.lt_irrefl 0)
  | succ n ih =>
    intro i40 i41 v0 hm h0
    show Ok (BX8_circle_L25 i3 f13 i2 f12 i40 i41 (fun i40 i41 => LX8_circle_L25 i3 f13 i2 f12 n i40 i41 k1 k2) k1 k2) _
    unfold BX8_circle_L25
    refine Ok_if ?_ ?_
    · intro h
      have c306 : i3.toInt ≤ i41.toInt := i32le h
      exact hk2 i40
    · intro h
      have c307 : i41.toInt < i3.toInt := i32nle h
      refine Ok_nz (fun h => by have h := i32eq h; simp only [tl0] at h; omega) ?_
      try (have e308 := inc_iv (x := i41) (by omega))
      try (have e309 := rem_iv (x := (i41 + (1 : Int32))) (y := i3) (by omega) (by omega))
      refine Ok_nm (fun i43 wi43 => ?_)
      have qi43 := i32eq wi43
      refine Ok_bind (ok_X8_flow f13 i41 i43 (by first | omega | assumption | (try simp only [tl0, tl1, tl2, tl3, tl4, tl5, tl6, tl8, tl9, tl10, tl50, tl81, tl100, tl1000, tl9999, tlm1, tlm9, tlm50, tl2147483647]; omega)) (by first | omega | assumption | (try simp only [tl0, tl1, tl2, tl3, tl4, tl5, tl6, tl8, tl9, tl10, tl50, tl81, tl100, tl1000, tl9999, tlm1, tlm9, tlm50, tl2147483647]; omega)) (by first | omega | assumption | (try simp only [tl0, tl1, tl2, tl3, tl4, tl5, tl6, tl8, tl9, tl10, tl50, tl81, tl100, tl1000, tl9999, tlm1, tlm9, tlm50, tl2147483647]; omega)) (by first | omega | assumption | (try simp only [tl0, tl1, tl2, tl3, tl4, tl5, tl6, tl8, tl9, tl10, tl50, tl81, tl100, tl1000, tl9999, tlm1, tlm9, tlm50, tl2147483647]; omega))) (fun z44 hz44 => ?_)
      refine Ok_if ?_ ?_
      · intro h
        have c310 : z44.toInt ≤ i2.toInt := i32le h
        refine Ok_bind (ok_X8_room f12 i41 i43 (by first | omega | assumption | (try simp only [tl0, tl1, tl2, tl3, tl4, tl5, tl6, tl8, tl9, tl10, tl50, tl81, tl100, tl1000, tl9999, tlm1, tlm9, tlm50, tl2147483647]; omega)) (by first | omega | assumption | (try simp only [tl0, tl1, tl2, tl3, tl4, tl5, tl6, tl8, tl9, tl10, tl50, tl81, tl100, tl1000, tl9999, tlm1, tlm9, tlm50, tl2147483647]; omega)) (by first | omega | assumption | (try simp only [tl0, tl1, tl2, tl3, tl4, tl5, tl6, tl8, tl9, tl10, tl50, tl81, tl100, tl1000, tl9999, tlm1, tlm9, tlm50, tl2147483647]; omega)) (by first | omega | assumption | (try simp only [tl0, tl1, tl2, tl3, tl4, tl5, tl6, tl8, tl9, tl10, tl50, tl81, tl100, tl1000, tl9999, tlm1, tlm9, tlm50, tl2147483647]; omega))) (fun z45 hz45 => ?_)
        refine Ok_jn (fun k46 wk46 => ?_)
        refine Ok_if ?_ ?_
        · intro h
          have c311 : z45.toInt = i2.toInt := i32eq h
          rw [wk46]
          show Ok (nm (i40 + (0 : Int32)) (fun (i49 : Int32) => (fun i40 i41 => LX8_circle_L25 i3 f13 i2 f12 n i40 i41 k1 k2) i49 (i41 + (1 : Int32)))) _
          refine Ok_nm (fun i49 wi49 => ?_)
          have qi49 := i32eq wi49
          exact ih i49 (i41 + (1 : Int32)) (by first | omega | assumption | (try simp only [tl0, tl1, tl2, tl3, tl4, tl5, tl6, tl8, tl9, tl10, tl50, tl81, tl100, tl1000, tl9999, tlm1, tlm9, tlm50, tl2147483647]; omega)) (by first | omega | assumption | (try simp only [tl0, tl1, tl2, tl3, tl4, tl5, tl6, tl8, tl9, tl10, tl50, tl81, tl100, tl1000, tl9999, tlm1, tlm9, tlm50, tl2147483647]; omega)) (by first | omega | assumption | (try simp only [tl0, tl1, tl2, tl3, tl4, tl5, tl6, tl8, tl9, tl10, tl50, tl81, tl100, tl1000, tl9999, tlm1, tlm9, tlm50, tl2147483647]; omega))
        · intro h
          have c312 : z45.toInt ≠ i2.toInt := i32ne h
          rw [wk46]
          show Ok (nm (i40 + (1 : Int32)) (fun (i49 : Int32) => (fun i40 i41 => LX8_circle_L25 i3 f13 i2 f12 n i40 i41 k1 k2) i49 (i41 + (1 : Int32)))) _
          try (have e313 := inc_iv (x := i40) (by omega))
          refine Ok_nm (fun i49 wi49 => ?_)
          have qi49 := i32eq wi49
          exact ih i49 (i41 + (1 : Int32)) (by first | omega | assumption | (try simp only [tl0, tl1, tl2, tl3, tl4, tl5, tl6, tl8, tl9, tl10, tl50, tl81, tl100, tl1000, tl9999, tlm1, tlm9, tlm50, tl2147483647]; omega)) (by first | omega | assumption | (try simp only [tl0, tl1, tl2, tl3, tl4, tl5, tl6, tl8, tl9, tl10, tl50, tl81, tl100, tl1000, tl9999, tlm1, tlm9, tlm50, tl2147483647]; omega)) (by first | omega | assumption | (try simp only [tl0, tl1, tl2, tl3, tl4, tl5, tl6, tl8, tl9, tl10, tl50, tl81, tl100, tl1000, tl9999, tlm1, tlm9, tlm50, tl2147483647]; omega))
      · intro h
        have c314 : i2.toInt < z44.toInt := i32nle h
        exact hk1
set_option maxRecDepth 4000 in
theorem okL_X8_circle_L86 (i3 : Int32) (i2 : Int32) {P : (Int32 × Int32 × Int32 × Int32 × (Nat → Int32)) → Prop} {k1 : (Nat → Int32) → Option (Int32 × Int32 × Int32 × Int32 × (Nat → Int32))} (g0 : 2 ≤ i3.toInt ∧ i3.toInt ≤ 9) (hk1 : ∀ (y1 : (Nat → Int32)), Ok (k1 y1) P) : ∀ (n : Nat) (i66 : Int32) (f68 : Nat → Int32), 0 ≤ i66.toInt → i3.toInt - i66.toInt < n → 0 < n → Ok (LX8_circle_L86 i3 i2 n i66 f68 k1) P := by
  intro n
  induction n with
  | zero => intro i66 f68 v0 hm h0; exact absurd h0 (Nat.lt_irrefl 0)
  | succ n ih =>
    intro i66 f68 v0 hm h0
    show Ok (BX8_circle_L86 i3 i2 i66 f68 (fun i66 f68 => LX8_circle_L86 i3 i2 n i66 f68 k1) k1) _
    unfold BX8_circle_L86
    refine Ok_if ?_ ?_
    · intro h
      have c315 : i3.toInt ≤ i66.toInt := i32le h
      exact hk1 f68
    · intro h
      have c316 : i66.toInt < i3.toInt := i32nle h
      refine Ok_nz (fun h => by have h := i32eq h; simp only [tl0] at h; omega) ?_
      try (have e317 := inc_iv (x := i66) (by omega))
      try (have e318 := rem_iv (x := (i66 + (1 : Int32))) (y := i3) (by omega) (by omega))
      try (have e319 := idx_iv (x := i66) (y := ((i66 + (1 : Int32)) - (i66 + (1 : Int32)) / i3 * i3)) (by omega) (by omega) (by omega) (by omega))
      refine Ok_inB (vp_of (by first | omega | assumption | (try simp only [tl0, tl1, tl2, tl3, tl4, tl5, tl6, tl8, tl9, tl10, tl50, tl81, tl100, tl1000, tl9999, tlm1, tlm9, tlm50, tl2147483647]; omega)) (by first | omega | assumption | (try simp only [tl0, tl1, tl2, tl3, tl4, tl5, tl6, tl8, tl9, tl10, tl50, tl81, tl100, tl1000, tl9999, tlm1, tlm9, tlm50, tl2147483647]; omega))) ?_
      exact ih (i66 + (1 : Int32)) (upd f68 ((i66 * (9 : Int32)) + ((i66 + (1 : Int32)) - (i66 + (1 : Int32)) / i3 * i3)).toNatClampNeg i2) (by first | omega | assumption | (try simp only [tl0, tl1, tl2, tl3, tl4, tl5, tl6, tl8, tl9, tl10, tl50, tl81, tl100, tl1000, tl9999, tlm1, tlm9, tlm50, tl2147483647]; omega)) (by first | omega | assumption | (try simp only [tl0, tl1, tl2, tl3, tl4, tl5, tl6, tl8, tl9, tl10, tl50, tl81, tl100, tl1000, tl9999, tlm1, tlm9, tlm50, tl2147483647]; omega)) (by first | omega | assumption | (try simp only [tl0, tl1, tl2, tl3, tl4, tl5, tl6, tl8, tl9, tl10, tl50, tl81, tl100, tl1000, tl9999, tlm1, tlm9, tlm50, tl2147483647]; omega))
set_option maxRecDepth 4000 in
theorem ok_X8_circle (i3 : Int32) (i8 : Int32) (i9 : Int32) (f12 : Nat → Int32) (f13 : Nat → Int32) (i2 : Int32) (h0 : 2 ≤ i3.toInt ∧ i3.toInt ≤ 9) : Ok (fX8_circle i3 i8 i9 f12 f13 i2) (fun z => True) := by
  unfold fX8_circle
  refine Ok_bind (ok_X8_isRoom i2) (fun z14 hz14 => ?_)
  try dsimp only at hz14
  try simp only [tl0, tl1, tl2, tl3, tl4, tl5, tl6, tl8, tl9, tl10, tl50, tl81, tl100, tl1000, tl9999, tlm1, tlm9, tlm50, tl2147483647] at hz14
  refine Ok_jn (fun k15 wk15 => ?_)
  refine Ok_if ?_ ?_
  · intro h
    have c304 : z14.toInt = 0 := i32eq h
    rw [wk15]
    show Ok ((fX8_isThrown_ (1 : Int32)).bind (fun z18 => if z18.1 = (0 : Int32) then (LX8_circle_L25  i3 f13 i2 f12 600 (0 : Int32) (0 : Int32) (fun (_ : Unit) => (fX8_no i9).bind (fun z51 => some ((-9 : Int32), i8, z51, z18.2, f12))) (fun (i50 : Int32) => LX8_circle_L86  i3 i2 600 (0 : Int32) f12 (fun (f69 : Nat → Int32) => (fX8_did i8 i50).bind (fun z70 => some (z70.1, z70.2, i9, z18.2, f69))))) else (some ((0 : Int32), i8, i9, z18.2, f12)))) _
    refine Ok_bind (ok_X8_isThrown_ (1 : Int32)) (fun z18 hz18 => ?_)
    try dsimp only at hz18
    try simp only [tl0, tl1, tl2, tl3, tl4, tl5, tl6, tl8, tl9, tl10, tl50, tl81, tl100, tl1000, tl9999, tlm1, tlm9, tlm50, tl2147483647] at hz18
    refine Ok_if ?_ ?_
    · intro h
      have c305 : z18.1.toInt = 0 := i32eq h
      refine okL_X8_circle_L25 i3 f13 i2 f12 (by first | omega | assumption | (try simp only [tl0, tl1, tl2, tl3, tl4, tl5, tl6, tl8, tl9, tl10, tl50, tl81, tl100, tl1000, tl9999, tlm1, tlm9, tlm50, tl2147483647]; omega)) ?_ ?_ 600 (0 : Int32) (0 : Int32) (by first | omega | assumption | (try simp only [tl0, tl1, tl2, tl3, tl4, tl5, tl6, tl8, tl9, tl10, tl50, tl81, tl100, tl1000, tl9999, tlm1, tlm9, tlm50, tl2147483647]; omega)) (by first | omega | assumption | (try simp only [tl0, tl1, tl2, tl3, tl4, tl5, tl6, tl8, tl9, tl10, tl50, tl81, tl100, tl1000, tl9999, tlm1, tlm9, tlm50, tl2147483647]; omega)) (by first | omega | assumption | (try simp only [tl0, tl1, tl2, tl3, tl4, tl5, tl6, tl8, tl9, tl10, tl50, tl81, tl100, tl1000, tl9999, tlm1, tlm9, tlm50, tl2147483647]; omega))
      · show Ok ((fX8_no i9).bind (fun z51 => some ((-9 : Int32), i8, z51, z18.2, f12))) _
        refine Ok_bind (ok_X8_no i9) (fun z51 hz51 => ?_)
        exact Ok_some trivial
      · intro i50
        show Ok (LX8_circle_L86  i3 i2 600 (0 : Int32) f12 (fun (f69 : Nat → Int32) => (fX8_did i8 i50).bind (fun z70 => some (z70.1, z70.2, i9, z18.2, f69)))) _
        refine okL_X8_circle_L86 i3 i2 (by first | omega | assumption | (try simp only [tl0, tl1, tl2, tl3, tl4, tl5, tl6, tl8, tl9, tl10, tl50, tl81, tl100, tl1000, tl9999, tlm1, tlm9, tlm50, tl2147483647]; omega)) ?_ 600 (0 : Int32) f12 (by first | omega | assumption | (try simp only [tl0, tl1, tl2, tl3, tl4, tl5, tl6, tl8, tl9, tl10, tl50, tl81, tl100, tl1000, tl9999, tlm1, tlm9, tlm50, tl2147483647]; omega)) (by first | omega | assumption | (try simp only [tl0, tl1, tl2, tl3, tl4, tl5, tl6, tl8, tl9, tl10, tl50, tl81, tl100, tl1000, tl9999, tlm1, tlm9, tlm50, tl2147483647]; omega)) (by first | omega | assumption | (try simp only [tl0, tl1, tl2, tl3, tl4, tl5, tl6, tl8, tl9, tl10, tl50, tl81, tl100, tl1000, tl9999, tlm1, tlm9, tlm50, tl2147483647]; omega))
        intro f69
        show Ok ((fX8_did i8 i50).bind (fun z70 => some (z70.1, z70.2, i9, z18.2, f69))) _
        refine Ok_bind (ok_X8_did i8 i50) (fun z70 hz70 => ?_)
        exact Ok_some trivial
    · intro h
      have c320 : z18.1.toInt ≠ 0 := i32ne h
      exact Ok_some trivial
  · intro h
    have c321 : z14.toInt ≠ 0 := i32ne h
    rw [wk15]
    show Ok ((fX8_isThrown_ (0 : Int32)).bind (fun z18 => if z18.1 = (0 : Int32) then (LX8_circle_L25  i3 f13 i2 f12 600 (0 : Int32) (0 : Int32) (fun (_ : Unit) => (fX8_no i9).bind (fun z51 => some ((-9 : Int32), i8, z51, z18.2, f12))) (fun (i50 : Int32) => LX8_circle_L86  i3 i2 600 (0 : Int32) f12 (fun (f69 : Nat → Int32) => (fX8_did i8 i50).bind (fun z70 => some (z70.1, z70.2, i9, z18.2, f69))))) else (some ((0 : Int32), i8, i9, z18.2, f12)))) _
    refine Ok_bind (ok_X8_isThrown_ (0 : Int32)) (fun z18 hz18 => ?_)
    try dsimp only at hz18
    try simp only [tl0, tl1, tl2, tl3, tl4, tl5, tl6, tl8, tl9, tl10, tl50, tl81, tl100, tl1000, tl9999, tlm1, tlm9, tlm50, tl2147483647] at hz18
    refine Ok_if ?_ ?_
    · intro h
      have c322 : z18.1.toInt = 0 := i32eq h
      refine okL_X8_circle_L25 i3 f13 i2 f12 (by first | omega | assumption | (try simp only [tl0, tl1, tl2, tl3, tl4, tl5, tl6, tl8, tl9, tl10, tl50, tl81, tl100, tl1000, tl9999, tlm1, tlm9, tlm50, tl2147483647]; omega)) ?_ ?_ 600 (0 : Int32) (0 : Int32) (by first | omega | assumption | (try simp only [tl0, tl1, tl2, tl3, tl4, tl5, tl6, tl8, tl9, tl10, tl50, tl81, tl100, tl1000, tl9999, tlm1, tlm9, tlm50, tl2147483647]; omega)) (by first | omega | assumption | (try simp only [tl0, tl1, tl2, tl3, tl4, tl5, tl6, tl8, tl9, tl10, tl50, tl81, tl100, tl1000, tl9999, tlm1, tlm9, tlm50, tl2147483647]; omega)) (by first | omega | assumption | (try simp only [tl0, tl1, tl2, tl3, tl4, tl5, tl6, tl8, tl9, tl10, tl50, tl81, tl100, tl1000, tl9999, tlm1, tlm9, tlm50, tl2147483647]; omega))
      · show Ok ((fX8_no i9).bind (fun z51 => some ((-9 : Int32), i8, z51, z18.2, f12))) _
        refine Ok_bind (ok_X8_no i9) (fun z51 hz51 => ?_)
        exact Ok_some trivial
      · intro i50
        show Ok (LX8_circle_L86  i3 i2 600 (0 : Int32) f12 (fun (f69 : Nat → Int32) => (fX8_did i8 i50).bind (fun z70 => some (z70.1, z70.2, i9, z18.2, f69)))) _
        refine okL_X8_circle_L86 i3 i2 (by first | omega | assumption | (try simp only [tl0, tl1, tl2, tl3, tl4, tl5, tl6, tl8, tl9, tl10, tl50, tl81, tl100, tl1000, tl9999, tlm1, tlm9, tlm50, tl2147483647]; omega)) ?_ 600 (0 : Int32) f12 (by first | omega | assumption | (try simp only [tl0, tl1, tl2, tl3, tl4, tl5, tl6, tl8, tl9, tl10, tl50, tl81, tl100, tl1000, tl9999, tlm1, tlm9, tlm50, tl2147483647]; omega)) (by first | omega | assumption | (try simp only [tl0, tl1, tl2, tl3, tl4, tl5, tl6, tl8, tl9, tl10, tl50, tl81, tl100, tl1000, tl9999, tlm1, tlm9, tlm50, tl2147483647]; omega)) (by first | omega | assumption | (try simp only [tl0, tl1, tl2, tl3, tl4, tl5, tl6, tl8, tl9, tl10, tl50, tl81, tl100, tl1000, tl9999, tlm1, tlm9, tlm50, tl2147483647]; omega))
        intro f69
        show Ok ((fX8_did i8 i50).bind (fun z70 => some (z70.1, z70.2, i9, z18.2, f69))) _
        refine Ok_bind (ok_X8_did i8 i50) (fun z70 hz70 => ?_)
        exact Ok_some trivial
    · intro h
      have c323 : z18.1.toInt ≠ 0 := i32ne h
      exact Ok_some trivial
set_option maxRecDepth 4000 in
theorem okL_X8_sumOfRooms_L4 (i2 : Int32) (f11 : Nat → Int32)   (g0 : 2 ≤ i2.toInt ∧ i2.toInt ≤ 9)  : ∀ (n : Nat) (i26 : Int32) (i27 : Int32), 0 ≤ i27.toInt → i2.toInt - i27.toInt < n → 0 < n → Ok (LX8_sumOfRooms_L4 i2 f11 n i26 i27 ) (fun z => True) := by
  intro n
  induction n with
  | zero => intro i26 i27 v0 hm h0; exact absurd h0 (Nat.lt_irrefl 0)
  | succ n ih =>
    intro i26 i27 v0 hm h0
    show Ok (BX8_sumOfRooms_L4 i2 f11 i26 i27 (fun i26 i27 => LX8_sumOfRooms_L4 i2 f11 n i26 i27 ) ) _
    unfold BX8_sumOfRooms_L4
    refine Ok_if ?_ ?_
    · intro h
      have c324 : i2.toInt ≤ i27.toInt := i32le h
      exact Ok_some trivial
    · intro h
      have c325 : i27.toInt < i2.toInt := i32nle h
      refine Ok_bind (ok_X8_fromPlace i2 f11 i27 (by first | omega | assumption | (try simp only [tl0, tl1, tl2, tl3, tl4, tl5, tl6, tl8, tl9, tl10, tl50, tl81, tl100, tl1000, tl9999, tlm1, tlm9, tlm50, tl2147483647]; omega)) (by first | omega | assumption | (try simp only [tl0, tl1, tl2, tl3, tl4, tl5, tl6, tl8, tl9, tl10, tl50, tl81, tl100, tl1000, tl9999, tlm1, tlm9, tlm50, tl2147483647]; omega)) (by first | omega | assumption | (try simp only [tl0, tl1, tl2, tl3, tl4, tl5, tl6, tl8, tl9, tl10, tl50, tl81, tl100, tl1000, tl9999, tlm1, tlm9, tlm50, tl2147483647]; omega))) (fun z28 hz28 => ?_)
      refine Ok_nm (fun i29 wi29 => ?_)
      have qi29 := i32eq wi29
      try (have e326 := inc_iv (x := i27) (by omega))
      exact ih i29 (i27 + (1 : Int32)) (by first | omega | assumption | (try simp only [tl0, tl1, tl2, tl3, tl4, tl5, tl6, tl8, tl9, tl10, tl50, tl81, tl100, tl1000, tl9999, tlm1, tlm9, tlm50, tl2147483647]; omega)) (by first | omega | assumption | (try simp only [tl0, tl1, tl2, tl3, tl4, tl5, tl6, tl8, tl9, tl10, tl50, tl81, tl100, tl1000, tl9999, tlm1, tlm9, tlm50, tl2147483647]; omega)) (by first | omega | assumption | (try simp only [tl0, tl1, tl2, tl3, tl4, tl5, tl6, tl8, tl9, tl10, tl50, tl81, tl100, tl1000, tl9999, tlm1, tlm9, tlm50, tl2147483647]; omega))
set_option maxRecDepth 4000 in
theorem ok_X8_sumOfRooms (i2 : Int32) (f11 : Nat → Int32) (h0 : 2 ≤ i2.toInt ∧ i2.toInt ≤ 9) : Ok (fX8_sumOfRooms i2 f11) (fun z => True) := by
  unfold fX8_sumOfRooms
  refine Ok_mono (okL_X8_sumOfRooms_L4 i2 f11 (by first | omega | assumption | (try simp only [tl0, tl1, tl2, tl3, tl4, tl5, tl6, tl8, tl9, tl10, tl50, tl81, tl100, tl1000, tl9999, tlm1, tlm9, tlm50, tl2147483647]; omega)) 600 (0 : Int32) (0 : Int32) (by first | omega | assumption | (try simp only [tl0, tl1, tl2, tl3, tl4, tl5, tl6, tl8, tl9, tl10, tl50, tl81, tl100, tl1000, tl9999, tlm1, tlm9, tlm50, tl2147483647]; omega)) (by first | omega | assumption | (try simp only [tl0, tl1, tl2, tl3, tl4, tl5, tl6, tl8, tl9, tl10, tl50, tl81, tl100, tl1000, tl9999, tlm1, tlm9, tlm50, tl2147483647]; omega)) (by first | omega | assumption | (try simp only [tl0, tl1, tl2, tl3, tl4, tl5, tl6, tl8, tl9, tl10, tl50, tl81, tl100, tl1000, tl9999, tlm1, tlm9, tlm50, tl2147483647]; omega))) ?_
  intro z hz
  first | exact hz | (simp only [Sx] at *; omega) | (dsimp only at *; omega)
set_option maxRecDepth 4000 in
theorem okL_X8_strew_L37 (i3 : Int32) (i2 : Int32) (i56 : Int32) {P : (Int32 × Int32 × Int32 × (Nat → Int32) × (Nat → Int32)) → Prop} {k1 : (Nat → Int32) → Option (Int32 × Int32 × Int32 × (Nat → Int32) × (Nat → Int32))} (g0 : 2 ≤ i3.toInt ∧ i3.toInt ≤ 9) (g1 : 0 ≤ i56.toInt) (g2 : i56.toInt ≤ 8) (hk1 : ∀ (y1 : (Nat → Int32)), Ok (k1 y1) P) : ∀ (n : Nat) (i76 : Int32) (f77 : Nat → Int32), 0 ≤ i76.toInt → i3.toInt - i76.toInt < n → 0 < n → Ok (LX8_strew_L37 i3 i2 i56 n i76 f77 k1) P := by
  intro n
  induction n with
  | zero => intro i76 f77 v0 hm h0; exact absurd h0 (Nat.lt_irrefl 0)
  | succ n ih =>
    intro i76 f77 v0 hm h0
    show Ok (BX8_strew_L37 i3 i2 i56 i76 f77 (fun i76 f77 => LX8_strew_L37 i3 i2 i56 n i76 f77 k1) k1) _
    unfold BX8_strew_L37
    refine Ok_if ?_ ?_
    · intro h
      have c331 : i3.toInt ≤ i76.toInt := i32le h
      exact hk1 f77
    · intro h
      have c332 : i76.toInt < i3.toInt := i32nle h
      refine Ok_jn (fun k78 wk78 => ?_)
      refine Ok_if ?_ ?_
      · intro h
        have c333 : i56.toInt = i76.toInt := i32eq h
        rw [wk78]
        show Ok (inB ((i56 * (9 : Int32)) + i76) 81 ((fun i76 f77 => LX8_strew_L37 i3 i2 i56 n i76 f77 k1) (i76 + (1 : Int32)) (upd f77 ((i56 * (9 : Int32)) + i76).toNatClampNeg (0 : Int32)))) _
        try (have e334 := idx_iv (x := i56) (y := i76) (by omega) (by omega) (by omega) (by omega))
        refine Ok_inB (vp_of (by first | omega | assumption | (try simp only [tl0, tl1, tl2, tl3, tl4, tl5, tl6, tl8, tl9, tl10, tl50, tl81, tl100, tl1000, tl9999, tlm1, tlm9, tlm50, tl2147483647]; omega)) (by first | omega | assumption | (try simp only [tl0, tl1, tl2, tl3, tl4, tl5, tl6, tl8, tl9, tl10, tl50, tl81, tl100, tl1000, tl9999, tlm1, tlm9, tlm50, tl2147483647]; omega))) ?_
        try (have e335 := inc_iv (x := i76) (by omega))
        exact ih (i76 + (1 : Int32)) (upd f77 ((i56 * (9 : Int32)) + i76).toNatClampNeg (0 : Int32)) (by first | omega | assumption | (try simp only [tl0, tl1, tl2, tl3, tl4, tl5, tl6, tl8, tl9, tl10, tl50, tl81, tl100, tl1000, tl9999, tlm1, tlm9, tlm50, tl2147483647]; omega)) (by first | omega | assumption | (try simp only [tl0, tl1, tl2, tl3, tl4, tl5, tl6, tl8, tl9, tl10, tl50, tl81, tl100, tl1000, tl9999, tlm1, tlm9, tlm50, tl2147483647]; omega)) (by first | omega | assumption | (try simp only [tl0, tl1, tl2, tl3, tl4, tl5, tl6, tl8, tl9, tl10, tl50, tl81, tl100, tl1000, tl9999, tlm1, tlm9, tlm50, tl2147483647]; omega))
      · intro h
        have c336 : i56.toInt ≠ i76.toInt := i32ne h
        rw [wk78]
        show Ok (inB ((i56 * (9 : Int32)) + i76) 81 ((fun i76 f77 => LX8_strew_L37 i3 i2 i56 n i76 f77 k1) (i76 + (1 : Int32)) (upd f77 ((i56 * (9 : Int32)) + i76).toNatClampNeg (if (0 : Int32) < (((((i2 + ((7 : Int32) * i56)) + ((3 : Int32) * i76)) + (i56 * i76)) - (((i2 + ((7 : Int32) * i56)) + ((3 : Int32) * i76)) + (i56 * i76)) / (11 : Int32) * (11 : Int32)) - (4 : Int32)) then (((((i2 + ((7 : Int32) * i56)) + ((3 : Int32) * i76)) + (i56 * i76)) - (((i2 + ((7 : Int32) * i56)) + ((3 : Int32) * i76)) + (i56 * i76)) / (11 : Int32) * (11 : Int32)) - (4 : Int32)) else (0 : Int32))))) _
        try (have e337 := idx_iv (x := i56) (y := i76) (by omega) (by omega) (by omega) (by omega))
        refine Ok_inB (vp_of (by first | omega | assumption | (try simp only [tl0, tl1, tl2, tl3, tl4, tl5, tl6, tl8, tl9, tl10, tl50, tl81, tl100, tl1000, tl9999, tlm1, tlm9, tlm50, tl2147483647]; omega)) (by first | omega | assumption | (try simp only [tl0, tl1, tl2, tl3, tl4, tl5, tl6, tl8, tl9, tl10, tl50, tl81, tl100, tl1000, tl9999, tlm1, tlm9, tlm50, tl2147483647]; omega))) ?_
        try (have e338 := inc_iv (x := i76) (by omega))
        exact ih (i76 + (1 : Int32)) (upd f77 ((i56 * (9 : Int32)) + i76).toNatClampNeg (if (0 : Int32) < (((((i2 + ((7 : Int32) * i56)) + ((3 : Int32) * i76)) + (i56 * i76)) - (((i2 + ((7 : Int32) * i56)) + ((3 : Int32) * i76)) + (i56 * i76)) / (11 : Int32) * (11 : Int32)) - (4 : Int32)) then (((((i2 + ((7 : Int32) * i56)) + ((3 : Int32) * i76)) + (i56 * i76)) - (((i2 + ((7 : Int32) * i56)) + ((3 : Int32) * i76)) + (i56 * i76)) / (11 : Int32) * (11 : Int32)) - (4 : Int32)) else (0 : Int32))) (by first | omega | assumption | (try simp only [tl0, tl1, tl2, tl3, tl4, tl5, tl6, tl8, tl9, tl10, tl50, tl81, tl100, tl1000, tl9999, tlm1, tlm9, tlm50, tl2147483647]; omega)) (by first | omega | assumption | (try simp only [tl0, tl1, tl2, tl3, tl4, tl5, tl6, tl8, tl9, tl10, tl50, tl81, tl100, tl1000, tl9999, tlm1, tlm9, tlm50, tl2147483647]; omega)) (by first | omega | assumption | (try simp only [tl0, tl1, tl2, tl3, tl4, tl5, tl6, tl8, tl9, tl10, tl50, tl81, tl100, tl1000, tl9999, tlm1, tlm9, tlm50, tl2147483647]; omega))
set_option maxRecDepth 4000 in
theorem okL_X8_strew_L27 (i3 : Int32) (i2 : Int32) {P : (Int32 × Int32 × Int32 × (Nat → Int32) × (Nat → Int32)) → Prop} {k1 : (Nat → Int32) → Option (Int32 × Int32 × Int32 × (Nat → Int32) × (Nat → Int32))} (g0 : 2 ≤ i3.toInt ∧ i3.toInt ≤ 9) (hk1 : ∀ (y1 : (Nat → Int32)), Ok (k1 y1) P) : ∀ (n : Nat) (i56 : Int32) (f58 : Nat → Int32), 0 ≤ i56.toInt → i3.toInt - i56.toInt < n → 0 < n → Ok (LX8_strew_L27 i3 i2 n i56 f58 k1) P := by
  intro n
  induction n with
  | zero => intro i56 f58 v0 hm h0; exact absurd h0 (Nat.lt_irrefl 0)
  | succ n ih =>
    intro i56 f58 v0 hm h0
    show Ok (BX8_strew_L27 i3 i2 i56 f58 (fun i56 f58 => LX8_strew_L27 i3 i2 n i56 f58 k1) k1) _
    unfold BX8_strew_L27
    refine Ok_if ?_ ?_
    · intro h
      have c329 : i3.toInt ≤ i56.toInt := i32le h
      exact hk1 f58
    · intro h
      have c330 : i56.toInt < i3.toInt := i32nle h
      refine okL_X8_strew_L37 i3 i2 i56 (by first | omega | assumption | (try simp only [tl0, tl1, tl2, tl3, tl4, tl5, tl6, tl8, tl9, tl10, tl50, tl81, tl100, tl1000, tl9999, tlm1, tlm9, tlm50, tl2147483647]; omega)) (by first | omega | assumption | (try simp only [tl0, tl1, tl2, tl3, tl4, tl5, tl6, tl8, tl9, tl10, tl50, tl81, tl100, tl1000, tl9999, tlm1, tlm9, tlm50, tl2147483647]; omega)) (by first | omega | assumption | (try simp only [tl0, tl1, tl2, tl3, tl4, tl5, tl6, tl8, tl9, tl10, tl50, tl81, tl100, tl1000, tl9999, tlm1, tlm9, tlm50, tl2147483647]; omega)) ?_ 600 (0 : Int32) f58 (by first | omega | assumption | (try simp only [tl0, tl1, tl2, tl3, tl4, tl5, tl6, tl8, tl9, tl10, tl50, tl81, tl100, tl1000, tl9999, tlm1, tlm9, tlm50, tl2147483647]; omega)) (by first | omega | assumption | (try simp only [tl0, tl1, tl2, tl3, tl4, tl5, tl6, tl8, tl9, tl10, tl50, tl81, tl100, tl1000, tl9999, tlm1, tlm9, tlm50, tl2147483647]; omega)) (by first | omega | assumption | (try simp only [tl0, tl1, tl2, tl3, tl4, tl5, tl6, tl8, tl9, tl10, tl50, tl81, tl100, tl1000, tl9999, tlm1, tlm9, tlm50, tl2147483647]; omega))
      intro f81
      show Ok ((fun i56 f58 => LX8_strew_L27 i3 i2 n i56 f58 k1) (i56 + (1 : Int32)) f81) _
      try (have e339 := inc_iv (x := i56) (by omega))
      exact ih (i56 + (1 : Int32)) f81 (by first | omega | assumption | (try simp only [tl0, tl1, tl2, tl3, tl4, tl5, tl6, tl8, tl9, tl10, tl50, tl81, tl100, tl1000, tl9999, tlm1, tlm9, tlm50, tl2147483647]; omega)) (by first | omega | assumption | (try simp only [tl0, tl1, tl2, tl3, tl4, tl5, tl6, tl8, tl9, tl10, tl50, tl81, tl100, tl1000, tl9999, tlm1, tlm9, tlm50, tl2147483647]; omega)) (by first | omega | assumption | (try simp only [tl0, tl1, tl2, tl3, tl4, tl5, tl6, tl8, tl9, tl10, tl50, tl81, tl100, tl1000, tl9999, tlm1, tlm9, tlm50, tl2147483647]; omega))
set_option maxRecDepth 4000 in
theorem ok_X8_strew (i3 : Int32) (i8 : Int32) (f12 : Nat → Int32) (f13 : Nat → Int32) (i2 : Int32) (h0 : 2 ≤ i3.toInt ∧ i3.toInt ≤ 9) : Ok (fX8_strew i3 i8 f12 f13 i2) (fun z => True) := by
  unfold fX8_strew
  refine Ok_jn (fun k14 wk14 => ?_)
  refine Ok_jn (fun k16 wk16 => ?_)
  refine Ok_if ?_ ?_
  · intro h
    have c327 : i2.toInt < 0 := i32lt h
    rw [wk16]
    show Ok (k14 (1 : Int32)) _
    rw [wk14]
    show Ok ((fX8_isThrown_ (1 : Int32)).bind (fun z19 => if z19.1 = (0 : Int32) then (LX8_strew_L27  i3 i2 600 (0 : Int32) f12 (fun (f82 : Nat → Int32) => (fX8_still f13).bind (fun z83 => (fX8_sumOfRooms i3 f82).bind (fun z84 => (fX8_did i8 z84).bind (fun z85 => some (z85.1, z85.2, z19.2, f82, z83)))))) else (some ((0 : Int32), i8, z19.2, f12, f13)))) _
    refine Ok_bind (ok_X8_isThrown_ (1 : Int32)) (fun z19 hz19 => ?_)
    try dsimp only at hz19
    try simp only [tl0, tl1, tl2, tl3, tl4, tl5, tl6, tl8, tl9, tl10, tl50, tl81, tl100, tl1000, tl9999, tlm1, tlm9, tlm50, tl2147483647] at hz19
    refine Ok_if ?_ ?_
    · intro h
      have c328 : z19.1.toInt = 0 := i32eq h
      refine okL_X8_strew_L27 i3 i2 (by first | omega | assumption | (try simp only [tl0, tl1, tl2, tl3, tl4, tl5, tl6, tl8, tl9, tl10, tl50, tl81, tl100, tl1000, tl9999, tlm1, tlm9, tlm50, tl2147483647]; omega)) ?_ 600 (0 : Int32) f12 (by first | omega | assumption | (try simp only [tl0, tl1, tl2, tl3, tl4, tl5, tl6, tl8, tl9, tl10, tl50, tl81, tl100, tl1000, tl9999, tlm1, tlm9, tlm50, tl2147483647]; omega)) (by first | omega | assumption | (try simp only [tl0, tl1, tl2, tl3, tl4, tl5, tl6, tl8, tl9, tl10, tl50, tl81, tl100, tl1000, tl9999, tlm1, tlm9, tlm50, tl2147483647]; omega)) (by first | omega | assumption | (try simp only [tl0, tl1, tl2, tl3, tl4, tl5, tl6, tl8, tl9, tl10, tl50, tl81, tl100, tl1000, tl9999, tlm1, tlm9, tlm50, tl2147483647]; omega))
      intro f82
      show Ok ((fX8_still f13).bind (fun z83 => (fX8_sumOfRooms i3 f82).bind (fun z84 => (fX8_did i8 z84).bind (fun z85 => some (z85.1, z85.2, z19.2, f82, z83))))) _
      refine Ok_bind (ok_X8_still f13) (fun z83 hz83 => ?_)
      refine Ok_bind (ok_X8_sumOfRooms i3 f82 (by first | omega | assumption | (try simp only [tl0, tl1, tl2, tl3, tl4, tl5, tl6, tl8, tl9, tl10, tl50, tl81, tl100, tl1000, tl9999, tlm1, tlm9, tlm50, tl2147483647]; omega))) (fun z84 hz84 => ?_)
      refine Ok_bind (ok_X8_did i8 z84) (fun z85 hz85 => ?_)
      exact Ok_some trivial
    · intro h
      have c340 : z19.1.toInt ≠ 0 := i32ne h
      exact Ok_some trivial
  · intro h
    have c341 : 0 ≤ i2.toInt := i32nlt h
    refine Ok_if ?_ ?_
    · intro h
      have c342 : i2.toInt ≤ 9999 := i32le h
      rw [wk14]
      show Ok ((fX8_isThrown_ (0 : Int32)).bind (fun z19 => if z19.1 = (0 : Int32) then (LX8_strew_L27  i3 i2 600 (0 : Int32) f12 (fun (f82 : Nat → Int32) => (fX8_still f13).bind (fun z83 => (fX8_sumOfRooms i3 f82).bind (fun z84 => (fX8_did i8 z84).bind (fun z85 => some (z85.1, z85.2, z19.2, f82, z83)))))) else (some ((0 : Int32), i8, z19.2, f12, f13)))) _
      refine Ok_bind (ok_X8_isThrown_ (0 : Int32)) (fun z19 hz19 => ?_)
      try dsimp only at hz19
      try simp only [tl0, tl1, tl2, tl3, tl4, tl5, tl6, tl8, tl9, tl10, tl50, tl81, tl100, tl1000, tl9999, tlm1, tlm9, tlm50, tl2147483647] at hz19
      refine Ok_if ?_ ?_
      · intro h
        have c343 : z19.1.toInt = 0 := i32eq h
        refine okL_X8_strew_L27 i3 i2 (by first | omega | assumption | (try simp only [tl0, tl1, tl2, tl3, tl4, tl5, tl6, tl8, tl9, tl10, tl50, tl81, tl100, tl1000, tl9999, tlm1, tlm9, tlm50, tl2147483647]; omega)) ?_ 600 (0 : Int32) f12 (by first | omega | assumption | (try simp only [tl0, tl1, tl2, tl3, tl4, tl5, tl6, tl8, tl9, tl10, tl50, tl81, tl100, tl1000, tl9999, tlm1, tlm9, tlm50, tl2147483647]; omega)) (by first | omega | assumption | (try simp only [tl0, tl1, tl2, tl3, tl4, tl5, tl6, tl8, tl9, tl10, tl50, tl81, tl100, tl1000, tl9999, tlm1, tlm9, tlm50, tl2147483647]; omega)) (by first | omega | assumption | (try simp only [tl0, tl1, tl2, tl3, tl4, tl5, tl6, tl8, tl9, tl10, tl50, tl81, tl100, tl1000, tl9999, tlm1, tlm9, tlm50, tl2147483647]; omega))
        intro f82
        show Ok ((fX8_still f13).bind (fun z83 => (fX8_sumOfRooms i3 f82).bind (fun z84 => (fX8_did i8 z84).bind (fun z85 => some (z85.1, z85.2, z19.2, f82, z83))))) _
        refine Ok_bind (ok_X8_still f13) (fun z83 hz83 => ?_)
        refine Ok_bind (ok_X8_sumOfRooms i3 f82 (by first | omega | assumption | (try simp only [tl0, tl1, tl2, tl3, tl4, tl5, tl6, tl8, tl9, tl10, tl50, tl81, tl100, tl1000, tl9999, tlm1, tlm9, tlm50, tl2147483647]; omega))) (fun z84 hz84 => ?_)
        refine Ok_bind (ok_X8_did i8 z84) (fun z85 hz85 => ?_)
        exact Ok_some trivial
      · intro h
        have c344 : z19.1.toInt ≠ 0 := i32ne h
        exact Ok_some trivial
    · intro h
      have c345 : 9999 < i2.toInt := i32nle h
      rw [wk16]
      show Ok (k14 (1 : Int32)) _
      rw [wk14]
      show Ok ((fX8_isThrown_ (1 : Int32)).bind (fun z19 => if z19.1 = (0 : Int32) then (LX8_strew_L27  i3 i2 600 (0 : Int32) f12 (fun (f82 : Nat → Int32) => (fX8_still f13).bind (fun z83 => (fX8_sumOfRooms i3 f82).bind (fun z84 => (fX8_did i8 z84).bind (fun z85 => some (z85.1, z85.2, z19.2, f82, z83)))))) else (some ((0 : Int32), i8, z19.2, f12, f13)))) _
      refine Ok_bind (ok_X8_isThrown_ (1 : Int32)) (fun z19 hz19 => ?_)
      try dsimp only at hz19
      try simp only [tl0, tl1, tl2, tl3, tl4, tl5, tl6, tl8, tl9, tl10, tl50, tl81, tl100, tl1000, tl9999, tlm1, tlm9, tlm50, tl2147483647] at hz19
      refine Ok_if ?_ ?_
      · intro h
        have c346 : z19.1.toInt = 0 := i32eq h
        refine okL_X8_strew_L27 i3 i2 (by first | omega | assumption | (try simp only [tl0, tl1, tl2, tl3, tl4, tl5, tl6, tl8, tl9, tl10, tl50, tl81, tl100, tl1000, tl9999, tlm1, tlm9, tlm50, tl2147483647]; omega)) ?_ 600 (0 : Int32) f12 (by first | omega | assumption | (try simp only [tl0, tl1, tl2, tl3, tl4, tl5, tl6, tl8, tl9, tl10, tl50, tl81, tl100, tl1000, tl9999, tlm1, tlm9, tlm50, tl2147483647]; omega)) (by first | omega | assumption | (try simp only [tl0, tl1, tl2, tl3, tl4, tl5, tl6, tl8, tl9, tl10, tl50, tl81, tl100, tl1000, tl9999, tlm1, tlm9, tlm50, tl2147483647]; omega)) (by first | omega | assumption | (try simp only [tl0, tl1, tl2, tl3, tl4, tl5, tl6, tl8, tl9, tl10, tl50, tl81, tl100, tl1000, tl9999, tlm1, tlm9, tlm50, tl2147483647]; omega))
        intro f82
        show Ok ((fX8_still f13).bind (fun z83 => (fX8_sumOfRooms i3 f82).bind (fun z84 => (fX8_did i8 z84).bind (fun z85 => some (z85.1, z85.2, z19.2, f82, z83))))) _
        refine Ok_bind (ok_X8_still f13) (fun z83 hz83 => ?_)
        refine Ok_bind (ok_X8_sumOfRooms i3 f82 (by first | omega | assumption | (try simp only [tl0, tl1, tl2, tl3, tl4, tl5, tl6, tl8, tl9, tl10, tl50, tl81, tl100, tl1000, tl9999, tlm1, tlm9, tlm50, tl2147483647]; omega))) (fun z84 hz84 => ?_)
        refine Ok_bind (ok_X8_did i8 z84) (fun z85 hz85 => ?_)
        exact Ok_some trivial
      · intro h
        have c347 : z19.1.toInt ≠ 0 := i32ne h
        exact Ok_some trivial
set_option maxRecDepth 4000 in
theorem ok_X8_exchange (f4 : Nat → Int32) (i2 : Int32) (i3 : Int32) (h0 : 0 ≤ i2.toInt) (h1 : i2.toInt ≤ 80) (h2 : 0 ≤ i3.toInt) (h3 : i3.toInt ≤ 80) : Ok (fX8_exchange f4 i2 i3) (fun z => True) := by
  unfold fX8_exchange
  refine Ok_inB (vp_of (by first | omega | assumption | (try simp only [tl0, tl1, tl2, tl3, tl4, tl5, tl6, tl8, tl9, tl10, tl50, tl81, tl100, tl1000, tl9999, tlm1, tlm9, tlm50, tl2147483647]; omega)) (by first | omega | assumption | (try simp only [tl0, tl1, tl2, tl3, tl4, tl5, tl6, tl8, tl9, tl10, tl50, tl81, tl100, tl1000, tl9999, tlm1, tlm9, tlm50, tl2147483647]; omega))) ?_
  refine Ok_nm (fun i5 wi5 => ?_)
  have qi5 := i32eq wi5
  refine Ok_inB (vp_of (by first | omega | assumption | (try simp only [tl0, tl1, tl2, tl3, tl4, tl5, tl6, tl8, tl9, tl10, tl50, tl81, tl100, tl1000, tl9999, tlm1, tlm9, tlm50, tl2147483647]; omega)) (by first | omega | assumption | (try simp only [tl0, tl1, tl2, tl3, tl4, tl5, tl6, tl8, tl9, tl10, tl50, tl81, tl100, tl1000, tl9999, tlm1, tlm9, tlm50, tl2147483647]; omega))) ?_
  refine Ok_inB (vp_of (by first | omega | assumption | (try simp only [tl0, tl1, tl2, tl3, tl4, tl5, tl6, tl8, tl9, tl10, tl50, tl81, tl100, tl1000, tl9999, tlm1, tlm9, tlm50, tl2147483647]; omega)) (by first | omega | assumption | (try simp only [tl0, tl1, tl2, tl3, tl4, tl5, tl6, tl8, tl9, tl10, tl50, tl81, tl100, tl1000, tl9999, tlm1, tlm9, tlm50, tl2147483647]; omega))) ?_
  refine Ok_inB (vp_of (by first | omega | assumption | (try simp only [tl0, tl1, tl2, tl3, tl4, tl5, tl6, tl8, tl9, tl10, tl50, tl81, tl100, tl1000, tl9999, tlm1, tlm9, tlm50, tl2147483647]; omega)) (by first | omega | assumption | (try simp only [tl0, tl1, tl2, tl3, tl4, tl5, tl6, tl8, tl9, tl10, tl50, tl81, tl100, tl1000, tl9999, tlm1, tlm9, tlm50, tl2147483647]; omega))) ?_
  exact Ok_some trivial
set_option maxRecDepth 4000 in
theorem okL_X8_turnRound_L17 (i47 : Int32) {P : (Int32 × Int32 × (Nat → Int32) × (Nat → Int32)) → Prop} {k1 : (Nat → Int32) → (Nat → Int32) → Option (Int32 × Int32 × (Nat → Int32) × (Nat → Int32))} (g0 : 0 ≤ i47.toInt) (g1 : i47.toInt ≤ 8) (hk1 : ∀ (y1 : (Nat → Int32)) (y2 : (Nat → Int32)), Ok (k1 y1 y2) P) : ∀ (n : Nat) (i65 : Int32) (f66 : Nat → Int32) (f67 : Nat → Int32), 0 ≤ i65.toInt → i47.toInt - i65.toInt < n → 0 < n → Ok (LX8_turnRound_L17 i47 n i65 f66 f67 k1) P := by
  intro n
  induction n with
  | zero => intro i65 f66 f67 v0 hm h0; exact absurd h0 (Nat.lt_irrefl 0)
  | succ n ih =>
    intro i65 f66 f67 v0 hm h0
    show Ok (BX8_turnRound_L17 i47 i65 f66 f67 (fun i65 f66 f67 => LX8_turnRound_L17 i47 n i65 f66 f67 k1) k1) _
    unfold BX8_turnRound_L17
    refine Ok_if ?_ ?_
    · intro h
      have c350 : i47.toInt ≤ i65.toInt := i32le h
      exact hk1 f66 f67
    · intro h
      have c351 : i65.toInt < i47.toInt := i32nle h
      try (have e352 := idx_iv (x := i47) (y := i65) (by omega) (by omega) (by omega) (by omega))
      try (have e353 := idx_iv (x := i65) (y := i47) (by omega) (by omega) (by omega) (by omega))
      refine Ok_bind (ok_X8_exchange f66 ((i47 * (9 : Int32)) + i65) ((i65 * (9 : Int32)) + i47) (by first | omega | assumption | (try simp only [tl0, tl1, tl2, tl3, tl4, tl5, tl6, tl8, tl9, tl10, tl50, tl81, tl100, tl1000, tl9999, tlm1, tlm9, tlm50, tl2147483647]; omega)) (by first | omega | assumption | (try simp only [tl0, tl1, tl2, tl3, tl4, tl5, tl6, tl8, tl9, tl10, tl50, tl81, tl100, tl1000, tl9999, tlm1, tlm9, tlm50, tl2147483647]; omega)) (by first | omega | assumption | (try simp only [tl0, tl1, tl2, tl3, tl4, tl5, tl6, tl8, tl9, tl10, tl50, tl81, tl100, tl1000, tl9999, tlm1, tlm9, tlm50, tl2147483647]; omega)) (by first | omega | assumption | (try simp only [tl0, tl1, tl2, tl3, tl4, tl5, tl6, tl8, tl9, tl10, tl50, tl81, tl100, tl1000, tl9999, tlm1, tlm9, tlm50, tl2147483647]; omega))) (fun z68 hz68 => ?_)
      refine Ok_bind (ok_X8_exchange f67 ((i47 * (9 : Int32)) + i65) ((i65 * (9 : Int32)) + i47) (by first | omega | assumption | (try simp only [tl0, tl1, tl2, tl3, tl4, tl5, tl6, tl8, tl9, tl10, tl50, tl81, tl100, tl1000, tl9999, tlm1, tlm9, tlm50, tl2147483647]; omega)) (by first | omega | assumption | (try simp only [tl0, tl1, tl2, tl3, tl4, tl5, tl6, tl8, tl9, tl10, tl50, tl81, tl100, tl1000, tl9999, tlm1, tlm9, tlm50, tl2147483647]; omega)) (by first | omega | assumption | (try simp only [tl0, tl1, tl2, tl3, tl4, tl5, tl6, tl8, tl9, tl10, tl50, tl81, tl100, tl1000, tl9999, tlm1, tlm9, tlm50, tl2147483647]; omega)) (by first | omega | assumption | (try simp only [tl0, tl1, tl2, tl3, tl4, tl5, tl6, tl8, tl9, tl10, tl50, tl81, tl100, tl1000, tl9999, tlm1, tlm9, tlm50, tl2147483647]; omega))) (fun z69 hz69 => ?_)
      try (have e354 := inc_iv (x := i65) (by omega))
      exact ih (i65 + (1 : Int32)) z68 z69 (by first | omega | assumption | (try simp only [tl0, tl1, tl2, tl3, tl4, tl5, tl6, tl8, tl9, tl10, tl50, tl81, tl100, tl1000, tl9999, tlm1, tlm9, tlm50, tl2147483647]; omega)) (by first | omega | assumption | (try simp only [tl0, tl1, tl2, tl3, tl4, tl5, tl6, tl8, tl9, tl10, tl50, tl81, tl100, tl1000, tl9999, tlm1, tlm9, tlm50, tl2147483647]; omega)) (by first | omega | assumption | (try simp only [tl0, tl1, tl2, tl3, tl4, tl5, tl6, tl8, tl9, tl10, tl50, tl81, tl100, tl1000, tl9999, tlm1, tlm9, tlm50, tl2147483647]; omega))
set_option maxRecDepth 4000 in
theorem okL_X8_turnRound_L7 (i2 : Int32) {P : (Int32 × Int32 × (Nat → Int32) × (Nat → Int32)) → Prop} {k1 : (Nat → Int32) → (Nat → Int32) → Option (Int32 × Int32 × (Nat → Int32) × (Nat → Int32))} (g0 : 2 ≤ i2.toInt ∧ i2.toInt ≤ 9) (hk1 : ∀ (y1 : (Nat → Int32)) (y2 : (Nat → Int32)), Ok (k1 y1 y2) P) : ∀ (n : Nat) (i47 : Int32) (f48 : Nat → Int32) (f49 : Nat → Int32), 0 ≤ i47.toInt → i2.toInt - i47.toInt < n → 0 < n → Ok (LX8_turnRound_L7 i2 n i47 f48 f49 k1) P := by
  intro n
  induction n with
  | zero => intro i47 f48 f49 v0 hm h0; exact absurd h0 (Nat.lt_irrefl 0)
  | succ n ih =>
    intro i47 f48 f49 v0 hm h0
    show Ok (BX8_turnRound_L7 i2 i47 f48 f49 (fun i47 f48 f49 => LX8_turnRound_L7 i2 n i47 f48 f49 k1) k1) _
    unfold BX8_turnRound_L7
    refine Ok_if ?_ ?_
    · intro h
      have c348 : i2.toInt ≤ i47.toInt := i32le h
      exact hk1 f48 f49
    · intro h
      have c349 : i47.toInt < i2.toInt := i32nle h
      refine okL_X8_turnRound_L17 i47 (by first | omega | assumption | (try simp only [tl0, tl1, tl2, tl3, tl4, tl5, tl6, tl8, tl9, tl10, tl50, tl81, tl100, tl1000, tl9999, tlm1, tlm9, tlm50, tl2147483647]; omega)) (by first | omega | assumption | (try simp only [tl0, tl1, tl2, tl3, tl4, tl5, tl6, tl8, tl9, tl10, tl50, tl81, tl100, tl1000, tl9999, tlm1, tlm9, tlm50, tl2147483647]; omega)) ?_ 600 (0 : Int32) f48 f49 (by first | omega | assumption | (try simp only [tl0, tl1, tl2, tl3, tl4, tl5, tl6, tl8, tl9, tl10, tl50, tl81, tl100, tl1000, tl9999, tlm1, tlm9, tlm50, tl2147483647]; omega)) (by first | omega | assumption | (try simp only [tl0, tl1, tl2, tl3, tl4, tl5, tl6, tl8, tl9, tl10, tl50, tl81, tl100, tl1000, tl9999, tlm1, tlm9, tlm50, tl2147483647]; omega)) (by first | omega | assumption | (try simp only [tl0, tl1, tl2, tl3, tl4, tl5, tl6, tl8, tl9, tl10, tl50, tl81, tl100, tl1000, tl9999, tlm1, tlm9, tlm50, tl2147483647]; omega))
      intro f70 f71
      show Ok ((fun i47 f48 f49 => LX8_turnRound_L7 i2 n i47 f48 f49 k1) (i47 + (1 : Int32)) f70 f71) _
      try (have e355 := inc_iv (x := i47) (by omega))
      exact ih (i47 + (1 : Int32)) f70 f71 (by first | omega | assumption | (try simp only [tl0, tl1, tl2, tl3, tl4, tl5, tl6, tl8, tl9, tl10, tl50, tl81, tl100, tl1000, tl9999, tlm1, tlm9, tlm50, tl2147483647]; omega)) (by first | omega | assumption | (try simp only [tl0, tl1, tl2, tl3, tl4, tl5, tl6, tl8, tl9, tl10, tl50, tl81, tl100, tl1000, tl9999, tlm1, tlm9, tlm50, tl2147483647]; omega)) (by first | omega | assumption | (try simp only [tl0, tl1, tl2, tl3, tl4, tl5, tl6, tl8, tl9, tl10, tl50, tl81, tl100, tl1000, tl9999, tlm1, tlm9, tlm50, tl2147483647]; omega))
set_option maxRecDepth 4000 in
theorem ok_X8_turnRound (i2 : Int32) (i6 : Int32) (i7 : Int32) (f11 : Nat → Int32) (f12 : Nat → Int32) (h0 : 2 ≤ i2.toInt ∧ i2.toInt ≤ 9) (h1 : 0 ≤ i6.toInt ∧ i6.toInt ≤ 8) : Ok (fX8_turnRound i2 i6 i7 f11 f12) (fun z => True) := by
  unfold fX8_turnRound
  refine okL_X8_turnRound_L7 i2 (by first | omega | assumption | (try simp only [tl0, tl1, tl2, tl3, tl4, tl5, tl6, tl8, tl9, tl10, tl50, tl81, tl100, tl1000, tl9999, tlm1, tlm9, tlm50, tl2147483647]; omega)) ?_ 600 (0 : Int32) f11 f12 (by first | omega | assumption | (try simp only [tl0, tl1, tl2, tl3, tl4, tl5, tl6, tl8, tl9, tl10, tl50, tl81, tl100, tl1000, tl9999, tlm1, tlm9, tlm50, tl2147483647]; omega)) (by first | omega | assumption | (try simp only [tl0, tl1, tl2, tl3, tl4, tl5, tl6, tl8, tl9, tl10, tl50, tl81, tl100, tl1000, tl9999, tlm1, tlm9, tlm50, tl2147483647]; omega)) (by first | omega | assumption | (try simp only [tl0, tl1, tl2, tl3, tl4, tl5, tl6, tl8, tl9, tl10, tl50, tl81, tl100, tl1000, tl9999, tlm1, tlm9, tlm50, tl2147483647]; omega))
  intro f72 f73
  show Ok ((fX8_valueNow i2 i6 f73).bind (fun z74 => (fX8_did i7 z74).bind (fun z75 => some (z75.1, z75.2, f72, f73)))) _
  refine Ok_bind (ok_X8_valueNow i2 i6 f73 (by first | omega | assumption | (try simp only [tl0, tl1, tl2, tl3, tl4, tl5, tl6, tl8, tl9, tl10, tl50, tl81, tl100, tl1000, tl9999, tlm1, tlm9, tlm50, tl2147483647]; omega)) (by first | omega | assumption | (try simp only [tl0, tl1, tl2, tl3, tl4, tl5, tl6, tl8, tl9, tl10, tl50, tl81, tl100, tl1000, tl9999, tlm1, tlm9, tlm50, tl2147483647]; omega))) (fun z74 hz74 => ?_)
  refine Ok_bind (ok_X8_did i7 z74) (fun z75 hz75 => ?_)
  exact Ok_some trivial
set_option maxRecDepth 4000 in
theorem ok_X8_swapped (i1 : Int32) (i2 : Int32) (i3 : Int32) (h0 : 0 ≤ i1.toInt) (h1 : i1.toInt ≤ 8) (h2 : 0 ≤ i2.toInt) (h3 : i2.toInt ≤ 8) (h4 : 0 ≤ i3.toInt) (h5 : i3.toInt ≤ 8) : Ok (fX8_swapped i1 i2 i3) (fun z => 0 ≤ z.toInt ∧ z.toInt ≤ 8) := by
  unfold fX8_swapped
  refine Ok_if ?_ ?_
  · intro h
    have c356 : i1.toInt = i2.toInt := i32eq h
    refine Ok_some ?_
    try dsimp only
    try simp only [tl0, tl1, tl2, tl3, tl4, tl5, tl6, tl8, tl9, tl10, tl50, tl81, tl100, tl1000, tl9999, tlm1, tlm9, tlm50, tl2147483647]
    first | trivial | omega | (simp; done) | (simp; omega) | (repeat' first | assumption | omega | apply And.intro)
  · intro h
    have c357 : i1.toInt ≠ i2.toInt := i32ne h
    refine Ok_if ?_ ?_
    · intro h
      have c358 : i1.toInt = i3.toInt := i32eq h
      refine Ok_some ?_
      try dsimp only
      try simp only [tl0, tl1, tl2, tl3, tl4, tl5, tl6, tl8, tl9, tl10, tl50, tl81, tl100, tl1000, tl9999, tlm1, tlm9, tlm50, tl2147483647]
      first | trivial | omega | (simp; done) | (simp; omega) | (repeat' first | assumption | omega | apply And.intro)
    · intro h
      have c359 : i1.toInt ≠ i3.toInt := i32ne h
      refine Ok_some ?_
      try dsimp only
      try simp only [tl0, tl1, tl2, tl3, tl4, tl5, tl6, tl8, tl9, tl10, tl50, tl81, tl100, tl1000, tl9999, tlm1, tlm9, tlm50, tl2147483647]
      first | trivial | omega | (simp; done) | (simp; omega) | (repeat' first | assumption | omega | apply And.intro)
set_option maxRecDepth 4000 in
theorem okL_X8_swappedRow_L21 (i5 : Int32) (f14 : Nat → Int32) (i3 : Int32) (i4 : Int32) (i54 : Int32) {P : ((Nat → Int32)) → Prop} {k1 : (Nat → Int32) → Option ((Nat → Int32))} (g0 : 2 ≤ i5.toInt ∧ i5.toInt ≤ 9) (g1 : 0 ≤ i3.toInt) (g2 : i3.toInt ≤ 8) (g3 : 0 ≤ i4.toInt) (g4 : i4.toInt ≤ 8) (g5 : 0 ≤ i54.toInt) (g6 : i54.toInt ≤ 8) (hk1 : ∀ (y1 : (Nat → Int32)), Ok (k1 y1) P) : ∀ (n : Nat) (i74 : Int32) (f75 : Nat → Int32), 0 ≤ i74.toInt → i5.toInt - i74.toInt < n → 0 < n → Ok (LX8_swappedRow_L21 i5 f14 i3 i4 i54 n i74 f75 k1) P := by
  intro n
  induction n with
  | zero => intro i74 f75 v0 hm h0; exact absurd h0 (Nat.lt_irrefl 0)
  | succ n ih =>
    intro i74 f75 v0 hm h0
    show Ok (BX8_swappedRow_L21 i5 f14 i3 i4 i54 i74 f75 (fun i74 f75 => LX8_swappedRow_L21 i5 f14 i3 i4 i54 n i74 f75 k1) k1) _
    unfold BX8_swappedRow_L21
    refine Ok_if ?_ ?_
    · intro h
      have c362 : i5.toInt ≤ i74.toInt := i32le h
      exact hk1 f75
    · intro h
      have c363 : i74.toInt < i5.toInt := i32nle h
      refine Ok_bind (ok_X8_swapped i54 i3 i4 (by first | omega | assumption | (try simp only [tl0, tl1, tl2, tl3, tl4, tl5, tl6, tl8, tl9, tl10, tl50, tl81, tl100, tl1000, tl9999, tlm1, tlm9, tlm50, tl2147483647]; omega)) (by first | omega | assumption | (try simp only [tl0, tl1, tl2, tl3, tl4, tl5, tl6, tl8, tl9, tl10, tl50, tl81, tl100, tl1000, tl9999, tlm1, tlm9, tlm50, tl2147483647]; omega)) (by first | omega | assumption | (try simp only [tl0, tl1, tl2, tl3, tl4, tl5, tl6, tl8, tl9, tl10, tl50, tl81, tl100, tl1000, tl9999, tlm1, tlm9, tlm50, tl2147483647]; omega)) (by first | omega | assumption | (try simp only [tl0, tl1, tl2, tl3, tl4, tl5, tl6, tl8, tl9, tl10, tl50, tl81, tl100, tl1000, tl9999, tlm1, tlm9, tlm50, tl2147483647]; omega)) (by first | omega | assumption | (try simp only [tl0, tl1, tl2, tl3, tl4, tl5, tl6, tl8, tl9, tl10, tl50, tl81, tl100, tl1000, tl9999, tlm1, tlm9, tlm50, tl2147483647]; omega)) (by first | omega | assumption | (try simp only [tl0, tl1, tl2, tl3, tl4, tl5, tl6, tl8, tl9, tl10, tl50, tl81, tl100, tl1000, tl9999, tlm1, tlm9, tlm50, tl2147483647]; omega))) (fun z76 hz76 => ?_)
      try dsimp only at hz76
      try simp only [tl0, tl1, tl2, tl3, tl4, tl5, tl6, tl8, tl9, tl10, tl50, tl81, tl100, tl1000, tl9999, tlm1, tlm9, tlm50, tl2147483647] at hz76
      refine Ok_bind (ok_X8_swapped i74 i3 i4 (by first | omega | assumption | (try simp only [tl0, tl1, tl2, tl3, tl4, tl5, tl6, tl8, tl9, tl10, tl50, tl81, tl100, tl1000, tl9999, tlm1, tlm9, tlm50, tl2147483647]; omega)) (by first | omega | assumption | (try simp only [tl0, tl1, tl2, tl3, tl4, tl5, tl6, tl8, tl9, tl10, tl50, tl81, tl100, tl1000, tl9999, tlm1, tlm9, tlm50, tl2147483647]; omega)) (by first | omega | assumption | (try simp only [tl0, tl1, tl2, tl3, tl4, tl5, tl6, tl8, tl9, tl10, tl50, tl81, tl100, tl1000, tl9999, tlm1, tlm9, tlm50, tl2147483647]; omega)) (by first | omega | assumption | (try simp only [tl0, tl1, tl2, tl3, tl4, tl5, tl6, tl8, tl9, tl10, tl50, tl81, tl100, tl1000, tl9999, tlm1, tlm9, tlm50, tl2147483647]; omega)) (by first | omega | assumption | (try simp only [tl0, tl1, tl2, tl3, tl4, tl5, tl6, tl8, tl9, tl10, tl50, tl81, tl100, tl1000, tl9999, tlm1, tlm9, tlm50, tl2147483647]; omega)) (by first | omega | assumption | (try simp only [tl0, tl1, tl2, tl3, tl4, tl5, tl6, tl8, tl9, tl10, tl50, tl81, tl100, tl1000, tl9999, tlm1, tlm9, tlm50, tl2147483647]; omega))) (fun z77 hz77 => ?_)
      try dsimp only at hz77
      try simp only [tl0, tl1, tl2, tl3, tl4, tl5, tl6, tl8, tl9, tl10, tl50, tl81, tl100, tl1000, tl9999, tlm1, tlm9, tlm50, tl2147483647] at hz77
      try (have e364 := idx_iv (x := i54) (y := i74) (by omega) (by omega) (by omega) (by omega))
      refine Ok_inB (vp_of (by first | omega | assumption | (try simp only [tl0, tl1, tl2, tl3, tl4, tl5, tl6, tl8, tl9, tl10, tl50, tl81, tl100, tl1000, tl9999, tlm1, tlm9, tlm50, tl2147483647]; omega)) (by first | omega | assumption | (try simp only [tl0, tl1, tl2, tl3, tl4, tl5, tl6, tl8, tl9, tl10, tl50, tl81, tl100, tl1000, tl9999, tlm1, tlm9, tlm50, tl2147483647]; omega))) ?_
      try (have e365 := idx_iv (x := z76) (y := z77) (by omega) (by omega) (by omega) (by omega))
      refine Ok_inB (vp_of (by first | omega | assumption | (try simp only [tl0, tl1, tl2, tl3, tl4, tl5, tl6, tl8, tl9, tl10, tl50, tl81, tl100, tl1000, tl9999, tlm1, tlm9, tlm50, tl2147483647]; omega)) (by first | omega | assumption | (try simp only [tl0, tl1, tl2, tl3, tl4, tl5, tl6, tl8, tl9, tl10, tl50, tl81, tl100, tl1000, tl9999, tlm1, tlm9, tlm50, tl2147483647]; omega))) ?_
      try (have e366 := inc_iv (x := i74) (by omega))
      exact ih (i74 + (1 : Int32)) (upd f75 ((z76 * (9 : Int32)) + z77).toNatClampNeg (f14 ((i54 * (9 : Int32)) + i74).toNatClampNeg)) (by first | omega | assumption | (try simp only [tl0, tl1, tl2, tl3, tl4, tl5, tl6, tl8, tl9, tl10, tl50, tl81, tl100, tl1000, tl9999, tlm1, tlm9, tlm50, tl2147483647]; omega)) (by first | omega | assumption | (try simp only [tl0, tl1, tl2, tl3, tl4, tl5, tl6, tl8, tl9, tl10, tl50, tl81, tl100, tl1000, tl9999, tlm1, tlm9, tlm50, tl2147483647]; omega)) (by first | omega | assumption | (try simp only [tl0, tl1, tl2, tl3, tl4, tl5, tl6, tl8, tl9, tl10, tl50, tl81, tl100, tl1000, tl9999, tlm1, tlm9, tlm50, tl2147483647]; omega))
set_option maxRecDepth 4000 in
theorem okL_X8_swappedRow_L9 (i5 : Int32) (f14 : Nat → Int32) (i3 : Int32) (i4 : Int32)   (g0 : 2 ≤ i5.toInt ∧ i5.toInt ≤ 9) (g1 : 0 ≤ i3.toInt) (g2 : i3.toInt ≤ 8) (g3 : 0 ≤ i4.toInt) (g4 : i4.toInt ≤ 8)  : ∀ (n : Nat) (i54 : Int32) (f55 : Nat → Int32), 0 ≤ i54.toInt → i5.toInt - i54.toInt < n → 0 < n → Ok (LX8_swappedRow_L9 i5 f14 i3 i4 n i54 f55 ) (fun z => True) := by
  intro n
  induction n with
  | zero => intro i54 f55 v0 hm h0; exact absurd h0 (Nat.lt_irrefl 0)
  | succ n ih =>
    intro i54 f55 v0 hm h0
    show Ok (BX8_swappedRow_L9 i5 f14 i3 i4 i54 f55 (fun i54 f55 => LX8_swappedRow_L9 i5 f14 i3 i4 n i54 f55 ) ) _
    unfold BX8_swappedRow_L9
    refine Ok_if ?_ ?_
    · intro h
      have c360 : i5.toInt ≤ i54.toInt := i32le h
      exact Ok_some trivial
    · intro h
      have c361 : i54.toInt < i5.toInt := i32nle h
      refine okL_X8_swappedRow_L21 i5 f14 i3 i4 i54 (by first | omega | assumption | (try simp only [tl0, tl1, tl2, tl3, tl4, tl5, tl6, tl8, tl9, tl10, tl50, tl81, tl100, tl1000, tl9999, tlm1, tlm9, tlm50, tl2147483647]; omega)) (by first | omega | assumption | (try simp only [tl0, tl1, tl2, tl3, tl4, tl5, tl6, tl8, tl9, tl10, tl50, tl81, tl100, tl1000, tl9999, tlm1, tlm9, tlm50, tl2147483647]; omega)) (by first | omega | assumption | (try simp only [tl0, tl1, tl2, tl3, tl4, tl5, tl6, tl8, tl9, tl10, tl50, tl81, tl100, tl1000, tl9999, tlm1, tlm9, tlm50, tl2147483647]; omega)) (by first | omega | assumption | (try simp only [tl0, tl1, tl2, tl3, tl4, tl5, tl6, tl8, tl9, tl10, tl50, tl81, tl100, tl1000, tl9999, tlm1, tlm9, tlm50, tl2147483647]; omega)) (by first | omega | assumption | (try simp only [tl0, tl1, tl2, tl3, tl4, tl5, tl6, tl8, tl9, tl10, tl50, tl81, tl100, tl1000, tl9999, tlm1, tlm9, tlm50, tl2147483647]; omega)) (by first | omega | assumption | (try simp only [tl0, tl1, tl2, tl3, tl4, tl5, tl6, tl8, tl9, tl10, tl50, tl81, tl100, tl1000, tl9999, tlm1, tlm9, tlm50, tl2147483647]; omega)) (by first | omega | assumption | (try simp only [tl0, tl1, tl2, tl3, tl4, tl5, tl6, tl8, tl9, tl10, tl50, tl81, tl100, tl1000, tl9999, tlm1, tlm9, tlm50, tl2147483647]; omega)) ?_ 600 (0 : Int32) f55 (by first | omega | assumption | (try simp only [tl0, tl1, tl2, tl3, tl4, tl5, tl6, tl8, tl9, tl10, tl50, tl81, tl100, tl1000, tl9999, tlm1, tlm9, tlm50, tl2147483647]; omega)) (by first | omega | assumption | (try simp only [tl0, tl1, tl2, tl3, tl4, tl5, tl6, tl8, tl9, tl10, tl50, tl81, tl100, tl1000, tl9999, tlm1, tlm9, tlm50, tl2147483647]; omega)) (by first | omega | assumption | (try simp only [tl0, tl1, tl2, tl3, tl4, tl5, tl6, tl8, tl9, tl10, tl50, tl81, tl100, tl1000, tl9999, tlm1, tlm9, tlm50, tl2147483647]; omega))
      intro f78
      show Ok ((fun i54 f55 => LX8_swappedRow_L9 i5 f14 i3 i4 n i54 f55 ) (i54 + (1 : Int32)) f78) _
      try (have e367 := inc_iv (x := i54) (by omega))
      exact ih (i54 + (1 : Int32)) f78 (by first | omega | assumption | (try simp only [tl0, tl1, tl2, tl3, tl4, tl5, tl6, tl8, tl9, tl10, tl50, tl81, tl100, tl1000, tl9999, tlm1, tlm9, tlm50, tl2147483647]; omega)) (by first | omega | assumption | (try simp only [tl0, tl1, tl2, tl3, tl4, tl5, tl6, tl8, tl9, tl10, tl50, tl81, tl100, tl1000, tl9999, tlm1, tlm9, tlm50, tl2147483647]; omega)) (by first | omega | assumption | (try simp only [tl0, tl1, tl2, tl3, tl4, tl5, tl6, tl8, tl9, tl10, tl50, tl81, tl100, tl1000, tl9999, tlm1, tlm9, tlm50, tl2147483647]; omega))
set_option maxRecDepth 4000 in
theorem ok_X8_swappedRow (i5 : Int32) (f14 : Nat → Int32) (i3 : Int32) (i4 : Int32) (h0 : 2 ≤ i5.toInt ∧ i5.toInt ≤ 9) (h1 : 0 ≤ i3.toInt) (h2 : i3.toInt ≤ 8) (h3 : 0 ≤ i4.toInt) (h4 : i4.toInt ≤ 8) : Ok (fX8_swappedRow i5 f14 i3 i4) (fun z => True) := by
  unfold fX8_swappedRow
  refine Ok_mono (okL_X8_swappedRow_L9 i5 f14 i3 i4 (by first | omega | assumption | (try simp only [tl0, tl1, tl2, tl3, tl4, tl5, tl6, tl8, tl9, tl10, tl50, tl81, tl100, tl1000, tl9999, tlm1, tlm9, tlm50, tl2147483647]; omega)) (by first | omega | assumption | (try simp only [tl0, tl1, tl2, tl3, tl4, tl5, tl6, tl8, tl9, tl10, tl50, tl81, tl100, tl1000, tl9999, tlm1, tlm9, tlm50, tl2147483647]; omega)) (by first | omega | assumption | (try simp only [tl0, tl1, tl2, tl3, tl4, tl5, tl6, tl8, tl9, tl10, tl50, tl81, tl100, tl1000, tl9999, tlm1, tlm9, tlm50, tl2147483647]; omega)) (by first | omega | assumption | (try simp only [tl0, tl1, tl2, tl3, tl4, tl5, tl6, tl8, tl9, tl10, tl50, tl81, tl100, tl1000, tl9999, tlm1, tlm9, tlm50, tl2147483647]; omega)) (by first | omega | assumption | (try simp only [tl0, tl1, tl2, tl3, tl4, tl5, tl6, tl8, tl9, tl10, tl50, tl81, tl100, tl1000, tl9999, tlm1, tlm9, tlm50, tl2147483647]; omega)) 600 (0 : Int32) (fun _ => 0) (by first | omega | assumption | (try simp only [tl0, tl1, tl2, tl3, tl4, tl5, tl6, tl8, tl9, tl10, tl50, tl81, tl100, tl1000, tl9999, tlm1, tlm9, tlm50, tl2147483647]; omega)) (by first | omega | assumption | (try simp only [tl0, tl1, tl2, tl3, tl4, tl5, tl6, tl8, tl9, tl10, tl50, tl81, tl100, tl1000, tl9999, tlm1, tlm9, tlm50, tl2147483647]; omega)) (by first | omega | assumption | (try simp only [tl0, tl1, tl2, tl3, tl4, tl5, tl6, tl8, tl9, tl10, tl50, tl81, tl100, tl1000, tl9999, tlm1, tlm9, tlm50, tl2147483647]; omega))) ?_
  intro z hz
  first | exact hz | (simp only [Sx] at *; omega) | (dsimp only at *; omega)
set_option maxRecDepth 4000 in
theorem ok_X8_swap (i4 : Int32) (i7 : Int32) (i8 : Int32) (i9 : Int32) (f13 : Nat → Int32) (f14 : Nat → Int32) (i2 : Int32) (i3 : Int32) (h0 : 2 ≤ i4.toInt ∧ i4.toInt ≤ 9) (h1 : 0 ≤ i7.toInt ∧ i7.toInt ≤ 8) (h2 : 0 ≤ i8.toInt ∧ i8.toInt ≤ 8) : Ok (fX8_swap i4 i7 i8 i9 f13 f14 i2 i3) (fun z => (0 ≤ z.2.1.toInt ∧ z.2.1.toInt ≤ 8) ∧ (0 ≤ z.2.2.1.toInt ∧ z.2.2.1.toInt ≤ 8)) := by
  unfold fX8_swap
  refine Ok_bind (ok_X8_isPlace i4 i2 (by first | omega | assumption | (try simp only [tl0, tl1, tl2, tl3, tl4, tl5, tl6, tl8, tl9, tl10, tl50, tl81, tl100, tl1000, tl9999, tlm1, tlm9, tlm50, tl2147483647]; omega))) (fun z15 hz15 => ?_)
  try dsimp only at hz15
  try simp only [tl0, tl1, tl2, tl3, tl4, tl5, tl6, tl8, tl9, tl10, tl50, tl81, tl100, tl1000, tl9999, tlm1, tlm9, tlm50, tl2147483647] at hz15
  refine Ok_jn (fun k16 wk16 => ?_)
  refine Ok_jn (fun k18 wk18 => ?_)
  refine Ok_if ?_ ?_
  · intro h
    have c368 : z15.toInt = 0 := i32eq h
    rw [wk18]
    show Ok (k16 (1 : Int32)) _
    rw [wk16]
    show Ok ((fX8_isThrown_ (1 : Int32)).bind (fun z22 => if z22.1 = (0 : Int32) then ((fX8_swappedRow i4 f13 i2 i3).bind (fun z23 => (fX8_swappedRow i4 f14 i2 i3).bind (fun z25 => (fX8_swapped i7 i2 i3).bind (fun z27 => (fX8_swapped i8 i2 i3).bind (fun z28 => (fX8_did i9 z28).bind (fun z29 => some (z29.1, z27, z28, z29.2, z22.2, z23, z25))))))) else (some ((0 : Int32), i7, i8, i9, z22.2, f13, f14)))) _
    refine Ok_bind (ok_X8_isThrown_ (1 : Int32)) (fun z22 hz22 => ?_)
    try dsimp only at hz22
    try simp only [tl0, tl1, tl2, tl3, tl4, tl5, tl6, tl8, tl9, tl10, tl50, tl81, tl100, tl1000, tl9999, tlm1, tlm9, tlm50, tl2147483647] at hz22
    refine Ok_if ?_ ?_
    · intro h
      have c369 : z22.1.toInt = 0 := i32eq h
      refine Ok_bind (ok_X8_swappedRow i4 f13 i2 i3 (by first | omega | assumption | (try simp only [tl0, tl1, tl2, tl3, tl4, tl5, tl6, tl8, tl9, tl10, tl50, tl81, tl100, tl1000, tl9999, tlm1, tlm9, tlm50, tl2147483647]; omega)) (by first | omega | assumption | (try simp only [tl0, tl1, tl2, tl3, tl4, tl5, tl6, tl8, tl9, tl10, tl50, tl81, tl100, tl1000, tl9999, tlm1, tlm9, tlm50, tl2147483647]; omega)) (by first | omega | assumption | (try simp only [tl0, tl1, tl2, tl3, tl4, tl5, tl6, tl8, tl9, tl10, tl50, tl81, tl100, tl1000, tl9999, tlm1, tlm9, tlm50, tl2147483647]; omega)) (by first | omega | assumption | (try simp only [tl0, tl1, tl2, tl3, tl4, tl5, tl6, tl8, tl9, tl10, tl50, tl81, tl100, tl1000, tl9999, tlm1, tlm9, tlm50, tl2147483647]; omega)) (by first | omega | assumption | (try simp only [tl0, tl1, tl2, tl3, tl4, tl5, tl6, tl8, tl9, tl10, tl50, tl81, tl100, tl1000, tl9999, tlm1, tlm9, tlm50, tl2147483647]; omega))) (fun z23 hz23 => ?_)
      refine Ok_bind (ok_X8_swappedRow i4 f14 i2 i3 (by first | omega | assumption | (try simp only [tl0, tl1, tl2, tl3, tl4, tl5, tl6, tl8, tl9, tl10, tl50, tl81, tl100, tl1000, tl9999, tlm1, tlm9, tlm50, tl2147483647]; omega)) (by first | omega | assumption | (try simp only [tl0, tl1, tl2, tl3, tl4, tl5, tl6, tl8, tl9, tl10, tl50, tl81, tl100, tl1000, tl9999, tlm1, tlm9, tlm50, tl2147483647]; omega)) (by first | omega | assumption | (try simp only [tl0, tl1, tl2, tl3, tl4, tl5, tl6, tl8, tl9, tl10, tl50, tl81, tl100, tl1000, tl9999, tlm1, tlm9, tlm50, tl2147483647]; omega)) (by first | omega | assumption | (try simp only [tl0, tl1, tl2, tl3, tl4, tl5, tl6, tl8, tl9, tl10, tl50, tl81, tl100, tl1000, tl9999, tlm1, tlm9, tlm50, tl2147483647]; omega)) (by first | omega | assumption | (try simp only [tl0, tl1, tl2, tl3, tl4, tl5, tl6, tl8, tl9, tl10, tl50, tl81, tl100, tl1000, tl9999, tlm1, tlm9, tlm50, tl2147483647]; omega))) (fun z25 hz25 => ?_)
      refine Ok_bind (ok_X8_swapped i7 i2 i3 (by first | omega | assumption | (try simp only [tl0, tl1, tl2, tl3, tl4, tl5, tl6, tl8, tl9, tl10, tl50, tl81, tl100, tl1000, tl9999, tlm1, tlm9, tlm50, tl2147483647]; omega)) (by first | omega | assumption | (try simp only [tl0, tl1, tl2, tl3, tl4, tl5, tl6, tl8, tl9, tl10, tl50, tl81, tl100, tl1000, tl9999, tlm1, tlm9, tlm50, tl2147483647]; omega)) (by first | omega | assumption | (try simp only [tl0, tl1, tl2, tl3, tl4, tl5, tl6, tl8, tl9, tl10, tl50, tl81, tl100, tl1000, tl9999, tlm1, tlm9, tlm50, tl2147483647]; omega)) (by first | omega | assumption | (try simp only [tl0, tl1, tl2, tl3, tl4, tl5, tl6, tl8, tl9, tl10, tl50, tl81, tl100, tl1000, tl9999, tlm1, tlm9, tlm50, tl2147483647]; omega)) (by first | omega | assumption | (try simp only [tl0, tl1, tl2, tl3, tl4, tl5, tl6, tl8, tl9, tl10, tl50, tl81, tl100, tl1000, tl9999, tlm1, tlm9, tlm50, tl2147483647]; omega)) (by first | omega | assumption | (try simp only [tl0, tl1, tl2, tl3, tl4, tl5, tl6, tl8, tl9, tl10, tl50, tl81, tl100, tl1000, tl9999, tlm1, tlm9, tlm50, tl2147483647]; omega))) (fun z27 hz27 => ?_)
      try dsimp only at hz27
      try simp only [tl0, tl1, tl2, tl3, tl4, tl5, tl6, tl8, tl9, tl10, tl50, tl81, tl100, tl1000, tl9999, tlm1, tlm9, tlm50, tl2147483647] at hz27
      refine Ok_bind (ok_X8_swapped i8 i2 i3 (by first | omega | assumption | (try simp only [tl0, tl1, tl2, tl3, tl4, tl5, tl6, tl8, tl9, tl10, tl50, tl81, tl100, tl1000, tl9999, tlm1, tlm9, tlm50, tl2147483647]; omega)) (by first | omega | assumption | (try simp only [tl0, tl1, tl2, tl3, tl4, tl5, tl6, tl8, tl9, tl10, tl50, tl81, tl100, tl1000, tl9999, tlm1, tlm9, tlm50, tl2147483647]; omega)) (by first | omega | assumption | (try simp only [tl0, tl1, tl2, tl3, tl4, tl5, tl6, tl8, tl9, tl10, tl50, tl81, tl100, tl1000, tl9999, tlm1, tlm9, tlm50, tl2147483647]; omega)) (by first | omega | assumption | (try simp only [tl0, tl1, tl2, tl3, tl4, tl5, tl6, tl8, tl9, tl10, tl50, tl81, tl100, tl1000, tl9999, tlm1, tlm9, tlm50, tl2147483647]; omega)) (by first | omega | assumption | (try simp only [tl0, tl1, tl2, tl3, tl4, tl5, tl6, tl8, tl9, tl10, tl50, tl81, tl100, tl1000, tl9999, tlm1, tlm9, tlm50, tl2147483647]; omega)) (by first | omega | assumption | (try simp only [tl0, tl1, tl2, tl3, tl4, tl5, tl6, tl8, tl9, tl10, tl50, tl81, tl100, tl1000, tl9999, tlm1, tlm9, tlm50, tl2147483647]; omega))) (fun z28 hz28 => ?_)
      try dsimp only at hz28
      try simp only [tl0, tl1, tl2, tl3, tl4, tl5, tl6, tl8, tl9, tl10, tl50, tl81, tl100, tl1000, tl9999, tlm1, tlm9, tlm50, tl2147483647] at hz28
      refine Ok_bind (ok_X8_did i9 z28) (fun z29 hz29 => ?_)
      refine Ok_some ?_
      try dsimp only
      try simp only [tl0, tl1, tl2, tl3, tl4, tl5, tl6, tl8, tl9, tl10, tl50, tl81, tl100, tl1000, tl9999, tlm1, tlm9, tlm50, tl2147483647]
      first | trivial | omega | (simp; done) | (simp; omega) | (repeat' first | assumption | omega | apply And.intro)
    · intro h
      have c370 : z22.1.toInt ≠ 0 := i32ne h
      refine Ok_some ?_
      try dsimp only
      try simp only [tl0, tl1, tl2, tl3, tl4, tl5, tl6, tl8, tl9, tl10, tl50, tl81, tl100, tl1000, tl9999, tlm1, tlm9, tlm50, tl2147483647]
      first | trivial | omega | (simp; done) | (simp; omega) | (repeat' first | assumption | omega | apply And.intro)
  · intro h
    have c371 : z15.toInt ≠ 0 := i32ne h
    refine Ok_bind (ok_X8_isPlace i4 i3 (by first | omega | assumption | (try simp only [tl0, tl1, tl2, tl3, tl4, tl5, tl6, tl8, tl9, tl10, tl50, tl81, tl100, tl1000, tl9999, tlm1, tlm9, tlm50, tl2147483647]; omega))) (fun z20 hz20 => ?_)
    try dsimp only at hz20
    try simp only [tl0, tl1, tl2, tl3, tl4, tl5, tl6, tl8, tl9, tl10, tl50, tl81, tl100, tl1000, tl9999, tlm1, tlm9, tlm50, tl2147483647] at hz20
    refine Ok_if ?_ ?_
    · intro h
      have c372 : z20.toInt = 0 := i32eq h
      rw [wk18]
      show Ok (k16 (1 : Int32)) _
      rw [wk16]
      show Ok ((fX8_isThrown_ (1 : Int32)).bind (fun z22 => if z22.1 = (0 : Int32) then ((fX8_swappedRow i4 f13 i2 i3).bind (fun z23 => (fX8_swappedRow i4 f14 i2 i3).bind (fun z25 => (fX8_swapped i7 i2 i3).bind (fun z27 => (fX8_swapped i8 i2 i3).bind (fun z28 => (fX8_did i9 z28).bind (fun z29 => some (z29.1, z27, z28, z29.2, z22.2, z23, z25))))))) else (some ((0 : Int32), i7, i8, i9, z22.2, f13, f14)))) _
      refine Ok_bind (ok_X8_isThrown_ (1 : Int32)) (fun z22 hz22 => ?_)
      try dsimp only at hz22
      try simp only [tl0, tl1, tl2, tl3, tl4, tl5, tl6, tl8, tl9, tl10, tl50, tl81, tl100, tl1000, tl9999, tlm1, tlm9, tlm50, tl2147483647] at hz22
      refine Ok_if ?_ ?_
      · intro h
        have c373 : z22.1.toInt = 0 := i32eq h
        refine Ok_bind (ok_X8_swappedRow i4 f13 i2 i3 (by first | omega | assumption | (try simp only [tl0, tl1, tl2, tl3, tl4, tl5, tl6, tl8, tl9, tl10, tl50, tl81, tl100, tl1000, tl9999, tlm1, tlm9, tlm50, tl2147483647]; omega)) (by first | omega | assumption | (try simp only [tl0, tl1, tl2, tl3, tl4, tl5, tl6, tl8, tl9, tl10, tl50, tl81, tl100, tl1000, tl9999, tlm1, tlm9, tlm50, tl2147483647]; omega)) (by first | omega | assumption | (try simp only [tl0, tl1, tl2, tl3, tl4, tl5, tl6, tl8, tl9, tl10, tl50, tl81, tl100, tl1000, tl9999, tlm1, tlm9, tlm50, tl2147483647]; omega)) (by first | omega | assumption | (try simp only [tl0, tl1, tl2, tl3, tl4, tl5, tl6, tl8, tl9, tl10, tl50, tl81, tl100, tl1000, tl9999, tlm1, tlm9, tlm50, tl2147483647]; omega)) (by first | omega | assumption | (try simp only [tl0, tl1, tl2, tl3, tl4, tl5, tl6, tl8, tl9, tl10, tl50, tl81, tl100, tl1000, tl9999, tlm1, tlm9, tlm50, tl2147483647]; omega))) (fun z23 hz23 => ?_)
        refine Ok_bind (ok_X8_swappedRow i4 f14 i2 i3 (by first | omega | assumption | (try simp only [tl0, tl1, tl2, tl3, tl4, tl5, tl6, tl8, tl9, tl10, tl50, tl81, tl100, tl1000, tl9999, tlm1, tlm9, tlm50, tl2147483647]; omega)) (by first | omega | assumption | (try simp only [tl0, tl1, tl2, tl3, tl4, tl5, tl6, tl8, tl9, tl10, tl50, tl81, tl100, tl1000, tl9999, tlm1, tlm9, tlm50, tl2147483647]; omega)) (by first | omega | assumption | (try simp only [tl0, tl1, tl2, tl3, tl4, tl5, tl6, tl8, tl9, tl10, tl50, tl81, tl100, tl1000, tl9999, tlm1, tlm9, tlm50, tl2147483647]; omega)) (by first | omega | assumption | (try simp only [tl0, tl1, tl2, tl3, tl4, tl5, tl6, tl8, tl9, tl10, tl50, tl81, tl100, tl1000, tl9999, tlm1, tlm9, tlm50, tl2147483647]; omega)) (by first | omega | assumption | (try simp only [tl0, tl1, tl2, tl3, tl4, tl5, tl6, tl8, tl9, tl10, tl50, tl81, tl100, tl1000, tl9999, tlm1, tlm9, tlm50, tl2147483647]; omega))) (fun z25 hz25 => ?_)
        refine Ok_bind (ok_X8_swapped i7 i2 i3 (by first | omega | assumption | (try simp only [tl0, tl1, tl2, tl3, tl4, tl5, tl6, tl8, tl9, tl10, tl50, tl81, tl100, tl1000, tl9999, tlm1, tlm9, tlm50, tl2147483647]; omega)) (by first | omega | assumption | (try simp only [tl0, tl1, tl2, tl3, tl4, tl5, tl6, tl8, tl9, tl10, tl50, tl81, tl100, tl1000, tl9999, tlm1, tlm9, tlm50, tl2147483647]; omega)) (by first | omega | assumption | (try simp only [tl0, tl1, tl2, tl3, tl4, tl5, tl6, tl8, tl9, tl10, tl50, tl81, tl100, tl1000, tl9999, tlm1, tlm9, tlm50, tl2147483647]; omega)) (by first | omega | assumption | (try simp only [tl0, tl1, tl2, tl3, tl4, tl5, tl6, tl8, tl9, tl10, tl50, tl81, tl100, tl1000, tl9999, tlm1, tlm9, tlm50, tl2147483647]; omega)) (by first | omega | assumption | (try simp only [tl0, tl1, tl2, tl3, tl4, tl5, tl6, tl8, tl9, tl10, tl50, tl81, tl100, tl1000, tl9999, tlm1, tlm9, tlm50, tl2147483647]; omega)) (by first | omega | assumption | (try simp only [tl0, tl1, tl2, tl3, tl4, tl5, tl6, tl8, tl9, tl10, tl50, tl81, tl100, tl1000, tl9999, tlm1, tlm9, tlm50, tl2147483647]; omega))) (fun z27 hz27 => ?_)
        try dsimp only at hz27
        try simp only [tl0, tl1, tl2, tl3, tl4, tl5, tl6, tl8, tl9, tl10, tl50, tl81, tl100, tl1000, tl9999, tlm1, tlm9, tlm50, tl2147483647] at hz27
        refine Ok_bind (ok_X8_swapped i8 i2 i3 (by first | omega | assumption | (try simp only [tl0, tl1, tl2, tl3, tl4, tl5, tl6, tl8, tl9, tl10, tl50, tl81, tl100, tl1000, tl9999, tlm1, tlm9, tlm50, tl2147483647]; omega)) (by first | omega | assumption | (try simp only [tl0, tl1, tl2, tl3, tl4, tl5, tl6, tl8, tl9, tl10, tl50, tl81, tl100, tl1000, tl9999, tlm1, tlm9, tlm50, tl2147483647]; omega)) (by first | omega | assumption | (try simp only [tl0, tl1, tl2, tl3, tl4, tl5, tl6, tl8, tl9, tl10, tl50, tl81, tl100, tl1000, tl9999, tlm1, tlm9, tlm50, tl2147483647]; omega)) (by first | omega | assumption | (try simp only [tl0, tl1, tl2, tl3, tl4, tl5, tl6, tl8, tl9, tl10, tl50, tl81, tl100, tl1000, tl9999, tlm1, tlm9, tlm50, tl2147483647]; omega)) (by first | omega | assumption | (try simp only [tl0, tl1, tl2, tl3, tl4, tl5, tl6, tl8, tl9, tl10, tl50, tl81, tl100, tl1000, tl9999, tlm1, tlm9, tlm50, tl2147483647]; omega)) (by first | omega | assumption | (try simp only [tl0, tl1, tl2, tl3, tl4, tl5, tl6, tl8, tl9, tl10, tl50, tl81, tl100, tl1000, tl9999, tlm1, tlm9, tlm50, tl2147483647]; omega))) (fun z28 hz28 => ?_)
        try dsimp only at hz28
        try simp only [tl0, tl1, tl2, tl3, tl4, tl5, tl6, tl8, tl9, tl10, tl50, tl81, tl100, tl1000, tl9999, tlm1, tlm9, tlm50, tl2147483647] at hz28
        refine Ok_bind (ok_X8_did i9 z28) (fun z29 hz29 => ?_)
        refine Ok_some ?_
        try dsimp only
        try simp only [tl0, tl1, tl2, tl3, tl4, tl5, tl6, tl8, tl9, tl10, tl50, tl81, tl100, tl1000, tl9999, tlm1, tlm9, tlm50, tl2147483647]
        first | trivial | omega | (simp; done) | (simp; omega) | (repeat' first | assumption | omega | apply And.intro)
      · intro h
        have c374 : z22.1.toInt ≠ 0 := i32ne h
        refine Ok_some ?_
        try dsimp only
        try simp only [tl0, tl1, tl2, tl3, tl4, tl5, tl6, tl8, tl9, tl10, tl50, tl81, tl100, tl1000, tl9999, tlm1, tlm9, tlm50, tl2147483647]
        first | trivial | omega | (simp; done) | (simp; omega) | (repeat' first | assumption | omega | apply And.intro)
    · intro h
      have c375 : z20.toInt ≠ 0 := i32ne h
      rw [wk16]
      show Ok ((fX8_isThrown_ (0 : Int32)).bind (fun z22 => if z22.1 = (0 : Int32) then ((fX8_swappedRow i4 f13 i2 i3).bind (fun z23 => (fX8_swappedRow i4 f14 i2 i3).bind (fun z25 => (fX8_swapped i7 i2 i3).bind (fun z27 => (fX8_swapped i8 i2 i3).bind (fun z28 => (fX8_did i9 z28).bind (fun z29 => some (z29.1, z27, z28, z29.2, z22.2, z23, z25))))))) else (some ((0 : Int32), i7, i8, i9, z22.2, f13, f14)))) _
      refine Ok_bind (ok_X8_isThrown_ (0 : Int32)) (fun z22 hz22 => ?_)
      try dsimp only at hz22
      try simp only [tl0, tl1, tl2, tl3, tl4, tl5, tl6, tl8, tl9, tl10, tl50, tl81, tl100, tl1000, tl9999, tlm1, tlm9, tlm50, tl2147483647] at hz22
      refine Ok_if ?_ ?_
      · intro h
        have c376 : z22.1.toInt = 0 := i32eq h
        refine Ok_bind (ok_X8_swappedRow i4 f13 i2 i3 (by first | omega | assumption | (try simp only [tl0, tl1, tl2, tl3, tl4, tl5, tl6, tl8, tl9, tl10, tl50, tl81, tl100, tl1000, tl9999, tlm1, tlm9, tlm50, tl2147483647]; omega)) (by first | omega | assumption | (try simp only [tl0, tl1, tl2, tl3, tl4, tl5, tl6, tl8, tl9, tl10, tl50, tl81, tl100, tl1000, tl9999, tlm1, tlm9, tlm50, tl2147483647]; omega)) (by first | omega | assumption | (try simp only [tl0, tl1, tl2, tl3, tl4, tl5, tl6, tl8, tl9, tl10, tl50, tl81, tl100, tl1000, tl9999, tlm1, tlm9, tlm50, tl2147483647]; omega)) (by first | omega | assumption | (try simp only [tl0, tl1, tl2, tl3, tl4, tl5, tl6, tl8, tl9, tl10, tl50, tl81, tl100, tl1000, tl9999, tlm1, tlm9, tlm50, tl2147483647]; omega)) (by first | omega | assumption | (try simp only [tl0, tl1, tl2, tl3, tl4, tl5, tl6, tl8, tl9, tl10, tl50, tl81, tl100, tl1000, tl9999, tlm1, tlm9, tlm50, tl2147483647]; omega))) (fun z23 hz23 => ?_)
        refine Ok_bind (ok_X8_swappedRow i4 f14 i2 i3 (by first | omega | assumption | (try simp only [tl0, tl1, tl2, tl3, tl4, tl5, tl6, tl8, tl9, tl10, tl50, tl81, tl100, tl1000, tl9999, tlm1, tlm9, tlm50, tl2147483647]; omega)) (by first | omega | assumption | (try simp only [tl0, tl1, tl2, tl3, tl4, tl5, tl6, tl8, tl9, tl10, tl50, tl81, tl100, tl1000, tl9999, tlm1, tlm9, tlm50, tl2147483647]; omega)) (by first | omega | assumption | (try simp only [tl0, tl1, tl2, tl3, tl4, tl5, tl6, tl8, tl9, tl10, tl50, tl81, tl100, tl1000, tl9999, tlm1, tlm9, tlm50, tl2147483647]; omega)) (by first | omega | assumption | (try simp only [tl0, tl1, tl2, tl3, tl4, tl5, tl6, tl8, tl9, tl10, tl50, tl81, tl100, tl1000, tl9999, tlm1, tlm9, tlm50, tl2147483647]; omega)) (by first | omega | assumption | (try simp only [tl0, tl1, tl2, tl3, tl4, tl5, tl6, tl8, tl9, tl10, tl50, tl81, tl100, tl1000, tl9999, tlm1, tlm9, tlm50, tl2147483647]; omega))) (fun z25 hz25 => ?_)
        refine Ok_bind (ok_X8_swapped i7 i2 i3 (by first | omega | assumption | (try simp only [tl0, tl1, tl2, tl3, tl4, tl5, tl6, tl8, tl9, tl10, tl50, tl81, tl100, tl1000, tl9999, tlm1, tlm9, tlm50, tl2147483647]; omega)) (by first | omega | assumption | (try simp only [tl0, tl1, tl2, tl3, tl4, tl5, tl6, tl8, tl9, tl10, tl50, tl81, tl100, tl1000, tl9999, tlm1, tlm9, tlm50, tl2147483647]; omega)) (by first | omega | assumption | (try simp only [tl0, tl1, tl2, tl3, tl4, tl5, tl6, tl8, tl9, tl10, tl50, tl81, tl100, tl1000, tl9999, tlm1, tlm9, tlm50, tl2147483647]; omega)) (by first | omega | assumption | (try simp only [tl0, tl1, tl2, tl3, tl4, tl5, tl6, tl8, tl9, tl10, tl50, tl81, tl100, tl1000, tl9999, tlm1, tlm9, tlm50, tl2147483647]; omega)) (by first | omega | assumption | (try simp only [tl0, tl1, tl2, tl3, tl4, tl5, tl6, tl8, tl9, tl10, tl50, tl81, tl100, tl1000, tl9999, tlm1, tlm9, tlm50, tl2147483647]; omega)) (by first | omega | assumption | (try simp only [tl0, tl1, tl2, tl3, tl4, tl5, tl6, tl8, tl9, tl10, tl50, tl81, tl100, tl1000, tl9999, tlm1, tlm9, tlm50, tl2147483647]; omega))) (fun z27 hz27 => ?_)
        try dsimp only at hz27
        try simp only [tl0, tl1, tl2, tl3, tl4, tl5, tl6, tl8, tl9, tl10, tl50, tl81, tl100, tl1000, tl9999, tlm1, tlm9, tlm50, tl2147483647] at hz27
        refine Ok_bind (ok_X8_swapped i8 i2 i3 (by first | omega | assumption | (try simp only [tl0, tl1, tl2, tl3, tl4, tl5, tl6, tl8, tl9, tl10, tl50, tl81, tl100, tl1000, tl9999, tlm1, tlm9, tlm50, tl2147483647]; omega)) (by first | omega | assumption | (try simp only [tl0, tl1, tl2, tl3, tl4, tl5, tl6, tl8, tl9, tl10, tl50, tl81, tl100, tl1000, tl9999, tlm1, tlm9, tlm50, tl2147483647]; omega)) (by first | omega | assumption | (try simp only [tl0, tl1, tl2, tl3, tl4, tl5, tl6, tl8, tl9, tl10, tl50, tl81, tl100, tl1000, tl9999, tlm1, tlm9, tlm50, tl2147483647]; omega)) (by first | omega | assumption | (try simp only [tl0, tl1, tl2, tl3, tl4, tl5, tl6, tl8, tl9, tl10, tl50, tl81, tl100, tl1000, tl9999, tlm1, tlm9, tlm50, tl2147483647]; omega)) (by first | omega | assumption | (try simp only [tl0, tl1, tl2, tl3, tl4, tl5, tl6, tl8, tl9, tl10, tl50, tl81, tl100, tl1000, tl9999, tlm1, tlm9, tlm50, tl2147483647]; omega)) (by first | omega | assumption | (try simp only [tl0, tl1, tl2, tl3, tl4, tl5, tl6, tl8, tl9, tl10, tl50, tl81, tl100, tl1000, tl9999, tlm1, tlm9, tlm50, tl2147483647]; omega))) (fun z28 hz28 => ?_)
        try dsimp only at hz28
        try simp only [tl0, tl1, tl2, tl3, tl4, tl5, tl6, tl8, tl9, tl10, tl50, tl81, tl100, tl1000, tl9999, tlm1, tlm9, tlm50, tl2147483647] at hz28
        refine Ok_bind (ok_X8_did i9 z28) (fun z29 hz29 => ?_)
        refine Ok_some ?_
        try dsimp only
        try simp only [tl0, tl1, tl2, tl3, tl4, tl5, tl6, tl8, tl9, tl10, tl50, tl81, tl100, tl1000, tl9999, tlm1, tlm9, tlm50, tl2147483647]
        first | trivial | omega | (simp; done) | (simp; omega) | (repeat' first | assumption | omega | apply And.intro)
      · intro h
        have c377 : z22.1.toInt ≠ 0 := i32ne h
        refine Ok_some ?_
        try dsimp only
        try simp only [tl0, tl1, tl2, tl3, tl4, tl5, tl6, tl8, tl9, tl10, tl50, tl81, tl100, tl1000, tl9999, tlm1, tlm9, tlm50, tl2147483647]
        first | trivial | omega | (simp; done) | (simp; omega) | (repeat' first | assumption | omega | apply And.intro)
set_option maxRecDepth 4000 in
theorem ok_X8_send (i4 : Int32) (i7 : Int32) (i8 : Int32) (i9 : Int32) (i10 : Int32) (f13 : Nat → Int32) (f14 : Nat → Int32) (i2 : Int32) (i3 : Int32) (h0 : 2 ≤ i4.toInt ∧ i4.toInt ≤ 9) (h1 : 0 ≤ i7.toInt ∧ i7.toInt ≤ 8) (h2 : 0 ≤ i8.toInt ∧ i8.toInt ≤ 8) : Ok (fX8_send i4 i7 i8 i9 i10 f13 f14 i2 i3) (fun z => True) := by
  unfold fX8_send
  refine Ok_bind (ok_X8_isPlace i4 i2 (by first | omega | assumption | (try simp only [tl0, tl1, tl2, tl3, tl4, tl5, tl6, tl8, tl9, tl10, tl50, tl81, tl100, tl1000, tl9999, tlm1, tlm9, tlm50, tl2147483647]; omega))) (fun z15 hz15 => ?_)
  try dsimp only at hz15
  try simp only [tl0, tl1, tl2, tl3, tl4, tl5, tl6, tl8, tl9, tl10, tl50, tl81, tl100, tl1000, tl9999, tlm1, tlm9, tlm50, tl2147483647] at hz15
  refine Ok_jn (fun k16 wk16 => ?_)
  refine Ok_if ?_ ?_
  · intro h
    have c378 : z15.toInt = 0 := i32eq h
    rw [wk16]
    show Ok ((fX8_isRoom i3).bind (fun z19 => jn (fun (i22 : Int32) => (fX8_isThrown (1 : Int32) i22).bind (fun z23 => if z23.1 = (0 : Int32) then (jn (fun (i28 : Int32) => jn (fun (_ : Unit) => (fX8_no i10).bind (fun z44 => some ((-9 : Int32), i9, z44, z23.2, f14))) (fun (k29 : Unit → Option (Int32 × Int32 × Int32 × Int32 × (Nat → Int32))) => jn (fun (_ : Unit) => jn (fun (f41 : Nat → Int32) => (fX8_valueNow i4 i7 f41).bind (fun z42 => (fX8_did i9 z42).bind (fun z43 => some (z43.1, z43.2, i10, z23.2, f41)))) (fun (k36 : (Nat → Int32) → Option (Int32 × Int32 × Int32 × Int32 × (Nat → Int32))) => if i28 = (0 : Int32) then ((fX8_flowOn f14 i7 i2 i3).bind (fun z38 => (fX8_flowOn z38 i2 i8 i3).bind (fun z39 => k36 z39))) else ((fX8_flowOn f14 i7 i8 i3).bind (fun z40 => k36 z40)))) (fun (k31 : Unit → Option (Int32 × Int32 × Int32 × Int32 × (Nat → Int32))) => if i28 = (0 : Int32) then ((fX8_left f13 f14 i7 i2).bind (fun z33 => if z33 < i3 then (k29 ()) else ((fX8_left f13 f14 i2 i8).bind (fun z34 => if i3 ≤ z34 then (k31 ()) else (k29 ()))))) else ((fX8_left f13 f14 i7 i8).bind (fun z35 => if i3 ≤ z35 then (k31 ()) else (k29 ())))))) (fun (k24 : Int32 → Option (Int32 × Int32 × Int32 × Int32 × (Nat → Int32))) => jn (fun (_ : Unit) => k24 (1 : Int32)) (fun (k26 : Unit → Option (Int32 × Int32 × Int32 × Int32 × (Nat → Int32))) => if i2 = i7 then (k26 ()) else (if i2 = i8 then (k26 ()) else (k24 (0 : Int32)))))) else (some ((0 : Int32), i9, i10, z23.2, f14)))) (fun (k20 : Int32 → Option (Int32 × Int32 × Int32 × Int32 × (Nat → Int32))) => if z19 = (0 : Int32) then (k20 (1 : Int32)) else (k20 (0 : Int32))))) _
    refine Ok_bind (ok_X8_isRoom i3) (fun z19 hz19 => ?_)
    try dsimp only at hz19
    try simp only [tl0, tl1, tl2, tl3, tl4, tl5, tl6, tl8, tl9, tl10, tl50, tl81, tl100, tl1000, tl9999, tlm1, tlm9, tlm50, tl2147483647] at hz19
    refine Ok_jn (fun k20 wk20 => ?_)
    refine Ok_if ?_ ?_
    · intro h
      have c379 : z19.toInt = 0 := i32eq h
      rw [wk20]
      show Ok ((fX8_isThrown (1 : Int32) (1 : Int32)).bind (fun z23 => if z23.1 = (0 : Int32) then (jn (fun (i28 : Int32) => jn (fun (_ : Unit) => (fX8_no i10).bind (fun z44 => some ((-9 : Int32), i9, z44, z23.2, f14))) (fun (k29 : Unit → Option (Int32 × Int32 × Int32 × Int32 × (Nat → Int32))) => jn (fun (_ : Unit) => jn (fun (f41 : Nat → Int32) => (fX8_valueNow i4 i7 f41).bind (fun z42 => (fX8_did i9 z42).bind (fun z43 => some (z43.1, z43.2, i10, z23.2, f41)))) (fun (k36 : (Nat → Int32) → Option (Int32 × Int32 × Int32 × Int32 × (Nat → Int32))) => if i28 = (0 : Int32) then ((fX8_flowOn f14 i7 i2 i3).bind (fun z38 => (fX8_flowOn z38 i2 i8 i3).bind (fun z39 => k36 z39))) else ((fX8_flowOn f14 i7 i8 i3).bind (fun z40 => k36 z40)))) (fun (k31 : Unit → Option (Int32 × Int32 × Int32 × Int32 × (Nat → Int32))) => if i28 = (0 : Int32) then ((fX8_left f13 f14 i7 i2).bind (fun z33 => if z33 < i3 then (k29 ()) else ((fX8_left f13 f14 i2 i8).bind (fun z34 => if i3 ≤ z34 then (k31 ()) else (k29 ()))))) else ((fX8_left f13 f14 i7 i8).bind (fun z35 => if i3 ≤ z35 then (k31 ()) else (k29 ())))))) (fun (k24 : Int32 → Option (Int32 × Int32 × Int32 × Int32 × (Nat → Int32))) => jn (fun (_ : Unit) => k24 (1 : Int32)) (fun (k26 : Unit → Option (Int32 × Int32 × Int32 × Int32 × (Nat → Int32))) => if i2 = i7 then (k26 ()) else (if i2 = i8 then (k26 ()) else (k24 (0 : Int32)))))) else (some ((0 : Int32), i9, i10, z23.2, f14)))) _
      refine Ok_bind (ok_X8_isThrown (1 : Int32) (1 : Int32)) (fun z23 hz23 => ?_)
      try dsimp only at hz23
      try simp only [tl0, tl1, tl2, tl3, tl4, tl5, tl6, tl8, tl9, tl10, tl50, tl81, tl100, tl1000, tl9999, tlm1, tlm9, tlm50, tl2147483647] at hz23
      refine Ok_if ?_ ?_
      · intro h
        have c380 : z23.1.toInt = 0 := i32eq h
        refine Ok_jn (fun k24 wk24 => ?_)
        refine Ok_jn (fun k26 wk26 => ?_)
        refine Ok_if ?_ ?_
        · intro h
          have c381 : i2.toInt = i7.toInt := i32eq h
          rw [wk26]
          show Ok (k24 (1 : Int32)) _
          rw [wk24]
          show Ok (jn (fun (_ : Unit) => (fX8_no i10).bind (fun z44 => some ((-9 : Int32), i9, z44, z23.2, f14))) (fun (k29 : Unit → Option (Int32 × Int32 × Int32 × Int32 × (Nat → Int32))) => jn (fun (_ : Unit) => jn (fun (f41 : Nat → Int32) => (fX8_valueNow i4 i7 f41).bind (fun z42 => (fX8_did i9 z42).bind (fun z43 => some (z43.1, z43.2, i10, z23.2, f41)))) (fun (k36 : (Nat → Int32) → Option (Int32 × Int32 × Int32 × Int32 × (Nat → Int32))) => if (1 : Int32) = (0 : Int32) then ((fX8_flowOn f14 i7 i2 i3).bind (fun z38 => (fX8_flowOn z38 i2 i8 i3).bind (fun z39 => k36 z39))) else ((fX8_flowOn f14 i7 i8 i3).bind (fun z40 => k36 z40)))) (fun (k31 : Unit → Option (Int32 × Int32 × Int32 × Int32 × (Nat → Int32))) => if (1 : Int32) = (0 : Int32) then ((fX8_left f13 f14 i7 i2).bind (fun z33 => if z33 < i3 then (k29 ()) else ((fX8_left f13 f14 i2 i8).bind (fun z34 => if i3 ≤ z34 then (k31 ()) else (k29 ()))))) else ((fX8_left f13 f14 i7 i8).bind (fun z35 => if i3 ≤ z35 then (k31 ()) else (k29 ())))))) _
          refine Ok_jn (fun k29 wk29 => ?_)
          refine Ok_jn (fun k31 wk31 => ?_)
          refine Ok_if ?_ ?_
          · intro h
            exact absurd h (by decide)
          · intro h
            refine Ok_bind (ok_X8_left f13 f14 i7 i8 (by first | omega | assumption | (try simp only [tl0, tl1, tl2, tl3, tl4, tl5, tl6, tl8, tl9, tl10, tl50, tl81, tl100, tl1000, tl9999, tlm1, tlm9, tlm50, tl2147483647]; omega)) (by first | omega | assumption | (try simp only [tl0, tl1, tl2, tl3, tl4, tl5, tl6, tl8, tl9, tl10, tl50, tl81, tl100, tl1000, tl9999, tlm1, tlm9, tlm50, tl2147483647]; omega)) (by first | omega | assumption | (try simp only [tl0, tl1, tl2, tl3, tl4, tl5, tl6, tl8, tl9, tl10, tl50, tl81, tl100, tl1000, tl9999, tlm1, tlm9, tlm50, tl2147483647]; omega)) (by first | omega | assumption | (try simp only [tl0, tl1, tl2, tl3, tl4, tl5, tl6, tl8, tl9, tl10, tl50, tl81, tl100, tl1000, tl9999, tlm1, tlm9, tlm50, tl2147483647]; omega))) (fun z35 hz35 => ?_)
            refine Ok_if ?_ ?_
            · intro h
              have c390 : i3.toInt ≤ z35.toInt := i32le h
              rw [wk31]
              show Ok (jn (fun (f41 : Nat → Int32) => (fX8_valueNow i4 i7 f41).bind (fun z42 => (fX8_did i9 z42).bind (fun z43 => some (z43.1, z43.2, i10, z23.2, f41)))) (fun (k36 : (Nat → Int32) → Option (Int32 × Int32 × Int32 × Int32 × (Nat → Int32))) => if (1 : Int32) = (0 : Int32) then ((fX8_flowOn f14 i7 i2 i3).bind (fun z38 => (fX8_flowOn z38 i2 i8 i3).bind (fun z39 => k36 z39))) else ((fX8_flowOn f14 i7 i8 i3).bind (fun z40 => k36 z40)))) _
              refine Ok_jn (fun k36 wk36 => ?_)
              refine Ok_if ?_ ?_
              · intro h
                exact absurd h (by decide)
              · intro h
                refine Ok_bind (ok_X8_flowOn f14 i7 i8 i3 (by first | omega | assumption | (try simp only [tl0, tl1, tl2, tl3, tl4, tl5, tl6, tl8, tl9, tl10, tl50, tl81, tl100, tl1000, tl9999, tlm1, tlm9, tlm50, tl2147483647]; omega)) (by first | omega | assumption | (try simp only [tl0, tl1, tl2, tl3, tl4, tl5, tl6, tl8, tl9, tl10, tl50, tl81, tl100, tl1000, tl9999, tlm1, tlm9, tlm50, tl2147483647]; omega)) (by first | omega | assumption | (try simp only [tl0, tl1, tl2, tl3, tl4, tl5, tl6, tl8, tl9, tl10, tl50, tl81, tl100, tl1000, tl9999, tlm1, tlm9, tlm50, tl2147483647]; omega)) (by first | omega | assumption | (try simp only [tl0, tl1, tl2, tl3, tl4, tl5, tl6, tl8, tl9, tl10, tl50, tl81, tl100, tl1000, tl9999, tlm1, tlm9, tlm50, tl2147483647]; omega))) (fun z40 hz40 => ?_)
                rw [wk36]
                show Ok ((fX8_valueNow i4 i7 z40).bind (fun z42 => (fX8_did i9 z42).bind (fun z43 => some (z43.1, z43.2, i10, z23.2, z40)))) _
                refine Ok_bind (ok_X8_valueNow i4 i7 z40 (by first | omega | assumption | (try simp only [tl0, tl1, tl2, tl3, tl4, tl5, tl6, tl8, tl9, tl10, tl50, tl81, tl100, tl1000, tl9999, tlm1, tlm9, tlm50, tl2147483647]; omega)) (by first | omega | assumption | (try simp only [tl0, tl1, tl2, tl3, tl4, tl5, tl6, tl8, tl9, tl10, tl50, tl81, tl100, tl1000, tl9999, tlm1, tlm9, tlm50, tl2147483647]; omega))) (fun z42 hz42 => ?_)
                refine Ok_bind (ok_X8_did i9 z42) (fun z43 hz43 => ?_)
                exact Ok_some trivial
            · intro h
              have c393 : z35.toInt < i3.toInt := i32nle h
              rw [wk29]
              show Ok ((fX8_no i10).bind (fun z44 => some ((-9 : Int32), i9, z44, z23.2, f14))) _
              refine Ok_bind (ok_X8_no i10) (fun z44 hz44 => ?_)
              exact Ok_some trivial
        · intro h
          have c394 : i2.toInt ≠ i7.toInt := i32ne h
          refine Ok_if ?_ ?_
          · intro h
            have c395 : i2.toInt = i8.toInt := i32eq h
            rw [wk26]
            show Ok (k24 (1 : Int32)) _
            rw [wk24]
            show Ok (jn (fun (_ : Unit) => (fX8_no i10).bind (fun z44 => some ((-9 : Int32), i9, z44, z23.2, f14))) (fun (k29 : Unit → Option (Int32 × Int32 × Int32 × Int32 × (Nat → Int32))) => jn (fun (_ : Unit) => jn (fun (f41 : Nat → Int32) => (fX8_valueNow i4 i7 f41).bind (fun z42 => (fX8_did i9 z42).bind (fun z43 => some (z43.1, z43.2, i10, z23.2, f41)))) (fun (k36 : (Nat → Int32) → Option (Int32 × Int32 × Int32 × Int32 × (Nat → Int32))) => if (1 : Int32) = (0 : Int32) then ((fX8_flowOn f14 i7 i2 i3).bind (fun z38 => (fX8_flowOn z38 i2 i8 i3).bind (fun z39 => k36 z39))) else ((fX8_flowOn f14 i7 i8 i3).bind (fun z40 => k36 z40)))) (fun (k31 : Unit → Option (Int32 × Int32 × Int32 × Int32 × (Nat → Int32))) => if (1 : Int32) = (0 : Int32) then ((fX8_left f13 f14 i7 i2).bind (fun z33 => if z33 < i3 then (k29 ()) else ((fX8_left f13 f14 i2 i8).bind (fun z34 => if i3 ≤ z34 then (k31 ()) else (k29 ()))))) else ((fX8_left f13 f14 i7 i8).bind (fun z35 => if i3 ≤ z35 then (k31 ()) else (k29 ())))))) _
            refine Ok_jn (fun k29 wk29 => ?_)
            refine Ok_jn (fun k31 wk31 => ?_)
            refine Ok_if ?_ ?_
            · intro h
              exact absurd h (by decide)
            · intro h
              refine Ok_bind (ok_X8_left f13 f14 i7 i8 (by first | omega | assumption | (try simp only [tl0, tl1, tl2, tl3, tl4, tl5, tl6, tl8, tl9, tl10, tl50, tl81, tl100, tl1000, tl9999, tlm1, tlm9, tlm50, tl2147483647]; omega)) (by first | omega | assumption | (try simp only [tl0, tl1, tl2, tl3, tl4, tl5, tl6, tl8, tl9, tl10, tl50, tl81, tl100, tl1000, tl9999, tlm1, tlm9, tlm50, tl2147483647]; omega)) (by first | omega | assumption | (try simp only [tl0, tl1, tl2, tl3, tl4, tl5, tl6, tl8, tl9, tl10, tl50, tl81, tl100, tl1000, tl9999, tlm1, tlm9, tlm50, tl2147483647]; omega)) (by first | omega | assumption | (try simp only [tl0, tl1, tl2, tl3, tl4, tl5, tl6, tl8, tl9, tl10, tl50, tl81, tl100, tl1000, tl9999, tlm1, tlm9, tlm50, tl2147483647]; omega))) (fun z35 hz35 => ?_)
              refine Ok_if ?_ ?_
              · intro h
                have c404 : i3.toInt ≤ z35.toInt := i32le h
                rw [wk31]
                show Ok (jn (fun (f41 : Nat → Int32) => (fX8_valueNow i4 i7 f41).bind (fun z42 => (fX8_did i9 z42).bind (fun z43 => some (z43.1, z43.2, i10, z23.2, f41)))) (fun (k36 : (Nat → Int32) → Option (Int32 × Int32 × Int32 × Int32 × (Nat → Int32))) => if (1 : Int32) = (0 : Int32) then ((fX8_flowOn f14 i7 i2 i3).bind (fun z38 => (fX8_flowOn z38 i2 i8 i3).bind (fun z39 => k36 z39))) else ((fX8_flowOn f14 i7 i8 i3).bind (fun z40 => k36 z40)))) _
                refine Ok_jn (fun k36 wk36 => ?_)
                refine Ok_if ?_ ?_
                · intro h
                  exact absurd h (by decide)
                · intro h
                  refine Ok_bind (ok_X8_flowOn f14 i7 i8 i3 (by first | omega | assumption | (try simp only [tl0, tl1, tl2, tl3, tl4, tl5, tl6, tl8, tl9, tl10, tl50, tl81, tl100, tl1000, tl9999, tlm1, tlm9, tlm50, tl2147483647]; omega)) (by first | omega | assumption | (try simp only [tl0, tl1, tl2, tl3, tl4, tl5, tl6, tl8, tl9, tl10, tl50, tl81, tl100, tl1000, tl9999, tlm1, tlm9, tlm50, tl2147483647]; omega)) (by first | omega | assumption | (try simp only [tl0, tl1, tl2, tl3, tl4, tl5, tl6, tl8, tl9, tl10, tl50, tl81, tl100, tl1000, tl9999, tlm1, tlm9, tlm50, tl2147483647]; omega)) (by first | omega | assumption | (try simp only [tl0, tl1, tl2, tl3, tl4, tl5, tl6, tl8, tl9, tl10, tl50, tl81, tl100, tl1000, tl9999, tlm1, tlm9, tlm50, tl2147483647]; omega))) (fun z40 hz40 => ?_)
                  rw [wk36]
                  show Ok ((fX8_valueNow i4 i7 z40).bind (fun z42 => (fX8_did i9 z42).bind (fun z43 => some (z43.1, z43.2, i10, z23.2, z40)))) _
                  refine Ok_bind (ok_X8_valueNow i4 i7 z40 (by first | omega | assumption | (try simp only [tl0, tl1, tl2, tl3, tl4, tl5, tl6, tl8, tl9, tl10, tl50, tl81, tl100, tl1000, tl9999, tlm1, tlm9, tlm50, tl2147483647]; omega)) (by first | omega | assumption | (try simp only [tl0, tl1, tl2, tl3, tl4, tl5, tl6, tl8, tl9, tl10, tl50, tl81, tl100, tl1000, tl9999, tlm1, tlm9, tlm50, tl2147483647]; omega))) (fun z42 hz42 => ?_)
                  refine Ok_bind (ok_X8_did i9 z42) (fun z43 hz43 => ?_)
                  exact Ok_some trivial
              · intro h
                have c407 : z35.toInt < i3.toInt := i32nle h
                rw [wk29]
                show Ok ((fX8_no i10).bind (fun z44 => some ((-9 : Int32), i9, z44, z23.2, f14))) _
                refine Ok_bind (ok_X8_no i10) (fun z44 hz44 => ?_)
                exact Ok_some trivial
          · intro h
            have c408 : i2.toInt ≠ i8.toInt := i32ne h
            rw [wk24]
            show Ok (jn (fun (_ : Unit) => (fX8_no i10).bind (fun z44 => some ((-9 : Int32), i9, z44, z23.2, f14))) (fun (k29 : Unit → Option (Int32 × Int32 × Int32 × Int32 × (Nat → Int32))) => jn (fun (_ : Unit) => jn (fun (f41 : Nat → Int32) => (fX8_valueNow i4 i7 f41).bind (fun z42 => (fX8_did i9 z42).bind (fun z43 => some (z43.1, z43.2, i10, z23.2, f41)))) (fun (k36 : (Nat → Int32) → Option (Int32 × Int32 × Int32 × Int32 × (Nat → Int32))) => if (0 : Int32) = (0 : Int32) then ((fX8_flowOn f14 i7 i2 i3).bind (fun z38 => (fX8_flowOn z38 i2 i8 i3).bind (fun z39 => k36 z39))) else ((fX8_flowOn f14 i7 i8 i3).bind (fun z40 => k36 z40)))) (fun (k31 : Unit → Option (Int32 × Int32 × Int32 × Int32 × (Nat → Int32))) => if (0 : Int32) = (0 : Int32) then ((fX8_left f13 f14 i7 i2).bind (fun z33 => if z33 < i3 then (k29 ()) else ((fX8_left f13 f14 i2 i8).bind (fun z34 => if i3 ≤ z34 then (k31 ()) else (k29 ()))))) else ((fX8_left f13 f14 i7 i8).bind (fun z35 => if i3 ≤ z35 then (k31 ()) else (k29 ())))))) _
            refine Ok_jn (fun k29 wk29 => ?_)
            refine Ok_jn (fun k31 wk31 => ?_)
            refine Ok_if ?_ ?_
            · intro h
              refine Ok_bind (ok_X8_left f13 f14 i7 i2 (by first | omega | assumption | (try simp only [tl0, tl1, tl2, tl3, tl4, tl5, tl6, tl8, tl9, tl10, tl50, tl81, tl100, tl1000, tl9999, tlm1, tlm9, tlm50, tl2147483647]; omega)) (by first | omega | assumption | (try simp only [tl0, tl1, tl2, tl3, tl4, tl5, tl6, tl8, tl9, tl10, tl50, tl81, tl100, tl1000, tl9999, tlm1, tlm9, tlm50, tl2147483647]; omega)) (by first | omega | assumption | (try simp only [tl0, tl1, tl2, tl3, tl4, tl5, tl6, tl8, tl9, tl10, tl50, tl81, tl100, tl1000, tl9999, tlm1, tlm9, tlm50, tl2147483647]; omega)) (by first | omega | assumption | (try simp only [tl0, tl1, tl2, tl3, tl4, tl5, tl6, tl8, tl9, tl10, tl50, tl81, tl100, tl1000, tl9999, tlm1, tlm9, tlm50, tl2147483647]; omega))) (fun z33 hz33 => ?_)
              refine Ok_if ?_ ?_
              · intro h
                have c410 : z33.toInt < i3.toInt := i32lt h
                rw [wk29]
                show Ok ((fX8_no i10).bind (fun z44 => some ((-9 : Int32), i9, z44, z23.2, f14))) _
                refine Ok_bind (ok_X8_no i10) (fun z44 hz44 => ?_)
                exact Ok_some trivial
              · intro h
                have c411 : i3.toInt ≤ z33.toInt := i32nlt h
                refine Ok_bind (ok_X8_left f13 f14 i2 i8 (by first | omega | assumption | (try simp only [tl0, tl1, tl2, tl3, tl4, tl5, tl6, tl8, tl9, tl10, tl50, tl81, tl100, tl1000, tl9999, tlm1, tlm9, tlm50, tl2147483647]; omega)) (by first | omega | assumption | (try simp only [tl0, tl1, tl2, tl3, tl4, tl5, tl6, tl8, tl9, tl10, tl50, tl81, tl100, tl1000, tl9999, tlm1, tlm9, tlm50, tl2147483647]; omega)) (by first | omega | assumption | (try simp only [tl0, tl1, tl2, tl3, tl4, tl5, tl6, tl8, tl9, tl10, tl50, tl81, tl100, tl1000, tl9999, tlm1, tlm9, tlm50, tl2147483647]; omega)) (by first | omega | assumption | (try simp only [tl0, tl1, tl2, tl3, tl4, tl5, tl6, tl8, tl9, tl10, tl50, tl81, tl100, tl1000, tl9999, tlm1, tlm9, tlm50, tl2147483647]; omega))) (fun z34 hz34 => ?_)
                refine Ok_if ?_ ?_
                · intro h
                  have c412 : i3.toInt ≤ z34.toInt := i32le h
                  rw [wk31]
                  show Ok (jn (fun (f41 : Nat → Int32) => (fX8_valueNow i4 i7 f41).bind (fun z42 => (fX8_did i9 z42).bind (fun z43 => some (z43.1, z43.2, i10, z23.2, f41)))) (fun (k36 : (Nat → Int32) → Option (Int32 × Int32 × Int32 × Int32 × (Nat → Int32))) => if (0 : Int32) = (0 : Int32) then ((fX8_flowOn f14 i7 i2 i3).bind (fun z38 => (fX8_flowOn z38 i2 i8 i3).bind (fun z39 => k36 z39))) else ((fX8_flowOn f14 i7 i8 i3).bind (fun z40 => k36 z40)))) _
                  refine Ok_jn (fun k36 wk36 => ?_)
                  refine Ok_if ?_ ?_
                  · intro h
                    refine Ok_bind (ok_X8_flowOn f14 i7 i2 i3 (by first | omega | assumption | (try simp only [tl0, tl1, tl2, tl3, tl4, tl5, tl6, tl8, tl9, tl10, tl50, tl81, tl100, tl1000, tl9999, tlm1, tlm9, tlm50, tl2147483647]; omega)) (by first | omega | assumption | (try simp only [tl0, tl1, tl2, tl3, tl4, tl5, tl6, tl8, tl9, tl10, tl50, tl81, tl100, tl1000, tl9999, tlm1, tlm9, tlm50, tl2147483647]; omega)) (by first | omega | assumption | (try simp only [tl0, tl1, tl2, tl3, tl4, tl5, tl6, tl8, tl9, tl10, tl50, tl81, tl100, tl1000, tl9999, tlm1, tlm9, tlm50, tl2147483647]; omega)) (by first | omega | assumption | (try simp only [tl0, tl1, tl2, tl3, tl4, tl5, tl6, tl8, tl9, tl10, tl50, tl81, tl100, tl1000, tl9999, tlm1, tlm9, tlm50, tl2147483647]; omega))) (fun z38 hz38 => ?_)
                    refine Ok_bind (ok_X8_flowOn z38 i2 i8 i3 (by first | omega | assumption | (try simp only [tl0, tl1, tl2, tl3, tl4, tl5, tl6, tl8, tl9, tl10, tl50, tl81, tl100, tl1000, tl9999, tlm1, tlm9, tlm50, tl2147483647]; omega)) (by first | omega | assumption | (try simp only [tl0, tl1, tl2, tl3, tl4, tl5, tl6, tl8, tl9, tl10, tl50, tl81, tl100, tl1000, tl9999, tlm1, tlm9, tlm50, tl2147483647]; omega)) (by first | omega | assumption | (try simp only [tl0, tl1, tl2, tl3, tl4, tl5, tl6, tl8, tl9, tl10, tl50, tl81, tl100, tl1000, tl9999, tlm1, tlm9, tlm50, tl2147483647]; omega)) (by first | omega | assumption | (try simp only [tl0, tl1, tl2, tl3, tl4, tl5, tl6, tl8, tl9, tl10, tl50, tl81, tl100, tl1000, tl9999, tlm1, tlm9, tlm50, tl2147483647]; omega))) (fun z39 hz39 => ?_)
                    rw [wk36]
                    show Ok ((fX8_valueNow i4 i7 z39).bind (fun z42 => (fX8_did i9 z42).bind (fun z43 => some (z43.1, z43.2, i10, z23.2, z39)))) _
                    refine Ok_bind (ok_X8_valueNow i4 i7 z39 (by first | omega | assumption | (try simp only [tl0, tl1, tl2, tl3, tl4, tl5, tl6, tl8, tl9, tl10, tl50, tl81, tl100, tl1000, tl9999, tlm1, tlm9, tlm50, tl2147483647]; omega)) (by first | omega | assumption | (try simp only [tl0, tl1, tl2, tl3, tl4, tl5, tl6, tl8, tl9, tl10, tl50, tl81, tl100, tl1000, tl9999, tlm1, tlm9, tlm50, tl2147483647]; omega))) (fun z42 hz42 => ?_)
                    refine Ok_bind (ok_X8_did i9 z42) (fun z43 hz43 => ?_)
                    exact Ok_some trivial
                  · intro h
                    exact absurd (show (0 : Int32) = (0 : Int32) by decide) h
                · intro h
                  have c415 : z34.toInt < i3.toInt := i32nle h
                  rw [wk29]
                  show Ok ((fX8_no i10).bind (fun z44 => some ((-9 : Int32), i9, z44, z23.2, f14))) _
                  refine Ok_bind (ok_X8_no i10) (fun z44 hz44 => ?_)
                  exact Ok_some trivial
            · intro h
              exact absurd (show (0 : Int32) = (0 : Int32) by decide) h
      · intro h
        have c421 : z23.1.toInt ≠ 0 := i32ne h
        exact Ok_some trivial
    · intro h
      have c422 : z19.toInt ≠ 0 := i32ne h
      rw [wk20]
      show Ok ((fX8_isThrown (1 : Int32) (0 : Int32)).bind (fun z23 => if z23.1 = (0 : Int32) then (jn (fun (i28 : Int32) => jn (fun (_ : Unit) => (fX8_no i10).bind (fun z44 => some ((-9 : Int32), i9, z44, z23.2, f14))) (fun (k29 : Unit → Option (Int32 × Int32 × Int32 × Int32 × (Nat → Int32))) => jn (fun (_ : Unit) => jn (fun (f41 : Nat → Int32) => (fX8_valueNow i4 i7 f41).bind (fun z42 => (fX8_did i9 z42).bind (fun z43 => some (z43.1, z43.2, i10, z23.2, f41)))) (fun (k36 : (Nat → Int32) → Option (Int32 × Int32 × Int32 × Int32 × (Nat → Int32))) => if i28 = (0 : Int32) then ((fX8_flowOn f14 i7 i2 i3).bind (fun z38 => (fX8_flowOn z38 i2 i8 i3).bind (fun z39 => k36 z39))) else ((fX8_flowOn f14 i7 i8 i3).bind (fun z40 => k36 z40)))) (fun (k31 : Unit → Option (Int32 × Int32 × Int32 × Int32 × (Nat → Int32))) => if i28 = (0 : Int32) then ((fX8_left f13 f14 i7 i2).bind (fun z33 => if z33 < i3 then (k29 ()) else ((fX8_left f13 f14 i2 i8).bind (fun z34 => if i3 ≤ z34 then (k31 ()) else (k29 ()))))) else ((fX8_left f13 f14 i7 i8).bind (fun z35 => if i3 ≤ z35 then (k31 ()) else (k29 ())))))) (fun (k24 : Int32 → Option (Int32 × Int32 × Int32 × Int32 × (Nat → Int32))) => jn (fun (_ : Unit) => k24 (1 : Int32)) (fun (k26 : Unit → Option (Int32 × Int32 × Int32 × Int32 × (Nat → Int32))) => if i2 = i7 then (k26 ()) else (if i2 = i8 then (k26 ()) else (k24 (0 : Int32)))))) else (some ((0 : Int32), i9, i10, z23.2, f14)))) _
      refine Ok_bind (ok_X8_isThrown (1 : Int32) (0 : Int32)) (fun z23 hz23 => ?_)
      try dsimp only at hz23
      try simp only [tl0, tl1, tl2, tl3, tl4, tl5, tl6, tl8, tl9, tl10, tl50, tl81, tl100, tl1000, tl9999, tlm1, tlm9, tlm50, tl2147483647] at hz23
      refine Ok_if ?_ ?_
      · intro h
        have c423 : z23.1.toInt = 0 := i32eq h
        refine Ok_jn (fun k24 wk24 => ?_)
        refine Ok_jn (fun k26 wk26 => ?_)
        refine Ok_if ?_ ?_
        · intro h
          have c424 : i2.toInt = i7.toInt := i32eq h
          rw [wk26]
          show Ok (k24 (1 : Int32)) _
          rw [wk24]
          show Ok (jn (fun (_ : Unit) => (fX8_no i10).bind (fun z44 => some ((-9 : Int32), i9, z44, z23.2, f14))) (fun (k29 : Unit → Option (Int32 × Int32 × Int32 × Int32 × (Nat → Int32))) => jn (fun (_ : Unit) => jn (fun (f41 : Nat → Int32) => (fX8_valueNow i4 i7 f41).bind (fun z42 => (fX8_did i9 z42).bind (fun z43 => some (z43.1, z43.2, i10, z23.2, f41)))) (fun (k36 : (Nat → Int32) → Option (Int32 × Int32 × Int32 × Int32 × (Nat → Int32))) => if (1 : Int32) = (0 : Int32) then ((fX8_flowOn f14 i7 i2 i3).bind (fun z38 => (fX8_flowOn z38 i2 i8 i3).bind (fun z39 => k36 z39))) else ((fX8_flowOn f14 i7 i8 i3).bind (fun z40 => k36 z40)))) (fun (k31 : Unit → Option (Int32 × Int32 × Int32 × Int32 × (Nat → Int32))) => if (1 : Int32) = (0 : Int32) then ((fX8_left f13 f14 i7 i2).bind (fun z33 => if z33 < i3 then (k29 ()) else ((fX8_left f13 f14 i2 i8).bind (fun z34 => if i3 ≤ z34 then (k31 ()) else (k29 ()))))) else ((fX8_left f13 f14 i7 i8).bind (fun z35 => if i3 ≤ z35 then (k31 ()) else (k29 ())))))) _
          refine Ok_jn (fun k29 wk29 => ?_)
          refine Ok_jn (fun k31 wk31 => ?_)
          refine Ok_if ?_ ?_
          · intro h
            exact absurd h (by decide)
          · intro h
            refine Ok_bind (ok_X8_left f13 f14 i7 i8 (by first | omega | assumption | (try simp only [tl0, tl1, tl2, tl3, tl4, tl5, tl6, tl8, tl9, tl10, tl50, tl81, tl100, tl1000, tl9999, tlm1, tlm9, tlm50, tl2147483647]; omega)) (by first | omega | assumption | (try simp only [tl0, tl1, tl2, tl3, tl4, tl5, tl6, tl8, tl9, tl10, tl50, tl81, tl100, tl1000, tl9999, tlm1, tlm9, tlm50, tl2147483647]; omega)) (by first | omega | assumption | (try simp only [tl0, tl1, tl2, tl3, tl4, tl5, tl6, tl8, tl9, tl10, tl50, tl81, tl100, tl1000, tl9999, tlm1, tlm9, tlm50, tl2147483647]; omega)) (by first | omega | assumption | (try simp only [tl0, tl1, tl2, tl3, tl4, tl5, tl6, tl8, tl9, tl10, tl50, tl81, tl100, tl1000, tl9999, tlm1, tlm9, tlm50, tl2147483647]; omega))) (fun z35 hz35 => ?_)
            refine Ok_if ?_ ?_
            · intro h
              have c433 : i3.toInt ≤ z35.toInt := i32le h
              rw [wk31]
              show Ok (jn (fun (f41 : Nat → Int32) => (fX8_valueNow i4 i7 f41).bind (fun z42 => (fX8_did i9 z42).bind (fun z43 => some (z43.1, z43.2, i10, z23.2, f41)))) (fun (k36 : (Nat → Int32) → Option (Int32 × Int32 × Int32 × Int32 × (Nat → Int32))) => if (1 : Int32) = (0 : Int32) then ((fX8_flowOn f14 i7 i2 i3).bind (fun z38 => (fX8_flowOn z38 i2 i8 i3).bind (fun z39 => k36 z39))) else ((fX8_flowOn f14 i7 i8 i3).bind (fun z40 => k36 z40)))) _
              refine Ok_jn (fun k36 wk36 => ?_)
              refine Ok_if ?_ ?_
              · intro h
                exact absurd h (by decide)
              · intro h
                refine Ok_bind (ok_X8_flowOn f14 i7 i8 i3 (by first | omega | assumption | (try simp only [tl0, tl1, tl2, tl3, tl4, tl5, tl6, tl8, tl9, tl10, tl50, tl81, tl100, tl1000, tl9999, tlm1, tlm9, tlm50, tl2147483647]; omega)) (by first | omega | assumption | (try simp only [tl0, tl1, tl2, tl3, tl4, tl5, tl6, tl8, tl9, tl10, tl50, tl81, tl100, tl1000, tl9999, tlm1, tlm9, tlm50, tl2147483647]; omega)) (by first | omega | assumption | (try simp only [tl0, tl1, tl2, tl3, tl4, tl5, tl6, tl8, tl9, tl10, tl50, tl81, tl100, tl1000, tl9999, tlm1, tlm9, tlm50, tl2147483647]; omega)) (by first | omega | assumption | (try simp only [tl0, tl1, tl2, tl3, tl4, tl5, tl6, tl8, tl9, tl10, tl50, tl81, tl100, tl1000, tl9999, tlm1, tlm9, tlm50, tl2147483647]; omega))) (fun z40 hz40 => ?_)
                rw [wk36]
                show Ok ((fX8_valueNow i4 i7 z40).bind (fun z42 => (fX8_did i9 z42).bind (fun z43 => some (z43.1, z43.2, i10, z23.2, z40)))) _
                refine Ok_bind (ok_X8_valueNow i4 i7 z40 (by first | omega | assumption | (try simp only [tl0, tl1, tl2, tl3, tl4, tl5, tl6, tl8, tl9, tl10, tl50, tl81, tl100, tl1000, tl9999, tlm1, tlm9, tlm50, tl2147483647]; omega)) (by first | omega | assumption | (try simp only [tl0, tl1, tl2, tl3, tl4, tl5, tl6, tl8, tl9, tl10, tl50, tl81, tl100, tl1000, tl9999, tlm1, tlm9, tlm50, tl2147483647]; omega))) (fun z42 hz42 => ?_)
                refine Ok_bind (ok_X8_did i9 z42) (fun z43 hz43 => ?_)
                exact Ok_some trivial
            · intro h
              have c436 : z35.toInt < i3.toInt := i32nle h
              rw [wk29]
              show Ok ((fX8_no i10).bind (fun z44 => some ((-9 : Int32), i9, z44, z23.2, f14))) _
              refine Ok_bind (ok_X8_no i10) (fun z44 hz44 => ?_)
              exact Ok_some trivial
        · intro h
          have c437 : i2.toInt ≠ i7.toInt := i32ne h
          refine Ok_if ?_ ?_
          · intro h
            have c438 : i2.toInt = i8.toInt := i32eq h
            rw [wk26]
            show Ok (k24 (1 : Int32)) _
            rw [wk24]
            show Ok (jn (fun (_ : Unit) => (fX8_no i10).bind (fun z44 => some ((-9 : Int32), i9, z44, z23.2, f14))) (fun (k29 : Unit → Option (Int32 × Int32 × Int32 × Int32 × (Nat → Int32))) => jn (fun (_ : Unit) => jn (fun (f41 : Nat → Int32) => (fX8_valueNow i4 i7 f41).bind (fun z42 => (fX8_did i9 z42).bind (fun z43 => some (z43.1, z43.2, i10, z23.2, f41)))) (fun (k36 : (Nat → Int32) → Option (Int32 × Int32 × Int32 × Int32 × (Nat → Int32))) => if (1 : Int32) = (0 : Int32) then ((fX8_flowOn f14 i7 i2 i3).bind (fun z38 => (fX8_flowOn z38 i2 i8 i3).bind (fun z39 => k36 z39))) else ((fX8_flowOn f14 i7 i8 i3).bind (fun z40 => k36 z40)))) (fun (k31 : Unit → Option (Int32 × Int32 × Int32 × Int32 × (Nat → Int32))) => if (1 : Int32) = (0 : Int32) then ((fX8_left f13 f14 i7 i2).bind (fun z33 => if z33 < i3 then (k29 ()) else ((fX8_left f13 f14 i2 i8).bind (fun z34 => if i3 ≤ z34 then (k31 ()) else (k29 ()))))) else ((fX8_left f13 f14 i7 i8).bind (fun z35 => if i3 ≤ z35 then (k31 ()) else (k29 ())))))) _
            refine Ok_jn (fun k29 wk29 => ?_)
            refine Ok_jn (fun k31 wk31 => ?_)
            refine Ok_if ?_ ?_
            · intro h
              exact absurd h (by decide)
            · intro h
              refine Ok_bind (ok_X8_left f13 f14 i7 i8 (by first | omega | assumption | (try simp only [tl0, tl1, tl2, tl3, tl4, tl5, tl6, tl8, tl9, tl10, tl50, tl81, tl100, tl1000, tl9999, tlm1, tlm9, tlm50, tl2147483647]; omega)) (by first | omega | assumption | (try simp only [tl0, tl1, tl2, tl3, tl4, tl5, tl6, tl8, tl9, tl10, tl50, tl81, tl100, tl1000, tl9999, tlm1, tlm9, tlm50, tl2147483647]; omega)) (by first | omega | assumption | (try simp only [tl0, tl1, tl2, tl3, tl4, tl5, tl6, tl8, tl9, tl10, tl50, tl81, tl100, tl1000, tl9999, tlm1, tlm9, tlm50, tl2147483647]; omega)) (by first | omega | assumption | (try simp only [tl0, tl1, tl2, tl3, tl4, tl5, tl6, tl8, tl9, tl10, tl50, tl81, tl100, tl1000, tl9999, tlm1, tlm9, tlm50, tl2147483647]; omega))) (fun z35 hz35 => ?_)
              refine Ok_if ?_ ?_
              · intro h
                have c447 : i3.toInt ≤ z35.toInt := i32le h
                rw [wk31]
                show Ok (jn (fun (f41 : Nat → Int32) => (fX8_valueNow i4 i7 f41).bind (fun z42 => (fX8_did i9 z42).bind (fun z43 => some (z43.1, z43.2, i10, z23.2, f41)))) (fun (k36 : (Nat → Int32) → Option (Int32 × Int32 × Int32 × Int32 × (Nat → Int32))) => if (1 : Int32) = (0 : Int32) then ((fX8_flowOn f14 i7 i2 i3).bind (fun z38 => (fX8_flowOn z38 i2 i8 i3).bind (fun z39 => k36 z39))) else ((fX8_flowOn f14 i7 i8 i3).bind (fun z40 => k36 z40)))) _
                refine Ok_jn (fun k36 wk36 => ?_)
                refine Ok_if ?_ ?_
                · intro h
                  exact absurd h (by decide)
                · intro h
                  refine Ok_bind (ok_X8_flowOn f14 i7 i8 i3 (by first | omega | assumption | (try simp only [tl0, tl1, tl2, tl3, tl4, tl5, tl6, tl8, tl9, tl10, tl50, tl81, tl100, tl1000, tl9999, tlm1, tlm9, tlm50, tl2147483647]; omega)) (by first | omega | assumption | (try simp only [tl0, tl1, tl2, tl3, tl4, tl5, tl6, tl8, tl9, tl10, tl50, tl81, tl100, tl1000, tl9999, tlm1, tlm9, tlm50, tl2147483647]; omega)) (by first | omega | assumption | (try simp only [tl0, tl1, tl2, tl3, tl4, tl5, tl6, tl8, tl9, tl10, tl50, tl81, tl100, tl1000, tl9999, tlm1, tlm9, tlm50, tl2147483647]; omega)) (by first | omega | assumption | (try simp only [tl0, tl1, tl2, tl3, tl4, tl5, tl6, tl8, tl9, tl10, tl50, tl81, tl100, tl1000, tl9999, tlm1, tlm9, tlm50, tl2147483647]; omega))) (fun z40 hz40 => ?_)
                  rw [wk36]
                  show Ok ((fX8_valueNow i4 i7 z40).bind (fun z42 => (fX8_did i9 z42).bind (fun z43 => some (z43.1, z43.2, i10, z23.2, z40)))) _
                  refine Ok_bind (ok_X8_valueNow i4 i7 z40 (by first | omega | assumption | (try simp only [tl0, tl1, tl2, tl3, tl4, tl5, tl6, tl8, tl9, tl10, tl50, tl81, tl100, tl1000, tl9999, tlm1, tlm9, tlm50, tl2147483647]; omega)) (by first | omega | assumption | (try simp only [tl0, tl1, tl2, tl3, tl4, tl5, tl6, tl8, tl9, tl10, tl50, tl81, tl100, tl1000, tl9999, tlm1, tlm9, tlm50, tl2147483647]; omega))) (fun z42 hz42 => ?_)
                  refine Ok_bind (ok_X8_did i9 z42) (fun z43 hz43 => ?_)
                  exact Ok_some trivial
              · intro h
                have c450 : z35.toInt < i3.toInt := i32nle h
                rw [wk29]
                show Ok ((fX8_no i10).bind (fun z44 => some ((-9 : Int32), i9, z44, z23.2, f14))) _
                refine Ok_bind (ok_X8_no i10) (fun z44 hz44 => ?_)
                exact Ok_some trivial
          · intro h
            have c451 : i2.toInt ≠ i8.toInt := i32ne h
            rw [wk24]
            show Ok (jn (fun (_ : Unit) => (fX8_no i10).bind (fun z44 => some ((-9 : Int32), i9, z44, z23.2, f14))) (fun (k29 : Unit → Option (Int32 × Int32 × Int32 × Int32 × (Nat → Int32))) => jn (fun (_ : Unit) => jn (fun (f41 : Nat → Int32) => (fX8_valueNow i4 i7 f41).bind (fun z42 => (fX8_did i9 z42).bind (fun z43 => some (z43.1, z43.2, i10, z23.2, f41)))) (fun (k36 : (Nat → Int32) → Option (Int32 × Int32 × Int32 × Int32 × (Nat → Int32))) => if (0 : Int32) = (0 : Int32) then ((fX8_flowOn f14 i7 i2 i3).bind (fun z38 => (fX8_flowOn z38 i2 i8 i3).bind (fun z39 => k36 z39))) else ((fX8_flowOn f14 i7 i8 i3).bind (fun z40 => k36 z40)))) (fun (k31 : Unit → Option (Int32 × Int32 × Int32 × Int32 × (Nat → Int32))) => if (0 : Int32) = (0 : Int32) then ((fX8_left f13 f14 i7 i2).bind (fun z33 => if z33 < i3 then (k29 ()) else ((fX8_left f13 f14 i2 i8).bind (fun z34 => if i3 ≤ z34 then (k31 ()) else (k29 ()))))) else ((fX8_left f13 f14 i7 i8).bind (fun z35 => if i3 ≤ z35 then (k31 ()) else (k29 ())))))) _
            refine Ok_jn (fun k29 wk29 => ?_)
            refine Ok_jn (fun k31 wk31 => ?_)
            refine Ok_if ?_ ?_
            · intro h
              refine Ok_bind (ok_X8_left f13 f14 i7 i2 (by first | omega | assumption | (try simp only [tl0, tl1, tl2, tl3, tl4, tl5, tl6, tl8, tl9, tl10, tl50, tl81, tl100, tl1000, tl9999, tlm1, tlm9, tlm50, tl2147483647]; omega)) (by first | omega | assumption | (try simp only [tl0, tl1, tl2, tl3, tl4, tl5, tl6, tl8, tl9, tl10, tl50, tl81, tl100, tl1000, tl9999, tlm1, tlm9, tlm50, tl2147483647]; omega)) (by first | omega | assumption | (try simp only [tl0, tl1, tl2, tl3, tl4, tl5, tl6, tl8, tl9, tl10, tl50, tl81, tl100, tl1000, tl9999, tlm1, tlm9, tlm50, tl2147483647]; omega)) (by first | omega | assumption | (try simp only [tl0, tl1, tl2, tl3, tl4, tl5, tl6, tl8, tl9, tl10, tl50, tl81, tl100, tl1000, tl9999, tlm1, tlm9, tlm50, tl2147483647]; omega))) (fun z33 hz33 => ?_)
              refine Ok_if ?_ ?_
              · intro h
                have c453 : z33.toInt < i3.toInt := i32lt h
                rw [wk29]
                show Ok ((fX8_no i10).bind (fun z44 => some ((-9 : Int32), i9, z44, z23.2, f14))) _
                refine Ok_bind (ok_X8_no i10) (fun z44 hz44 => ?_)
                exact Ok_some trivial
              · intro h
                have c454 : i3.toInt ≤ z33.toInt := i32nlt h
                refine Ok_bind (ok_X8_left f13 f14 i2 i8 (by first | omega | assumption | (try simp only [tl0, tl1, tl2, tl3, tl4, tl5, tl6, tl8, tl9, tl10, tl50, tl81, tl100, tl1000, tl9999, tlm1, tlm9, tlm50, tl2147483647]; omega)) (by first | omega | assumption | (try simp only [tl0, tl1, tl2, tl3, tl4, tl5, tl6, tl8, tl9, tl10, tl50, tl81, tl100, tl1000, tl9999, tlm1, tlm9, tlm50, tl2147483647]; omega)) (by first | omega | assumption | (try simp only [tl0, tl1, tl2, tl3, tl4, tl5, tl6, tl8, tl9, tl10, tl50, tl81, tl100, tl1000, tl9999, tlm1, tlm9, tlm50, tl2147483647]; omega)) (by first | omega | assumption | (try simp only [tl0, tl1, tl2, tl3, tl4, tl5, tl6, tl8, tl9, tl10, tl50, tl81, tl100, tl1000, tl9999, tlm1, tlm9, tlm50, tl2147483647]; omega))) (fun z34 hz34 => ?_)
                refine Ok_if ?_ ?_
                · intro h
                  have c455 : i3.toInt ≤ z34.toInt := i32le h
                  rw [wk31]
                  show Ok (jn (fun (f41 : Nat → Int32) => (fX8_valueNow i4 i7 f41).bind (fun z42 => (fX8_did i9 z42).bind (fun z43 => some (z43.1, z43.2, i10, z23.2, f41)))) (fun (k36 : (Nat → Int32) → Option (Int32 × Int32 × Int32 × Int32 × (Nat → Int32))) => if (0 : Int32) = (0 : Int32) then ((fX8_flowOn f14 i7 i2 i3).bind (fun z38 => (fX8_flowOn z38 i2 i8 i3).bind (fun z39 => k36 z39))) else ((fX8_flowOn f14 i7 i8 i3).bind (fun z40 => k36 z40)))) _
                  refine Ok_jn (fun k36 wk36 => ?_)
                  refine Ok_if ?_ ?_
                  · intro h
                    refine Ok_bind (ok_X8_flowOn f14 i7 i2 i3 (by first | omega | assumption | (try simp only [tl0, tl1, tl2, tl3, tl4, tl5, tl6, tl8, tl9, tl10, tl50, tl81, tl100, tl1000, tl9999, tlm1, tlm9, tlm50, tl2147483647]; omega)) (by first | omega | assumption | (try simp only [tl0, tl1, tl2, tl3, tl4, tl5, tl6, tl8, tl9, tl10, tl50, tl81, tl100, tl1000, tl9999, tlm1, tlm9, tlm50, tl2147483647]; omega)) (by first | omega | assumption | (try simp only [tl0, tl1, tl2, tl3, tl4, tl5, tl6, tl8, tl9, tl10, tl50, tl81, tl100, tl1000, tl9999, tlm1, tlm9, tlm50, tl2147483647]; omega)) (by first | omega | assumption | (try simp only [tl0, tl1, tl2, tl3, tl4, tl5, tl6, tl8, tl9, tl10, tl50, tl81, tl100, tl1000, tl9999, tlm1, tlm9, tlm50, tl2147483647]; omega))) (fun z38 hz38 => ?_)
                    refine Ok_bind (ok_X8_flowOn z38 i2 i8 i3 (by first | omega | assumption | (try simp only [tl0, tl1, tl2, tl3, tl4, tl5, tl6, tl8, tl9, tl10, tl50, tl81, tl100, tl1000, tl9999, tlm1, tlm9, tlm50, tl2147483647]; omega)) (by first | omega | assumption | (try simp only [tl0, tl1, tl2, tl3, tl4, tl5, tl6, tl8, tl9, tl10, tl50, tl81, tl100, tl1000, tl9999, tlm1, tlm9, tlm50, tl2147483647]; omega)) (by first | omega | assumption | (try simp only [tl0, tl1, tl2, tl3, tl4, tl5, tl6, tl8, tl9, tl10, tl50, tl81, tl100, tl1000, tl9999, tlm1, tlm9, tlm50, tl2147483647]; omega)) (by first | omega | assumption | (try simp only [tl0, tl1, tl2, tl3, tl4, tl5, tl6, tl8, tl9, tl10, tl50, tl81, tl100, tl1000, tl9999, tlm1, tlm9, tlm50, tl2147483647]; omega))) (fun z39 hz39 => ?_)
                    rw [wk36]
                    show Ok ((fX8_valueNow i4 i7 z39).bind (fun z42 => (fX8_did i9 z42).bind (fun z43 => some (z43.1, z43.2, i10, z23.2, z39)))) _
                    refine Ok_bind (ok_X8_valueNow i4 i7 z39 (by first | omega | assumption | (try simp only [tl0, tl1, tl2, tl3, tl4, tl5, tl6, tl8, tl9, tl10, tl50, tl81, tl100, tl1000, tl9999, tlm1, tlm9, tlm50, tl2147483647]; omega)) (by first | omega | assumption | (try simp only [tl0, tl1, tl2, tl3, tl4, tl5, tl6, tl8, tl9, tl10, tl50, tl81, tl100, tl1000, tl9999, tlm1, tlm9, tlm50, tl2147483647]; omega))) (fun z42 hz42 => ?_)
                    refine Ok_bind (ok_X8_did i9 z42) (fun z43 hz43 => ?_)
                    exact Ok_some trivial
                  · intro h
                    exact absurd (show (0 : Int32) = (0 : Int32) by decide) h
                · intro h
                  have c458 : z34.toInt < i3.toInt := i32nle h
                  rw [wk29]
                  show Ok ((fX8_no i10).bind (fun z44 => some ((-9 : Int32), i9, z44, z23.2, f14))) _
                  refine Ok_bind (ok_X8_no i10) (fun z44 hz44 => ?_)
                  exact Ok_some trivial
            · intro h
              exact absurd (show (0 : Int32) = (0 : Int32) by decide) h
      · intro h
        have c464 : z23.1.toInt ≠ 0 := i32ne h
        exact Ok_some trivial
  · intro h
    have c465 : z15.toInt ≠ 0 := i32ne h
    rw [wk16]
    show Ok ((fX8_isRoom i3).bind (fun z19 => jn (fun (i22 : Int32) => (fX8_isThrown (0 : Int32) i22).bind (fun z23 => if z23.1 = (0 : Int32) then (jn (fun (i28 : Int32) => jn (fun (_ : Unit) => (fX8_no i10).bind (fun z44 => some ((-9 : Int32), i9, z44, z23.2, f14))) (fun (k29 : Unit → Option (Int32 × Int32 × Int32 × Int32 × (Nat → Int32))) => jn (fun (_ : Unit) => jn (fun (f41 : Nat → Int32) => (fX8_valueNow i4 i7 f41).bind (fun z42 => (fX8_did i9 z42).bind (fun z43 => some (z43.1, z43.2, i10, z23.2, f41)))) (fun (k36 : (Nat → Int32) → Option (Int32 × Int32 × Int32 × Int32 × (Nat → Int32))) => if i28 = (0 : Int32) then ((fX8_flowOn f14 i7 i2 i3).bind (fun z38 => (fX8_flowOn z38 i2 i8 i3).bind (fun z39 => k36 z39))) else ((fX8_flowOn f14 i7 i8 i3).bind (fun z40 => k36 z40)))) (fun (k31 : Unit → Option (Int32 × Int32 × Int32 × Int32 × (Nat → Int32))) => if i28 = (0 : Int32) then ((fX8_left f13 f14 i7 i2).bind (fun z33 => if z33 < i3 then (k29 ()) else ((fX8_left f13 f14 i2 i8).bind (fun z34 => if i3 ≤ z34 then (k31 ()) else (k29 ()))))) else ((fX8_left f13 f14 i7 i8).bind (fun z35 => if i3 ≤ z35 then (k31 ()) else (k29 ())))))) (fun (k24 : Int32 → Option (Int32 × Int32 × Int32 × Int32 × (Nat → Int32))) => jn (fun (_ : Unit) => k24 (1 : Int32)) (fun (k26 : Unit → Option (Int32 × Int32 × Int32 × Int32 × (Nat → Int32))) => if i2 = i7 then (k26 ()) else (if i2 = i8 then (k26 ()) else (k24 (0 : Int32)))))) else (some ((0 : Int32), i9, i10, z23.2, f14)))) (fun (k20 : Int32 → Option (Int32 × Int32 × Int32 × Int32 × (Nat → Int32))) => if z19 = (0 : Int32) then (k20 (1 : Int32)) else (k20 (0 : Int32))))) _
    refine Ok_bind (ok_X8_isRoom i3) (fun z19 hz19 => ?_)
    try dsimp only at hz19
    try simp only [tl0, tl1, tl2, tl3, tl4, tl5, tl6, tl8, tl9, tl10, tl50, tl81, tl100, tl1000, tl9999, tlm1, tlm9, tlm50, tl2147483647] at hz19
    refine Ok_jn (fun k20 wk20 => ?_)
    refine Ok_if ?_ ?_
    · intro h
      have c466 : z19.toInt = 0 := i32eq h
      rw [wk20]
      show Ok ((fX8_isThrown (0 : Int32) (1 : Int32)).bind (fun z23 => if z23.1 = (0 : Int32) then (jn (fun (i28 : Int32) => jn (fun (_ : Unit) => (fX8_no i10).bind (fun z44 => some ((-9 : Int32), i9, z44, z23.2, f14))) (fun (k29 : Unit → Option (Int32 × Int32 × Int32 × Int32 × (Nat → Int32))) => jn (fun (_ : Unit) => jn (fun (f41 : Nat → Int32) => (fX8_valueNow i4 i7 f41).bind (fun z42 => (fX8_did i9 z42).bind (fun z43 => some (z43.1, z43.2, i10, z23.2, f41)))) (fun (k36 : (Nat → Int32) → Option (Int32 × Int32 × Int32 × Int32 × (Nat → Int32))) => if i28 = (0 : Int32) then ((fX8_flowOn f14 i7 i2 i3).bind (fun z38 => (fX8_flowOn z38 i2 i8 i3).bind (fun z39 => k36 z39))) else ((fX8_flowOn f14 i7 i8 i3).bind (fun z40 => k36 z40)))) (fun (k31 : Unit → Option (Int32 × Int32 × Int32 × Int32 × (Nat → Int32))) => if i28 = (0 : Int32) then ((fX8_left f13 f14 i7 i2).bind (fun z33 => if z33 < i3 then (k29 ()) else ((fX8_left f13 f14 i2 i8).bind (fun z34 => if i3 ≤ z34 then (k31 ()) else (k29 ()))))) else ((fX8_left f13 f14 i7 i8).bind (fun z35 => if i3 ≤ z35 then (k31 ()) else (k29 ())))))) (fun (k24 : Int32 → Option (Int32 × Int32 × Int32 × Int32 × (Nat → Int32))) => jn (fun (_ : Unit) => k24 (1 : Int32)) (fun (k26 : Unit → Option (Int32 × Int32 × Int32 × Int32 × (Nat → Int32))) => if i2 = i7 then (k26 ()) else (if i2 = i8 then (k26 ()) else (k24 (0 : Int32)))))) else (some ((0 : Int32), i9, i10, z23.2, f14)))) _
      refine Ok_bind (ok_X8_isThrown (0 : Int32) (1 : Int32)) (fun z23 hz23 => ?_)
      try dsimp only at hz23
      try simp only [tl0, tl1, tl2, tl3, tl4, tl5, tl6, tl8, tl9, tl10, tl50, tl81, tl100, tl1000, tl9999, tlm1, tlm9, tlm50, tl2147483647] at hz23
      refine Ok_if ?_ ?_
      · intro h
        have c467 : z23.1.toInt = 0 := i32eq h
        refine Ok_jn (fun k24 wk24 => ?_)
        refine Ok_jn (fun k26 wk26 => ?_)
        refine Ok_if ?_ ?_
        · intro h
          have c468 : i2.toInt = i7.toInt := i32eq h
          rw [wk26]
          show Ok (k24 (1 : Int32)) _
          rw [wk24]
          show Ok (jn (fun (_ : Unit) => (fX8_no i10).bind (fun z44 => some ((-9 : Int32), i9, z44, z23.2, f14))) (fun (k29 : Unit → Option (Int32 × Int32 × Int32 × Int32 × (Nat → Int32))) => jn (fun (_ : Unit) => jn (fun (f41 : Nat → Int32) => (fX8_valueNow i4 i7 f41).bind (fun z42 => (fX8_did i9 z42).bind (fun z43 => some (z43.1, z43.2, i10, z23.2, f41)))) (fun (k36 : (Nat → Int32) → Option (Int32 × Int32 × Int32 × Int32 × (Nat → Int32))) => if (1 : Int32) = (0 : Int32) then ((fX8_flowOn f14 i7 i2 i3).bind (fun z38 => (fX8_flowOn z38 i2 i8 i3).bind (fun z39 => k36 z39))) else ((fX8_flowOn f14 i7 i8 i3).bind (fun z40 => k36 z40)))) (fun (k31 : Unit → Option (Int32 × Int32 × Int32 × Int32 × (Nat → Int32))) => if (1 : Int32) = (0 : Int32) then ((fX8_left f13 f14 i7 i2).bind (fun z33 => if z33 < i3 then (k29 ()) else ((fX8_left f13 f14 i2 i8).bind (fun z34 => if i3 ≤ z34 then (k31 ()) else (k29 ()))))) else ((fX8_left f13 f14 i7 i8).bind (fun z35 => if i3 ≤ z35 then (k31 ()) else (k29 ())))))) _
          refine Ok_jn (fun k29 wk29 => ?_)
          refine Ok_jn (fun k31 wk31 => ?_)
          refine Ok_if ?_ ?_
          · intro h
            exact absurd h (by decide)
          · intro h
            refine Ok_bind (ok_X8_left f13 f14 i7 i8 (by first | omega | assumption | (try simp only [tl0, tl1, tl2, tl3, tl4, tl5, tl6, tl8, tl9, tl10, tl50, tl81, tl100, tl1000, tl9999, tlm1, tlm9, tlm50, tl2147483647]; omega)) (by first | omega | assumption | (try simp only [tl0, tl1, tl2, tl3, tl4, tl5, tl6, tl8, tl9, tl10, tl50, tl81, tl100, tl1000, tl9999, tlm1, tlm9, tlm50, tl2147483647]; omega)) (by first | omega | assumption | (try simp only [tl0, tl1, tl2, tl3, tl4, tl5, tl6, tl8, tl9, tl10, tl50, tl81, tl100, tl1000, tl9999, tlm1, tlm9, tlm50, tl2147483647]; omega)) (by first | omega | assumption | (try simp only [tl0, tl1, tl2, tl3, tl4, tl5, tl6, tl8, tl9, tl10, tl50, tl81, tl100, tl1000, tl9999, tlm1, tlm9, tlm50, tl2147483647]; omega))) (fun z35 hz35 => ?_)
            refine Ok_if ?_ ?_
            · intro h
              have c477 : i3.toInt ≤ z35.toInt := i32le h
              rw [wk31]
              show Ok (jn (fun (f41 : Nat → Int32) => (fX8_valueNow i4 i7 f41).bind (fun z42 => (fX8_did i9 z42).bind (fun z43 => some (z43.1, z43.2, i10, z23.2, f41)))) (fun (k36 : (Nat → Int32) → Option (Int32 × Int32 × Int32 × Int32 × (Nat → Int32))) => if (1 : Int32) = (0 : Int32) then ((fX8_flowOn f14 i7 i2 i3).bind (fun z38 => (fX8_flowOn z38 i2 i8 i3).bind (fun z39 => k36 z39))) else ((fX8_flowOn f14 i7 i8 i3).bind (fun z40 => k36 z40)))) _
              refine Ok_jn (fun k36 wk36 => ?_)
              refine Ok_if ?_ ?_
              · intro h
                exact absurd h (by decide)
              · intro h
                refine Ok_bind (ok_X8_flowOn f14 i7 i8 i3 (by first | omega | assumption | (try simp only [tl0, tl1, tl2, tl3, tl4, tl5, tl6, tl8, tl9, tl10, tl50, tl81, tl100, tl1000, tl9999, tlm1, tlm9, tlm50, tl2147483647]; omega)) (by first | omega | assumption | (try simp only [tl0, tl1, tl2, tl3, tl4, tl5, tl6, tl8, tl9, tl10, tl50, tl81, tl100, tl1000, tl9999, tlm1, tlm9, tlm50, tl2147483647]; omega)) (by first | omega | assumption | (try simp only [tl0, tl1, tl2, tl3, tl4, tl5, tl6, tl8, tl9, tl10, tl50, tl81, tl100, tl1000, tl9999, tlm1, tlm9, tlm50, tl2147483647]; omega)) (by first | omega | assumption | (try simp only [tl0, tl1, tl2, tl3, tl4, tl5, tl6, tl8, tl9, tl10, tl50, tl81, tl100, tl1000, tl9999, tlm1, tlm9, tlm50, tl2147483647]; omega))) (fun z40 hz40 => ?_)
                rw [wk36]
                show Ok ((fX8_valueNow i4 i7 z40).bind (fun z42 => (fX8_did i9 z42).bind (fun z43 => some (z43.1, z43.2, i10, z23.2, z40)))) _
                refine Ok_bind (ok_X8_valueNow i4 i7 z40 (by first | omega | assumption | (try simp only [tl0, tl1, tl2, tl3, tl4, tl5, tl6, tl8, tl9, tl10, tl50, tl81, tl100, tl1000, tl9999, tlm1, tlm9, tlm50, tl2147483647]; omega)) (by first | omega | assumption | (try simp only [tl0, tl1, tl2, tl3, tl4, tl5, tl6, tl8, tl9, tl10, tl50, tl81, tl100, tl1000, tl9999, tlm1, tlm9, tlm50, tl2147483647]; omega))) (fun z42 hz42 => ?_)
                refine Ok_bind (ok_X8_did i9 z42) (fun z43 hz43 => ?_)
                exact Ok_some trivial
            · intro h
              have c480 : z35.toInt < i3.toInt := i32nle h
              rw [wk29]
              show Ok ((fX8_no i10).bind (fun z44 => some ((-9 : Int32), i9, z44, z23.2, f14))) _
              refine Ok_bind (ok_X8_no i10) (fun z44 hz44 => ?_)
              exact Ok_some trivial
        · intro h
          have c481 : i2.toInt ≠ i7.toInt := i32ne h
          refine Ok_if ?_ ?_
          · intro h
            have c482 : i2.toInt = i8.toInt := i32eq h
            rw [wk26]
            show Ok (k24 (1 : Int32)) _
            rw [wk24]
            show Ok (jn (fun (_ : Unit) => (fX8_no i10).bind (fun z44 => some ((-9 : Int32), i9, z44, z23.2, f14))) (fun (k29 : Unit → Option (Int32 × Int32 × Int32 × Int32 × (Nat → Int32))) => jn (fun (_ : Unit) => jn (fun (f41 : Nat → Int32) => (fX8_valueNow i4 i7 f41).bind (fun z42 => (fX8_did i9 z42).bind (fun z43 => some (z43.1, z43.2, i10, z23.2, f41)))) (fun (k36 : (Nat → Int32) → Option (Int32 × Int32 × Int32 × Int32 × (Nat → Int32))) => if (1 : Int32) = (0 : Int32) then ((fX8_flowOn f14 i7 i2 i3).bind (fun z38 => (fX8_flowOn z38 i2 i8 i3).bind (fun z39 => k36 z39))) else ((fX8_flowOn f14 i7 i8 i3).bind (fun z40 => k36 z40)))) (fun (k31 : Unit → Option (Int32 × Int32 × Int32 × Int32 × (Nat → Int32))) => if (1 : Int32) = (0 : Int32) then ((fX8_left f13 f14 i7 i2).bind (fun z33 => if z33 < i3 then (k29 ()) else ((fX8_left f13 f14 i2 i8).bind (fun z34 => if i3 ≤ z34 then (k31 ()) else (k29 ()))))) else ((fX8_left f13 f14 i7 i8).bind (fun z35 => if i3 ≤ z35 then (k31 ()) else (k29 ())))))) _
            refine Ok_jn (fun k29 wk29 => ?_)
            refine Ok_jn (fun k31 wk31 => ?_)
            refine Ok_if ?_ ?_
            · intro h
              exact absurd h (by decide)
            · intro h
              refine Ok_bind (ok_X8_left f13 f14 i7 i8 (by first | omega | assumption | (try simp only [tl0, tl1, tl2, tl3, tl4, tl5, tl6, tl8, tl9, tl10, tl50, tl81, tl100, tl1000, tl9999, tlm1, tlm9, tlm50, tl2147483647]; omega)) (by first | omega | assumption | (try simp only [tl0, tl1, tl2, tl3, tl4, tl5, tl6, tl8, tl9, tl10, tl50, tl81, tl100, tl1000, tl9999, tlm1, tlm9, tlm50, tl2147483647]; omega)) (by first | omega | assumption | (try simp only [tl0, tl1, tl2, tl3, tl4, tl5, tl6, tl8, tl9, tl10, tl50, tl81, tl100, tl1000, tl9999, tlm1, tlm9, tlm50, tl2147483647]; omega)) (by first | omega | assumption | (try simp only [tl0, tl1, tl2, tl3, tl4, tl5, tl6, tl8, tl9, tl10, tl50, tl81, tl100, tl1000, tl9999, tlm1, tlm9, tlm50, tl2147483647]; omega))) (fun z35 hz35 => ?_)
              refine Ok_if ?_ ?_
              · intro h
                have c491 : i3.toInt ≤ z35.toInt := i32le h
                rw [wk31]
                show Ok (jn (fun (f41 : Nat → Int32) => (fX8_valueNow i4 i7 f41).bind (fun z42 => (fX8_did i9 z42).bind (fun z43 => some (z43.1, z43.2, i10, z23.2, f41)))) (fun (k36 : (Nat → Int32) → Option (Int32 × Int32 × Int32 × Int32 × (Nat → Int32))) => if (1 : Int32) = (0 : Int32) then ((fX8_flowOn f14 i7 i2 i3).bind (fun z38 => (fX8_flowOn z38 i2 i8 i3).bind (fun z39 => k36 z39))) else ((fX8_flowOn f14 i7 i8 i3).bind (fun z40 => k36 z40)))) _
                refine Ok_jn (fun k36 wk36 => ?_)
                refine Ok_if ?_ ?_
                · intro h
                  exact absurd h (by decide)
                · intro h
                  refine Ok_bind (ok_X8_flowOn f14 i7 i8 i3 (by first | omega | assumption | (try simp only [tl0, tl1, tl2, tl3, tl4, tl5, tl6, tl8, tl9, tl10, tl50, tl81, tl100, tl1000, tl9999, tlm1, tlm9, tlm50, tl2147483647]; omega)) (by first | omega | assumption | (try simp only [tl0, tl1, tl2, tl3, tl4, tl5, tl6, tl8, tl9, tl10, tl50, tl81, tl100, tl1000, tl9999, tlm1, tlm9, tlm50, tl2147483647]; omega)) (by first | omega | assumption | (try simp only [tl0, tl1, tl2, tl3, tl4, tl5, tl6, tl8, tl9, tl10, tl50, tl81, tl100, tl1000, tl9999, tlm1, tlm9, tlm50, tl2147483647]; omega)) (by first | omega | assumption | (try simp only [tl0, tl1, tl2, tl3, tl4, tl5, tl6, tl8, tl9, tl10, tl50, tl81, tl100, tl1000, tl9999, tlm1, tlm9, tlm50, tl2147483647]; omega))) (fun z40 hz40 => ?_)
                  rw [wk36]
                  show Ok ((fX8_valueNow i4 i7 z40).bind (fun z42 => (fX8_did i9 z42).bind (fun z43 => some (z43.1, z43.2, i10, z23.2, z40)))) _
                  refine Ok_bind (ok_X8_valueNow i4 i7 z40 (by first | omega | assumption | (try simp only [tl0, tl1, tl2, tl3, tl4, tl5, tl6, tl8, tl9, tl10, tl50, tl81, tl100, tl1000, tl9999, tlm1, tlm9, tlm50, tl2147483647]; omega)) (by first | omega | assumption | (try simp only [tl0, tl1, tl2, tl3, tl4, tl5, tl6, tl8, tl9, tl10, tl50, tl81, tl100, tl1000, tl9999, tlm1, tlm9, tlm50, tl2147483647]; omega))) (fun z42 hz42 => ?_)
                  refine Ok_bind (ok_X8_did i9 z42) (fun z43 hz43 => ?_)
                  exact Ok_some trivial
              · intro h
                have c494 : z35.toInt < i3.toInt := i32nle h
                rw [wk29]
                show Ok ((fX8_no i10).bind (fun z44 => some ((-9 : Int32), i9, z44, z23.2, f14))) _
                refine Ok_bind (ok_X8_no i10) (fun z44 hz44 => ?_)
                exact Ok_some trivial
          · intro h
            have c495 : i2.toInt ≠ i8.toInt := i32ne h
            rw [wk24]
            show Ok (jn (fun (_ : Unit) => (fX8_no i10).bind (fun z44 => some ((-9 : Int32), i9, z44, z23.2, f14))) (fun (k29 : Unit → Option (Int32 × Int32 × Int32 × Int32 × (Nat → Int32))) => jn (fun (_ : Unit) => jn (fun (f41 : Nat → Int32) => (fX8_valueNow i4 i7 f41).bind (fun z42 => (fX8_did i9 z42).bind (fun z43 => some (z43.1, z43.2, i10, z23.2, f41)))) (fun (k36 : (Nat → Int32) → Option (Int32 × Int32 × Int32 × Int32 × (Nat → Int32))) => if (0 : Int32) = (0 : Int32) then ((fX8_flowOn f14 i7 i2 i3).bind (fun z38 => (fX8_flowOn z38 i2 i8 i3).bind (fun z39 => k36 z39))) else ((fX8_flowOn f14 i7 i8 i3).bind (fun z40 => k36 z40)))) (fun (k31 : Unit → Option (Int32 × Int32 × Int32 × Int32 × (Nat → Int32))) => if (0 : Int32) = (0 : Int32) then ((fX8_left f13 f14 i7 i2).bind (fun z33 => if z33 < i3 then (k29 ()) else ((fX8_left f13 f14 i2 i8).bind (fun z34 => if i3 ≤ z34 then (k31 ()) else (k29 ()))))) else ((fX8_left f13 f14 i7 i8).bind (fun z35 => if i3 ≤ z35 then (k31 ()) else (k29 ())))))) _
            refine Ok_jn (fun k29 wk29 => ?_)
            refine Ok_jn (fun k31 wk31 => ?_)
            refine Ok_if ?_ ?_
            · intro h
              refine Ok_bind (ok_X8_left f13 f14 i7 i2 (by first | omega | assumption | (try simp only [tl0, tl1, tl2, tl3, tl4, tl5, tl6, tl8, tl9, tl10, tl50, tl81, tl100, tl1000, tl9999, tlm1, tlm9, tlm50, tl2147483647]; omega)) (by first | omega | assumption | (try simp only [tl0, tl1, tl2, tl3, tl4, tl5, tl6, tl8, tl9, tl10, tl50, tl81, tl100, tl1000, tl9999, tlm1, tlm9, tlm50, tl2147483647]; omega)) (by first | omega | assumption | (try simp only [tl0, tl1, tl2, tl3, tl4, tl5, tl6, tl8, tl9, tl10, tl50, tl81, tl100, tl1000, tl9999, tlm1, tlm9, tlm50, tl2147483647]; omega)) (by first | omega | assumption | (try simp only [tl0, tl1, tl2, tl3, tl4, tl5, tl6, tl8, tl9, tl10, tl50, tl81, tl100, tl1000, tl9999, tlm1, tlm9, tlm50, tl2147483647]; omega))) (fun z33 hz33 => ?_)
              refine Ok_if ?_ ?_
              · intro h
                have c497 : z33.toInt < i3.toInt := i32lt h
                rw [wk29]
                show Ok ((fX8_no i10).bind (fun z44 => some ((-9 : Int32), i9, z44, z23.2, f14))) _
                refine Ok_bind (ok_X8_no i10) (fun z44 hz44 => ?_)
                exact Ok_some trivial
              · intro h
                have c498 : i3.toInt ≤ z33.toInt := i32nlt h
                refine Ok_bind (ok_X8_left f13 f14 i2 i8 (by first | omega | assumption | (try simp only [tl0, tl1, tl2, tl3, tl4, tl5, tl6, tl8, tl9, tl10, tl50, tl81, tl100, tl1000, tl9999, tlm1, tlm9, tlm50, tl2147483647]; omega)) (by first | omega | assumption | (try simp only [tl0, tl1, tl2, tl3, tl4, tl5, tl6, tl8, tl9, tl10, tl50, tl81, tl100, tl1000, tl9999, tlm1, tlm9, tlm50, tl2147483647]; omega)) (by first | omega | assumption | (try simp only [tl0, tl1, tl2, tl3, tl4, tl5, tl6, tl8, tl9, tl10, tl50, tl81, tl100, tl1000, tl9999, tlm1, tlm9, tlm50, tl2147483647]; omega)) (by first | omega | assumption | (try simp only [tl0, tl1, tl2, tl3, tl4, tl5, tl6, tl8, tl9, tl10, tl50, tl81, tl100, tl1000, tl9999, tlm1, tlm9, tlm50, tl2147483647]; omega))) (fun z34 hz34 => ?_)
                refine Ok_if ?_ ?_
                · intro h
                  have c499 : i3.toInt ≤ z34.toInt := i32le h
                  rw [wk31]
                  show Ok (jn (fun (f41 : Nat → Int32) => (fX8_valueNow i4 i7 f41).bind (fun z42 => (fX8_did i9 z42).bind (fun z43 => some (z43.1, z43.2, i10, z23.2, f41)))) (fun (k36 : (Nat → Int32) → Option (Int32 × Int32 × Int32 × Int32 × (Nat → Int32))) => if (0 : Int32) = (0 : Int32) then ((fX8_flowOn f14 i7 i2 i3).bind (fun z38 => (fX8_flowOn z38 i2 i8 i3).bind (fun z39 => k36 z39))) else ((fX8_flowOn f14 i7 i8 i3).bind (fun z40 => k36 z40)))) _
                  refine Ok_jn (fun k36 wk36 => ?_)
                  refine Ok_if ?_ ?_
                  · intro h
                    refine Ok_bind (ok_X8_flowOn f14 i7 i2 i3 (by first | omega | assumption | (try simp only [tl0, tl1, tl2, tl3, tl4, tl5, tl6, tl8, tl9, tl10, tl50, tl81, tl100, tl1000, tl9999, tlm1, tlm9, tlm50, tl2147483647]; omega)) (by first | omega | assumption | (try simp only [tl0, tl1, tl2, tl3, tl4, tl5, tl6, tl8, tl9, tl10, tl50, tl81, tl100, tl1000, tl9999, tlm1, tlm9, tlm50, tl2147483647]; omega)) (by first | omega | assumption | (try simp only [tl0, tl1, tl2, tl3, tl4, tl5, tl6, tl8, tl9, tl10, tl50, tl81, tl100, tl1000, tl9999, tlm1, tlm9, tlm50, tl2147483647]; omega)) (by first | omega | assumption | (try simp only [tl0, tl1, tl2, tl3, tl4, tl5, tl6, tl8, tl9, tl10, tl50, tl81, tl100, tl1000, tl9999, tlm1, tlm9, tlm50, tl2147483647]; omega))) (fun z38 hz38 => ?_)
                    refine Ok_bind (ok_X8_flowOn z38 i2 i8 i3 (by first | omega | assumption | (try simp only [tl0, tl1, tl2, tl3, tl4, tl5, tl6, tl8, tl9, tl10, tl50, tl81, tl100, tl1000, tl9999, tlm1, tlm9, tlm50, tl2147483647]; omega)) (by first | omega | assumption | (try simp only [tl0, tl1, tl2, tl3, tl4, tl5, tl6, tl8, tl9, tl10, tl50, tl81, tl100, tl1000, tl9999, tlm1, tlm9, tlm50, tl2147483647]; omega)) (by first | omega | assumption | (try simp only [tl0, tl1, tl2, tl3, tl4, tl5, tl6, tl8, tl9, tl10, tl50, tl81, tl100, tl1000, tl9999, tlm1, tlm9, tlm50, tl2147483647]; omega)) (by first | omega | assumption | (try simp only [tl0, tl1, tl2, tl3, tl4, tl5, tl6, tl8, tl9, tl10, tl50, tl81, tl100, tl1000, tl9999, tlm1, tlm9, tlm50, tl2147483647]; omega))) (fun z39 hz39 => ?_)
                    rw [wk36]
                    show Ok ((fX8_valueNow i4 i7 z39).bind (fun z42 => (fX8_did i9 z42).bind (fun z43 => some (z43.1, z43.2, i10, z23.2, z39)))) _
                    refine Ok_bind (ok_X8_valueNow i4 i7 z39 (by first | omega | assumption | (try simp only [tl0, tl1, tl2, tl3, tl4, tl5, tl6, tl8, tl9, tl10, tl50, tl81, tl100, tl1000, tl9999, tlm1, tlm9, tlm50, tl2147483647]; omega)) (by first | omega | assumption | (try simp only [tl0, tl1, tl2, tl3, tl4, tl5, tl6, tl8, tl9, tl10, tl50, tl81, tl100, tl1000, tl9999, tlm1, tlm9, tlm50, tl2147483647]; omega))) (fun z42 hz42 => ?_)
                    refine Ok_bind (ok_X8_did i9 z42) (fun z43 hz43 => ?_)
                    exact Ok_some trivial
                  · intro h
                    exact absurd (show (0 : Int32) = (0 : Int32) by decide) h
                · intro h
                  have c502 : z34.toInt < i3.toInt := i32nle h
                  rw [wk29]
                  show Ok ((fX8_no i10).bind (fun z44 => some ((-9 : Int32), i9, z44, z23.2, f14))) _
                  refine Ok_bind (ok_X8_no i10) (fun z44 hz44 => ?_)
                  exact Ok_some trivial
            · intro h
              exact absurd (show (0 : Int32) = (0 : Int32) by decide) h
      · intro h
        have c508 : z23.1.toInt ≠ 0 := i32ne h
        exact Ok_some trivial
    · intro h
      have c509 : z19.toInt ≠ 0 := i32ne h
      rw [wk20]
      show Ok ((fX8_isThrown (0 : Int32) (0 : Int32)).bind (fun z23 => if z23.1 = (0 : Int32) then (jn (fun (i28 : Int32) => jn (fun (_ : Unit) => (fX8_no i10).bind (fun z44 => some ((-9 : Int32), i9, z44, z23.2, f14))) (fun (k29 : Unit → Option (Int32 × Int32 × Int32 × Int32 × (Nat → Int32))) => jn (fun (_ : Unit) => jn (fun (f41 : Nat → Int32) => (fX8_valueNow i4 i7 f41).bind (fun z42 => (fX8_did i9 z42).bind (fun z43 => some (z43.1, z43.2, i10, z23.2, f41)))) (fun (k36 : (Nat → Int32) → Option (Int32 × Int32 × Int32 × Int32 × (Nat → Int32))) => if i28 = (0 : Int32) then ((fX8_flowOn f14 i7 i2 i3).bind (fun z38 => (fX8_flowOn z38 i2 i8 i3).bind (fun z39 => k36 z39))) else ((fX8_flowOn f14 i7 i8 i3).bind (fun z40 => k36 z40)))) (fun (k31 : Unit → Option (Int32 × Int32 × Int32 × Int32 × (Nat → Int32))) => if i28 = (0 : Int32) then ((fX8_left f13 f14 i7 i2).bind (fun z33 => if z33 < i3 then (k29 ()) else ((fX8_left f13 f14 i2 i8).bind (fun z34 => if i3 ≤ z34 then (k31 ()) else (k29 ()))))) else ((fX8_left f13 f14 i7 i8).bind (fun z35 => if i3 ≤ z35 then (k31 ()) else (k29 ())))))) (fun (k24 : Int32 → Option (Int32 × Int32 × Int32 × Int32 × (Nat → Int32))) => jn (fun (_ : Unit) => k24 (1 : Int32)) (fun (k26 : Unit → Option (Int32 × Int32 × Int32 × Int32 × (Nat → Int32))) => if i2 = i7 then (k26 ()) else (if i2 = i8 then (k26 ()) else (k24 (0 : Int32)))))) else (some ((0 : Int32), i9, i10, z23.2, f14)))) _
      refine Ok_bind (ok_X8_isThrown (0 : Int32) (0 : Int32)) (fun z23 hz23 => ?_)
      try dsimp only at hz23
      try simp only [tl0, tl1, tl2, tl3, tl4, tl5, tl6, tl8, tl9, tl10, tl50, tl81, tl100, tl1000, tl9999, tlm1, tlm9, tlm50, tl2147483647] at hz23
      refine Ok_if ?_ ?_
      · intro h
        have c510 : z23.1.toInt = 0 := i32eq h
        refine Ok_jn (fun k24 wk24 => ?_)
        refine Ok_jn (fun k26 wk26 => ?_)
        refine Ok_if ?_ ?_
        · intro h
          have c511 : i2.toInt = i7.toInt := i32eq h
          rw [wk26]
          show Ok (k24 (1 : Int32)) _
          rw [wk24]
          show Ok (jn (fun (_ : Unit) => (fX8_no i10).bind (fun z44 => some ((-9 : Int32), i9, z44, z23.2, f14))) (fun (k29 : Unit → Option (Int32 × Int32 × Int32 × Int32 × (Nat → Int32))) => jn (fun (_ : Unit) => jn (fun (f41 : Nat → Int32) => (fX8_valueNow i4 i7 f41).bind (fun z42 => (fX8_did i9 z42).bind (fun z43 => some (z43.1, z43.2, i10, z23.2, f41)))) (fun (k36 : (Nat → Int32) → Option (Int32 × Int32 × Int32 × Int32 × (Nat → Int32))) => if (1 : Int32) = (0 : Int32) then ((fX8_flowOn f14 i7 i2 i3).bind (fun z38 => (fX8_flowOn z38 i2 i8 i3).bind (fun z39 => k36 z39))) else ((fX8_flowOn f14 i7 i8 i3).bind (fun z40 => k36 z40)))) (fun (k31 : Unit → Option (Int32 × Int32 × Int32 × Int32 × (Nat → Int32))) => if (1 : Int32) = (0 : Int32) then ((fX8_left f13 f14 i7 i2).bind (fun z33 => if z33 < i3 then (k29 ()) else ((fX8_left f13 f14 i2 i8).bind (fun z34 => if i3 ≤ z34 then (k31 ()) else (k29 ()))))) else ((fX8_left f13 f14 i7 i8).bind (fun z35 => if i3 ≤ z35 then (k31 ()) else (k29 ())))))) _
          refine Ok_jn (fun k29 wk29 => ?_)
          refine Ok_jn (fun k31 wk31 => ?_)
          refine Ok_if ?_ ?_
          · intro h
            exact absurd h (by decide)
          · intro h
            refine Ok_bind (ok_X8_left f13 f14 i7 i8 (by first | omega | assumption | (try simp only [tl0, tl1, tl2, tl3, tl4, tl5, tl6, tl8, tl9, tl10, tl50, tl81, tl100, tl1000, tl9999, tlm1, tlm9, tlm50, tl2147483647]; omega)) (by first | omega | assumption | (try simp only [tl0, tl1, tl2, tl3, tl4, tl5, tl6, tl8, tl9, tl10, tl50, tl81, tl100, tl1000, tl9999, tlm1, tlm9, tlm50, tl2147483647]; omega)) (by first | omega | assumption | (try simp only [tl0, tl1, tl2, tl3, tl4, tl5, tl6, tl8, tl9, tl10, tl50, tl81, tl100, tl1000, tl9999, tlm1, tlm9, tlm50, tl2147483647]; omega)) (by first | omega | assumption | (try simp only [tl0, tl1, tl2, tl3, tl4, tl5, tl6, tl8, tl9, tl10, tl50, tl81, tl100, tl1000, tl9999, tlm1, tlm9, tlm50, tl2147483647]; omega))) (fun z35 hz35 => ?_)
            refine Ok_if ?_ ?_
            · intro h
              have c520 : i3.toInt ≤ z35.toInt := i32le h
              rw [wk31]
              show Ok (jn (fun (f41 : Nat → Int32) => (fX8_valueNow i4 i7 f41).bind (fun z42 => (fX8_did i9 z42).bind (fun z43 => some (z43.1, z43.2, i10, z23.2, f41)))) (fun (k36 : (Nat → Int32) → Option (Int32 × Int32 × Int32 × Int32 × (Nat → Int32))) => if (1 : Int32) = (0 : Int32) then ((fX8_flowOn f14 i7 i2 i3).bind (fun z38 => (fX8_flowOn z38 i2 i8 i3).bind (fun z39 => k36 z39))) else ((fX8_flowOn f14 i7 i8 i3).bind (fun z40 => k36 z40)))) _
              refine Ok_jn (fun k36 wk36 => ?_)
              refine Ok_if ?_ ?_
              · intro h
                exact absurd h (by decide)
              · intro h
                refine Ok_bind (ok_X8_flowOn f14 i7 i8 i3 (by first | omega | assumption | (try simp only [tl0, tl1, tl2, tl3, tl4, tl5, tl6, tl8, tl9, tl10, tl50, tl81, tl100, tl1000, tl9999, tlm1, tlm9, tlm50, tl2147483647]; omega)) (by first | omega | assumption | (try simp only [tl0, tl1, tl2, tl3, tl4, tl5, tl6, tl8, tl9, tl10, tl50, tl81, tl100, tl1000, tl9999, tlm1, tlm9, tlm50, tl2147483647]; omega)) (by first | omega | assumption | (try simp only [tl0, tl1, tl2, tl3, tl4, tl5, tl6, tl8, tl9, tl10, tl50, tl81, tl100, tl1000, tl9999, tlm1, tlm9, tlm50, tl2147483647]; omega)) (by first | omega | assumption | (try simp only [tl0, tl1, tl2, tl3, tl4, tl5, tl6, tl8, tl9, tl10, tl50, tl81, tl100, tl1000, tl9999, tlm1, tlm9, tlm50, tl2147483647]; omega))) (fun z40 hz40 => ?_)
                rw [wk36]
                show Ok ((fX8_valueNow i4 i7 z40).bind (fun z42 => (fX8_did i9 z42).bind (fun z43 => some (z43.1, z43.2, i10, z23.2, z40)))) _
                refine Ok_bind (ok_X8_valueNow i4 i7 z40 (by first | omega | assumption | (try simp only [tl0, tl1, tl2, tl3, tl4, tl5, tl6, tl8, tl9, tl10, tl50, tl81, tl100, tl1000, tl9999, tlm1, tlm9, tlm50, tl2147483647]; omega)) (by first | omega | assumption | (try simp only [tl0, tl1, tl2, tl3, tl4, tl5, tl6, tl8, tl9, tl10, tl50, tl81, tl100, tl1000, tl9999, tlm1, tlm9, tlm50, tl2147483647]; omega))) (fun z42 hz42 => ?_)
                refine Ok_bind (ok_X8_did i9 z42) (fun z43 hz43 => ?_)
                exact Ok_some trivial
            · intro h
              have c523 : z35.toInt < i3.toInt := i32nle h
              rw [wk29]
              show Ok ((fX8_no i10).bind (fun z44 => some ((-9 : Int32), i9, z44, z23.2, f14))) _
              refine Ok_bind (ok_X8_no i10) (fun z44 hz44 => ?_)
              exact Ok_some trivial
        · intro h
          have c524 : i2.toInt ≠ i7.toInt := i32ne h
          refine Ok_if ?_ ?_
          · intro h
            have c525 : i2.toInt = i8.toInt := i32eq h
            rw [wk26]
            show Ok (k24 (1 : Int32)) _
            rw [wk24]
            show Ok (jn (fun (_ : Unit) => (fX8_no i10).bind (fun z44 => some ((-9 : Int32), i9, z44, z23.2, f14))) (fun (k29 : Unit → Option (Int32 × Int32 × Int32 × Int32 × (Nat → Int32))) => jn (fun (_ : Unit) => jn (fun (f41 : Nat → Int32) => (fX8_valueNow i4 i7 f41).bind (fun z42 => (fX8_did i9 z42).bind (fun z43 => some (z43.1, z43.2, i10, z23.2, f41)))) (fun (k36 : (Nat → Int32) → Option (Int32 × Int32 × Int32 × Int32 × (Nat → Int32))) => if (1 : Int32) = (0 : Int32) then ((fX8_flowOn f14 i7 i2 i3).bind (fun z38 => (fX8_flowOn z38 i2 i8 i3).bind (fun z39 => k36 z39))) else ((fX8_flowOn f14 i7 i8 i3).bind (fun z40 => k36 z40)))) (fun (k31 : Unit → Option (Int32 × Int32 × Int32 × Int32 × (Nat → Int32))) => if (1 : Int32) = (0 : Int32) then ((fX8_left f13 f14 i7 i2).bind (fun z33 => if z33 < i3 then (k29 ()) else ((fX8_left f13 f14 i2 i8).bind (fun z34 => if i3 ≤ z34 then (k31 ()) else (k29 ()))))) else ((fX8_left f13 f14 i7 i8).bind (fun z35 => if i3 ≤ z35 then (k31 ()) else (k29 ())))))) _
            refine Ok_jn (fun k29 wk29 => ?_)
            refine Ok_jn (fun k31 wk31 => ?_)
            refine Ok_if ?_ ?_
            · intro h
              exact absurd h (by decide)
            · intro h
              refine Ok_bind (ok_X8_left f13 f14 i7 i8 (by first | omega | assumption | (try simp only [tl0, tl1, tl2, tl3, tl4, tl5, tl6, tl8, tl9, tl10, tl50, tl81, tl100, tl1000, tl9999, tlm1, tlm9, tlm50, tl2147483647]; omega)) (by first | omega | assumption | (try simp only [tl0, tl1, tl2, tl3, tl4, tl5, tl6, tl8, tl9, tl10, tl50, tl81, tl100, tl1000, tl9999, tlm1, tlm9, tlm50, tl2147483647]; omega)) (by first | omega | assumption | (try simp only [tl0, tl1, tl2, tl3, tl4, tl5, tl6, tl8, tl9, tl10, tl50, tl81, tl100, tl1000, tl9999, tlm1, tlm9, tlm50, tl2147483647]; omega)) (by first | omega | assumption | (try simp only [tl0, tl1, tl2, tl3, tl4, tl5, tl6, tl8, tl9, tl10, tl50, tl81, tl100, tl1000, tl9999, tlm1, tlm9, tlm50, tl2147483647]; omega))) (fun z35 hz35 => ?_)
              refine Ok_if ?_ ?_
              · intro h
                have c534 : i3.toInt ≤ z35.toInt := i32le h
                rw [wk31]
                show Ok (jn (fun (f41 : Nat → Int32) => (fX8_valueNow i4 i7 f41).bind (fun z42 => (fX8_did i9 z42).bind (fun z43 => some (z43.1, z43.2, i10, z23.2, f41)))) (fun (k36 : (Nat → Int32) → Option (Int32 × Int32 × Int32 × Int32 × (Nat → Int32))) => if (1 : Int32) = (0 : Int32) then ((fX8_flowOn f14 i7 i2 i3).bind (fun z38 => (fX8_flowOn z38 i2 i8 i3).bind (fun z39 => k36 z39))) else ((fX8_flowOn f14 i7 i8 i3).bind (fun z40 => k36 z40)))) _
                refine Ok_jn (fun k36 wk36 => ?_)
                refine Ok_if ?_ ?_
                · intro h
                  exact absurd h (by decide)
                · intro h
                  refine Ok_bind (ok_X8_flowOn f14 i7 i8 i3 (by first | omega | assumption | (try simp only [tl0, tl1, tl2, tl3, tl4, tl5, tl6, tl8, tl9, tl10, tl50, tl81, tl100, tl1000, tl9999, tlm1, tlm9, tlm50, tl2147483647]; omega)) (by first | omega | assumption | (try simp only [tl0, tl1, tl2, tl3, tl4, tl5, tl6, tl8, tl9, tl10, tl50, tl81, tl100, tl1000, tl9999, tlm1, tlm9, tlm50, tl2147483647]; omega)) (by first | omega | assumption | (try simp only [tl0, tl1, tl2, tl3, tl4, tl5, tl6, tl8, tl9, tl10, tl50, tl81, tl100, tl1000, tl9999, tlm1, tlm9, tlm50, tl2147483647]; omega)) (by first | omega | assumption | (try simp only [tl0, tl1, tl2, tl3, tl4, tl5, tl6, tl8, tl9, tl10, tl50, tl81, tl100, tl1000, tl9999, tlm1, tlm9, tlm50, tl2147483647]; omega))) (fun z40 hz40 => ?_)
                  rw [wk36]
                  show Ok ((fX8_valueNow i4 i7 z40).bind (fun z42 => (fX8_did i9 z42).bind (fun z43 => some (z43.1, z43.2, i10, z23.2, z40)))) _
                  refine Ok_bind (ok_X8_valueNow i4 i7 z40 (by first | omega | assumption | (try simp only [tl0, tl1, tl2, tl3, tl4, tl5, tl6, tl8, tl9, tl10, tl50, tl81, tl100, tl1000, tl9999, tlm1, tlm9, tlm50, tl2147483647]; omega)) (by first | omega | assumption | (try simp only [tl0, tl1, tl2, tl3, tl4, tl5, tl6, tl8, tl9, tl10, tl50, tl81, tl100, tl1000, tl9999, tlm1, tlm9, tlm50, tl2147483647]; omega))) (fun z42 hz42 => ?_)
                  refine Ok_bind (ok_X8_did i9 z42) (fun z43 hz43 => ?_)
                  exact Ok_some trivial
              · intro h
                have c537 : z35.toInt < i3.toInt := i32nle h
                rw [wk29]
                show Ok ((fX8_no i10).bind (fun z44 => some ((-9 : Int32), i9, z44, z23.2, f14))) _
                refine Ok_bind (ok_X8_no i10) (fun z44 hz44 => ?_)
                exact Ok_some trivial
          · intro h
            have c538 : i2.toInt ≠ i8.toInt := i32ne h
            rw [wk24]
            show Ok (jn (fun (_ : Unit) => (fX8_no i10).bind (fun z44 => some ((-9 : Int32), i9, z44, z23.2, f14))) (fun (k29 : Unit → Option (Int32 × Int32 × Int32 × Int32 × (Nat → Int32))) => jn (fun (_ : Unit) => jn (fun (f41 : Nat → Int32) => (fX8_valueNow i4 i7 f41).bind (fun z42 => (fX8_did i9 z42).bind (fun z43 => some (z43.1, z43.2, i10, z23.2, f41)))) (fun (k36 : (Nat → Int32) → Option (Int32 × Int32 × Int32 × Int32 × (Nat → Int32))) => if (0 : Int32) = (0 : Int32) then ((fX8_flowOn f14 i7 i2 i3).bind (fun z38 => (fX8_flowOn z38 i2 i8 i3).bind (fun z39 => k36 z39))) else ((fX8_flowOn f14 i7 i8 i3).bind (fun z40 => k36 z40)))) (fun (k31 : Unit → Option (Int32 × Int32 × Int32 × Int32 × (Nat → Int32))) => if (0 : Int32) = (0 : Int32) then ((fX8_left f13 f14 i7 i2).bind (fun z33 => if z33 < i3 then (k29 ()) else ((fX8_left f13 f14 i2 i8).bind (fun z34 => if i3 ≤ z34 then (k31 ()) else (k29 ()))))) else ((fX8_left f13 f14 i7 i8).bind (fun z35 => if i3 ≤ z35 then (k31 ()) else (k29 ())))))) _
            refine Ok_jn (fun k29 wk29 => ?_)
            refine Ok_jn (fun k31 wk31 => ?_)
            refine Ok_if ?_ ?_
            · intro h
              refine Ok_bind (ok_X8_left f13 f14 i7 i2 (by first | omega | assumption | (try simp only [tl0, tl1, tl2, tl3, tl4, tl5, tl6, tl8, tl9, tl10, tl50, tl81, tl100, tl1000, tl9999, tlm1, tlm9, tlm50, tl2147483647]; omega)) (by first | omega | assumption | (try simp only [tl0, tl1, tl2, tl3, tl4, tl5, tl6, tl8, tl9, tl10, tl50, tl81, tl100, tl1000, tl9999, tlm1, tlm9, tlm50, tl2147483647]; omega)) (by first | omega | assumption | (try simp only [tl0, tl1, tl2, tl3, tl4, tl5, tl6, tl8, tl9, tl10, tl50, tl81, tl100, tl1000, tl9999, tlm1, tlm9, tlm50, tl2147483647]; omega)) (by first | omega | assumption | (try simp only [tl0, tl1, tl2, tl3, tl4, tl5, tl6, tl8, tl9, tl10, tl50, tl81, tl100, tl1000, tl9999, tlm1, tlm9, tlm50, tl2147483647]; omega))) (fun z33 hz33 => ?_)
              refine Ok_if ?_ ?_
              · intro h
                have c540 : z33.toInt < i3.toInt := i32lt h
                rw [wk29]
                show Ok ((fX8_no i10).bind (fun z44 => some ((-9 : Int32), i9, z44, z23.2, f14))) _
                refine Ok_bind (ok_X8_no i10) (fun z44 hz44 => ?_)
                exact Ok_some trivial
              · intro h
                have c541 : i3.toInt ≤ z33.toInt := i32nlt h
                refine Ok_bind (ok_X8_left f13 f14 i2 i8 (by first | omega | assumption | (try simp only [tl0, tl1, tl2, tl3, tl4, tl5, tl6, tl8, tl9, tl10, tl50, tl81, tl100, tl1000, tl9999, tlm1, tlm9, tlm50, tl2147483647]; omega)) (by first | omega | assumption | (try simp only [tl0, tl1, tl2, tl3, tl4, tl5, tl6, tl8, tl9, tl10, tl50, tl81, tl100, tl1000, tl9999, tlm1, tlm9, tlm50, tl2147483647]; omega)) (by first | omega | assumption | (try simp only [tl0, tl1, tl2, tl3, tl4, tl5, tl6, tl8, tl9, tl10, tl50, tl81, tl100, tl1000, tl9999, tlm1, tlm9, tlm50, tl2147483647]; omega)) (by first | omega | assumption | (try simp only [tl0, tl1, tl2, tl3, tl4, tl5, tl6, tl8, tl9, tl10, tl50, tl81, tl100, tl1000, tl9999, tlm1, tlm9, tlm50, tl2147483647]; omega))) (fun z34 hz34 => ?_)
                refine Ok_if ?_ ?_
                · intro h
                  have c542 : i3.toInt ≤ z34.toInt := i32le h
                  rw [wk31]
                  show Ok (jn (fun (f41 : Nat → Int32) => (fX8_valueNow i4 i7 f41).bind (fun z42 => (fX8_did i9 z42).bind (fun z43 => some (z43.1, z43.2, i10, z23.2, f41)))) (fun (k36 : (Nat → Int32) → Option (Int32 × Int32 × Int32 × Int32 × (Nat → Int32))) => if (0 : Int32) = (0 : Int32) then ((fX8_flowOn f14 i7 i2 i3).bind (fun z38 => (fX8_flowOn z38 i2 i8 i3).bind (fun z39 => k36 z39))) else ((fX8_flowOn f14 i7 i8 i3).bind (fun z40 => k36 z40)))) _
                  refine Ok_jn (fun k36 wk36 => ?_)
                  refine Ok_if ?_ ?_
                  · intro h
                    refine Ok_bind (ok_X8_flowOn f14 i7 i2 i3 (by first | omega | assumption | (try simp only [tl0, tl1, tl2, tl3, tl4, tl5, tl6, tl8, tl9, tl10, tl50, tl81, tl100, tl1000, tl9999, tlm1, tlm9, tlm50, tl2147483647]; omega)) (by first | omega | assumption | (try simp only [tl0, tl1, tl2, tl3, tl4, tl5, tl6, tl8, tl9, tl10, tl50, tl81, tl100, tl1000, tl9999, tlm1, tlm9, tlm50, tl2147483647]; omega)) (by first | omega | assumption | (try simp only [tl0, tl1, tl2, tl3, tl4, tl5, tl6, tl8, tl9, tl10, tl50, tl81, tl100, tl1000, tl9999, tlm1, tlm9, tlm50, tl2147483647]; omega)) (by first | omega | assumption | (try simp only [tl0, tl1, tl2, tl3, tl4, tl5, tl6, tl8, tl9, tl10, tl50, tl81, tl100, tl1000, tl9999, tlm1, tlm9, tlm50, tl2147483647]; omega))) (fun z38 hz38 => ?_)
                    refine Ok_bind (ok_X8_flowOn z38 i2 i8 i3 (by first | omega | assumption | (try simp only [tl0, tl1, tl2, tl3, tl4, tl5, tl6, tl8, tl9, tl10, tl50, tl81, tl100, tl1000, tl9999, tlm1, tlm9, tlm50, tl2147483647]; omega)) (by first | omega | assumption | (try simp only [tl0, tl1, tl2, tl3, tl4, tl5, tl6, tl8, tl9, tl10, tl50, tl81, tl100, tl1000, tl9999, tlm1, tlm9, tlm50, tl2147483647]; omega)) (by first | omega | assumption | (try simp only [tl0, tl1, tl2, tl3, tl4, tl5, tl6, tl8, tl9, tl10, tl50, tl81, tl100, tl1000, tl9999, tlm1, tlm9, tlm50, tl2147483647]; omega)) (by first | omega | assumption | (try simp only [tl0, tl1, tl2, tl3, tl4, tl5, tl6, tl8, tl9, tl10, tl50, tl81, tl100, tl1000, tl9999, tlm1, tlm9, tlm50, tl2147483647]; omega))) (fun z39 hz39 => ?_)
                    rw [wk36]
                    show Ok ((fX8_valueNow i4 i7 z39).bind (fun z42 => (fX8_did i9 z42).bind (fun z43 => some (z43.1, z43.2, i10, z23.2, z39)))) _
                    refine Ok_bind (ok_X8_valueNow i4 i7 z39 (by first | omega | assumption | (try simp only [tl0, tl1, tl2, tl3, tl4, tl5, tl6, tl8, tl9, tl10, tl50, tl81, tl100, tl1000, tl9999, tlm1, tlm9, tlm50, tl2147483647]; omega)) (by first | omega | assumption | (try simp only [tl0, tl1, tl2, tl3, tl4, tl5, tl6, tl8, tl9, tl10, tl50, tl81, tl100, tl1000, tl9999, tlm1, tlm9, tlm50, tl2147483647]; omega))) (fun z42 hz42 => ?_)
                    refine Ok_bind (ok_X8_did i9 z42) (fun z43 hz43 => ?_)
                    exact Ok_some trivial
                  · intro h
                    exact absurd (show (0 : Int32) = (0 : Int32) by decide) h
                · intro h
                  have c545 : z34.toInt < i3.toInt := i32nle h
                  rw [wk29]
                  show Ok ((fX8_no i10).bind (fun z44 => some ((-9 : Int32), i9, z44, z23.2, f14))) _
                  refine Ok_bind (ok_X8_no i10) (fun z44 hz44 => ?_)
                  exact Ok_some trivial
            · intro h
              exact absurd (show (0 : Int32) = (0 : Int32) by decide) h
      · intro h
        have c551 : z23.1.toInt ≠ 0 := i32ne h
        exact Ok_some trivial
set_option maxRecDepth 4000 in
theorem okL_X8_flowing_L13 (f11 : Nat → Int32)     : ∀ (n : Nat) (i30 : Int32) (i31 : Int32), 0 ≤ i31.toInt → 81 - i31.toInt < n → 0 < n → Ok (LX8_flowing_L13 f11 n i30 i31 ) (fun z => True) := by
  intro n
  induction n with
  | zero => intro i30 i31 v0 hm h0; exact absurd h0 (Nat.lt_irrefl 0)
  | succ n ih =>
    intro i30 i31 v0 hm h0
    show Ok (BX8_flowing_L13 f11 i30 i31 (fun i30 i31 => LX8_flowing_L13 f11 n i30 i31 ) ) _
    unfold BX8_flowing_L13
    refine Ok_if ?_ ?_
    · intro h
      have c552 : 81 ≤ i31.toInt := i32le h
      exact Ok_some trivial
    · intro h
      have c553 : i31.toInt < 81 := i32nle h
      refine Ok_inB (vp_of (by first | omega | assumption | (try simp only [tl0, tl1, tl2, tl3, tl4, tl5, tl6, tl8, tl9, tl10, tl50, tl81, tl100, tl1000, tl9999, tlm1, tlm9, tlm50, tl2147483647]; omega)) (by first | omega | assumption | (try simp only [tl0, tl1, tl2, tl3, tl4, tl5, tl6, tl8, tl9, tl10, tl50, tl81, tl100, tl1000, tl9999, tlm1, tlm9, tlm50, tl2147483647]; omega))) ?_
      refine Ok_nm (fun i32 wi32 => ?_)
      have qi32 := i32eq wi32
      refine Ok_jn (fun k33 wk33 => ?_)
      refine Ok_if ?_ ?_
      · intro h
        have c554 : i32.toInt ≤ 0 := i32le h
        rw [wk33]
        show Ok (nm (i30 + (0 : Int32)) (fun (i36 : Int32) => (fun i30 i31 => LX8_flowing_L13 f11 n i30 i31 ) i36 (i31 + (1 : Int32)))) _
        refine Ok_nm (fun i36 wi36 => ?_)
        have qi36 := i32eq wi36
        try (have e555 := inc_iv (x := i31) (by omega))
        exact ih i36 (i31 + (1 : Int32)) (by first | omega | assumption | (try simp only [tl0, tl1, tl2, tl3, tl4, tl5, tl6, tl8, tl9, tl10, tl50, tl81, tl100, tl1000, tl9999, tlm1, tlm9, tlm50, tl2147483647]; omega)) (by first | omega | assumption | (try simp only [tl0, tl1, tl2, tl3, tl4, tl5, tl6, tl8, tl9, tl10, tl50, tl81, tl100, tl1000, tl9999, tlm1, tlm9, tlm50, tl2147483647]; omega)) (by first | omega | assumption | (try simp only [tl0, tl1, tl2, tl3, tl4, tl5, tl6, tl8, tl9, tl10, tl50, tl81, tl100, tl1000, tl9999, tlm1, tlm9, tlm50, tl2147483647]; omega))
      · intro h
        have c556 : 0 < i32.toInt := i32nle h
        rw [wk33]
        show Ok (nm (i30 + (1 : Int32)) (fun (i36 : Int32) => (fun i30 i31 => LX8_flowing_L13 f11 n i30 i31 ) i36 (i31 + (1 : Int32)))) _
        try (have e557 := inc_iv (x := i30) (by omega))
        refine Ok_nm (fun i36 wi36 => ?_)
        have qi36 := i32eq wi36
        try (have e558 := inc_iv (x := i31) (by omega))
        exact ih i36 (i31 + (1 : Int32)) (by first | omega | assumption | (try simp only [tl0, tl1, tl2, tl3, tl4, tl5, tl6, tl8, tl9, tl10, tl50, tl81, tl100, tl1000, tl9999, tlm1, tlm9, tlm50, tl2147483647]; omega)) (by first | omega | assumption | (try simp only [tl0, tl1, tl2, tl3, tl4, tl5, tl6, tl8, tl9, tl10, tl50, tl81, tl100, tl1000, tl9999, tlm1, tlm9, tlm50, tl2147483647]; omega)) (by first | omega | assumption | (try simp only [tl0, tl1, tl2, tl3, tl4, tl5, tl6, tl8, tl9, tl10, tl50, tl81, tl100, tl1000, tl9999, tlm1, tlm9, tlm50, tl2147483647]; omega))
set_option maxRecDepth 4000 in
theorem ok_X8_flowing (f11 : Nat → Int32)  : Ok (fX8_flowing f11) (fun z => True) := by
  unfold fX8_flowing
  refine Ok_mono (okL_X8_flowing_L13 f11 600 (0 : Int32) (0 : Int32) (by first | omega | assumption | (try simp only [tl0, tl1, tl2, tl3, tl4, tl5, tl6, tl8, tl9, tl10, tl50, tl81, tl100, tl1000, tl9999, tlm1, tlm9, tlm50, tl2147483647]; omega)) (by first | omega | assumption | (try simp only [tl0, tl1, tl2, tl3, tl4, tl5, tl6, tl8, tl9, tl10, tl50, tl81, tl100, tl1000, tl9999, tlm1, tlm9, tlm50, tl2147483647]; omega)) (by first | omega | assumption | (try simp only [tl0, tl1, tl2, tl3, tl4, tl5, tl6, tl8, tl9, tl10, tl50, tl81, tl100, tl1000, tl9999, tlm1, tlm9, tlm50, tl2147483647]; omega))) ?_
  intro z hz
  first | exact hz | (simp only [Sx] at *; omega) | (dsimp only at *; omega)
set_option maxRecDepth 4000 in
theorem ok_X8_round (i6 : Int32) (i11 : Int32) (i12 : Int32) (f15 : Nat → Int32) (f16 : Nat → Int32) (i2 : Int32) (i3 : Int32) (i4 : Int32) (i5 : Int32) (h0 : 2 ≤ i6.toInt ∧ i6.toInt ≤ 9) : Ok (fX8_round i6 i11 i12 f15 f16 i2 i3 i4 i5) (fun z => True) := by
  unfold fX8_round
  refine Ok_bind (ok_X8_isPlace i6 i2 (by first | omega | assumption | (try simp only [tl0, tl1, tl2, tl3, tl4, tl5, tl6, tl8, tl9, tl10, tl50, tl81, tl100, tl1000, tl9999, tlm1, tlm9, tlm50, tl2147483647]; omega))) (fun z17 hz17 => ?_)
  try dsimp only at hz17
  try simp only [tl0, tl1, tl2, tl3, tl4, tl5, tl6, tl8, tl9, tl10, tl50, tl81, tl100, tl1000, tl9999, tlm1, tlm9, tlm50, tl2147483647] at hz17
  refine Ok_jn (fun k18 wk18 => ?_)
  refine Ok_jn (fun k20 wk20 => ?_)
  refine Ok_if ?_ ?_
  · intro h
    have c559 : z17.toInt = 0 := i32eq h
    rw [wk20]
    show Ok (k18 (1 : Int32)) _
    rw [wk18]
    show Ok (jn (fun (i30 : Int32) => (fX8_isThrown (1 : Int32) i30).bind (fun z31 => if z31.1 = (0 : Int32) then ((fX8_left f15 f16 i2 i3).bind (fun z32 => jn (fun (_ : Unit) => (fX8_no i12).bind (fun z42 => some ((-9 : Int32), i11, z42, z31.2, f16))) (fun (k33 : Unit → Option (Int32 × Int32 × Int32 × Int32 × (Nat → Int32))) => if z32 < i5 then (k33 ()) else ((fX8_left f15 f16 i3 i4).bind (fun z35 => if z35 < i5 then (k33 ()) else ((fX8_left f15 f16 i4 i2).bind (fun z36 => if i5 ≤ z36 then ((fX8_flowOn f16 i2 i3 i5).bind (fun z37 => (fX8_flowOn z37 i3 i4 i5).bind (fun z38 => (fX8_flowOn z38 i4 i2 i5).bind (fun z39 => (fX8_flowing z39).bind (fun z40 => (fX8_did i11 z40).bind (fun z41 => some (z41.1, z41.2, i12, z31.2, z39))))))) else (k33 ())))))))) else (some ((0 : Int32), i11, i12, z31.2, f16)))) (fun (k25 : Int32 → Option (Int32 × Int32 × Int32 × Int32 × (Nat → Int32))) => jn (fun (_ : Unit) => k25 (1 : Int32)) (fun (k27 : Unit → Option (Int32 × Int32 × Int32 × Int32 × (Nat → Int32))) => if i2 = i3 then (k27 ()) else (if i2 = i4 then (k27 ()) else (if i3 = i4 then (k27 ()) else ((fX8_isRoom i5).bind (fun z29 => if z29 = (0 : Int32) then (k27 ()) else (k25 (0 : Int32))))))))) _
    refine Ok_jn (fun k25 wk25 => ?_)
    refine Ok_jn (fun k27 wk27 => ?_)
    refine Ok_if ?_ ?_
    · intro h
      have c560 : i2.toInt = i3.toInt := i32eq h
      rw [wk27]
      show Ok (k25 (1 : Int32)) _
      rw [wk25]
      show Ok ((fX8_isThrown (1 : Int32) (1 : Int32)).bind (fun z31 => if z31.1 = (0 : Int32) then ((fX8_left f15 f16 i2 i3).bind (fun z32 => jn (fun (_ : Unit) => (fX8_no i12).bind (fun z42 => some ((-9 : Int32), i11, z42, z31.2, f16))) (fun (k33 : Unit → Option (Int32 × Int32 × Int32 × Int32 × (Nat → Int32))) => if z32 < i5 then (k33 ()) else ((fX8_left f15 f16 i3 i4).bind (fun z35 => if z35 < i5 then (k33 ()) else ((fX8_left f15 f16 i4 i2).bind (fun z36 => if i5 ≤ z36 then ((fX8_flowOn f16 i2 i3 i5).bind (fun z37 => (fX8_flowOn z37 i3 i4 i5).bind (fun z38 => (fX8_flowOn z38 i4 i2 i5).bind (fun z39 => (fX8_flowing z39).bind (fun z40 => (fX8_did i11 z40).bind (fun z41 => some (z41.1, z41.2, i12, z31.2, z39))))))) else (k33 ())))))))) else (some ((0 : Int32), i11, i12, z31.2, f16)))) _
      refine Ok_bind (ok_X8_isThrown (1 : Int32) (1 : Int32)) (fun z31 hz31 => ?_)
      try dsimp only at hz31
      try simp only [tl0, tl1, tl2, tl3, tl4, tl5, tl6, tl8, tl9, tl10, tl50, tl81, tl100, tl1000, tl9999, tlm1, tlm9, tlm50, tl2147483647] at hz31
      refine Ok_if ?_ ?_
      · intro h
        have c561 : z31.1.toInt = 0 := i32eq h
        refine Ok_bind (ok_X8_left f15 f16 i2 i3 (by first | omega | assumption | (try simp only [tl0, tl1, tl2, tl3, tl4, tl5, tl6, tl8, tl9, tl10, tl50, tl81, tl100, tl1000, tl9999, tlm1, tlm9, tlm50, tl2147483647]; omega)) (by first | omega | assumption | (try simp only [tl0, tl1, tl2, tl3, tl4, tl5, tl6, tl8, tl9, tl10, tl50, tl81, tl100, tl1000, tl9999, tlm1, tlm9, tlm50, tl2147483647]; omega)) (by first | omega | assumption | (try simp only [tl0, tl1, tl2, tl3, tl4, tl5, tl6, tl8, tl9, tl10, tl50, tl81, tl100, tl1000, tl9999, tlm1, tlm9, tlm50, tl2147483647]; omega)) (by first | omega | assumption | (try simp only [tl0, tl1, tl2, tl3, tl4, tl5, tl6, tl8, tl9, tl10, tl50, tl81, tl100, tl1000, tl9999, tlm1, tlm9, tlm50, tl2147483647]; omega))) (fun z32 hz32 => ?_)
        refine Ok_jn (fun k33 wk33 => ?_)
        refine Ok_if ?_ ?_
        · intro h
          have c562 : z32.toInt < i5.toInt := i32lt h
          rw [wk33]
          show Ok ((fX8_no i12).bind (fun z42 => some ((-9 : Int32), i11, z42, z31.2, f16))) _
          refine Ok_bind (ok_X8_no i12) (fun z42 hz42 => ?_)
          exact Ok_some trivial
        · intro h
          have c563 : i5.toInt ≤ z32.toInt := i32nlt h
          refine Ok_bind (ok_X8_left f15 f16 i3 i4 (by first | omega | assumption | (try simp only [tl0, tl1, tl2, tl3, tl4, tl5, tl6, tl8, tl9, tl10, tl50, tl81, tl100, tl1000, tl9999, tlm1, tlm9, tlm50, tl2147483647]; omega)) (by first | omega | assumption | (try simp only [tl0, tl1, tl2, tl3, tl4, tl5, tl6, tl8, tl9, tl10, tl50, tl81, tl100, tl1000, tl9999, tlm1, tlm9, tlm50, tl2147483647]; omega)) (by first | omega | assumption | (try simp only [tl0, tl1, tl2, tl3, tl4, tl5, tl6, tl8, tl9, tl10, tl50, tl81, tl100, tl1000, tl9999, tlm1, tlm9, tlm50, tl2147483647]; omega)) (by first | omega | assumption | (try simp only [tl0, tl1, tl2, tl3, tl4, tl5, tl6, tl8, tl9, tl10, tl50, tl81, tl100, tl1000, tl9999, tlm1, tlm9, tlm50, tl2147483647]; omega))) (fun z35 hz35 => ?_)
          refine Ok_if ?_ ?_
          · intro h
            have c564 : z35.toInt < i5.toInt := i32lt h
            rw [wk33]
            show Ok ((fX8_no i12).bind (fun z42 => some ((-9 : Int32), i11, z42, z31.2, f16))) _
            refine Ok_bind (ok_X8_no i12) (fun z42 hz42 => ?_)
            exact Ok_some trivial
          · intro h
            have c565 : i5.toInt ≤ z35.toInt := i32nlt h
            refine Ok_bind (ok_X8_left f15 f16 i4 i2 (by first | omega | assumption | (try simp only [tl0, tl1, tl2, tl3, tl4, tl5, tl6, tl8, tl9, tl10, tl50, tl81, tl100, tl1000, tl9999, tlm1, tlm9, tlm50, tl2147483647]; omega)) (by first | omega | assumption | (try simp only [tl0, tl1, tl2, tl3, tl4, tl5, tl6, tl8, tl9, tl10, tl50, tl81, tl100, tl1000, tl9999, tlm1, tlm9, tlm50, tl2147483647]; omega)) (by first | omega | assumption | (try simp only [tl0, tl1, tl2, tl3, tl4, tl5, tl6, tl8, tl9, tl10, tl50, tl81, tl100, tl1000, tl9999, tlm1, tlm9, tlm50, tl2147483647]; omega)) (by first | omega | assumption | (try simp only [tl0, tl1, tl2, tl3, tl4, tl5, tl6, tl8, tl9, tl10, tl50, tl81, tl100, tl1000, tl9999, tlm1, tlm9, tlm50, tl2147483647]; omega))) (fun z36 hz36 => ?_)
            refine Ok_if ?_ ?_
            · intro h
              have c566 : i5.toInt ≤ z36.toInt := i32le h
              refine Ok_bind (ok_X8_flowOn f16 i2 i3 i5 (by first | omega | assumption | (try simp only [tl0, tl1, tl2, tl3, tl4, tl5, tl6, tl8, tl9, tl10, tl50, tl81, tl100, tl1000, tl9999, tlm1, tlm9, tlm50, tl2147483647]; omega)) (by first | omega | assumption | (try simp only [tl0, tl1, tl2, tl3, tl4, tl5, tl6, tl8, tl9, tl10, tl50, tl81, tl100, tl1000, tl9999, tlm1, tlm9, tlm50, tl2147483647]; omega)) (by first | omega | assumption | (try simp only [tl0, tl1, tl2, tl3, tl4, tl5, tl6, tl8, tl9, tl10, tl50, tl81, tl100, tl1000, tl9999, tlm1, tlm9, tlm50, tl2147483647]; omega)) (by first | omega | assumption | (try simp only [tl0, tl1, tl2, tl3, tl4, tl5, tl6, tl8, tl9, tl10, tl50, tl81, tl100, tl1000, tl9999, tlm1, tlm9, tlm50, tl2147483647]; omega))) (fun z37 hz37 => ?_)
              refine Ok_bind (ok_X8_flowOn z37 i3 i4 i5 (by first | omega | assumption | (try simp only [tl0, tl1, tl2, tl3, tl4, tl5, tl6, tl8, tl9, tl10, tl50, tl81, tl100, tl1000, tl9999, tlm1, tlm9, tlm50, tl2147483647]; omega)) (by first | omega | assumption | (try simp only [tl0, tl1, tl2, tl3, tl4, tl5, tl6, tl8, tl9, tl10, tl50, tl81, tl100, tl1000, tl9999, tlm1, tlm9, tlm50, tl2147483647]; omega)) (by first | omega | assumption | (try simp only [tl0, tl1, tl2, tl3, tl4, tl5, tl6, tl8, tl9, tl10, tl50, tl81, tl100, tl1000, tl9999, tlm1, tlm9, tlm50, tl2147483647]; omega)) (by first | omega | assumption | (try simp only [tl0, tl1, tl2, tl3, tl4, tl5, tl6, tl8, tl9, tl10, tl50, tl81, tl100, tl1000, tl9999, tlm1, tlm9, tlm50, tl2147483647]; omega))) (fun z38 hz38 => ?_)
              refine Ok_bind (ok_X8_flowOn z38 i4 i2 i5 (by first | omega | assumption | (try simp only [tl0, tl1, tl2, tl3, tl4, tl5, tl6, tl8, tl9, tl10, tl50, tl81, tl100, tl1000, tl9999, tlm1, tlm9, tlm50, tl2147483647]; omega)) (by first | omega | assumption | (try simp only [tl0, tl1, tl2, tl3, tl4, tl5, tl6, tl8, tl9, tl10, tl50, tl81, tl100, tl1000, tl9999, tlm1, tlm9, tlm50, tl2147483647]; omega)) (by first | omega | assumption | (try simp only [tl0, tl1, tl2, tl3, tl4, tl5, tl6, tl8, tl9, tl10, tl50, tl81, tl100, tl1000, tl9999, tlm1, tlm9, tlm50, tl2147483647]; omega)) (by first | omega | assumption | (try simp only [tl0, tl1, tl2, tl3, tl4, tl5, tl6, tl8, tl9, tl10, tl50, tl81, tl100, tl1000, tl9999, tlm1, tlm9, tlm50, tl2147483647]; omega))) (fun z39 hz39 => ?_)
              refine Ok_bind (ok_X8_flowing z39) (fun z40 hz40 => ?_)
              refine Ok_bind (ok_X8_did i11 z40) (fun z41 hz41 => ?_)
              exact Ok_some trivial
            · intro h
              have c567 : z36.toInt < i5.toInt := i32nle h
              rw [wk33]
              show Ok ((fX8_no i12).bind (fun z42 => some ((-9 : Int32), i11, z42, z31.2, f16))) _
              refine Ok_bind (ok_X8_no i12) (fun z42 hz42 => ?_)
              exact Ok_some trivial
      · intro h
        have c568 : z31.1.toInt ≠ 0 := i32ne h
        exact Ok_some trivial
    · intro h
      have c569 : i2.toInt ≠ i3.toInt := i32ne h
      refine Ok_if ?_ ?_
      · intro h
        have c570 : i2.toInt = i4.toInt := i32eq h
        rw [wk27]
        show Ok (k25 (1 : Int32)) _
        rw [wk25]
        show Ok ((fX8_isThrown (1 : Int32) (1 : Int32)).bind (fun z31 => if z31.1 = (0 : Int32) then ((fX8_left f15 f16 i2 i3).bind (fun z32 => jn (fun (_ : Unit) => (fX8_no i12).bind (fun z42 => some ((-9 : Int32), i11, z42, z31.2, f16))) (fun (k33 : Unit → Option (Int32 × Int32 × Int32 × Int32 × (Nat → Int32))) => if z32 < i5 then (k33 ()) else ((fX8_left f15 f16 i3 i4).bind (fun z35 => if z35 < i5 then (k33 ()) else ((fX8_left f15 f16 i4 i2).bind (fun z36 => if i5 ≤ z36 then ((fX8_flowOn f16 i2 i3 i5).bind (fun z37 => (fX8_flowOn z37 i3 i4 i5).bind (fun z38 => (fX8_flowOn z38 i4 i2 i5).bind (fun z39 => (fX8_flowing z39).bind (fun z40 => (fX8_did i11 z40).bind (fun z41 => some (z41.1, z41.2, i12, z31.2, z39))))))) else (k33 ())))))))) else (some ((0 : Int32), i11, i12, z31.2, f16)))) _
        refine Ok_bind (ok_X8_isThrown (1 : Int32) (1 : Int32)) (fun z31 hz31 => ?_)
        try dsimp only at hz31
        try simp only [tl0, tl1, tl2, tl3, tl4, tl5, tl6, tl8, tl9, tl10, tl50, tl81, tl100, tl1000, tl9999, tlm1, tlm9, tlm50, tl2147483647] at hz31
        refine Ok_if ?_ ?_
        · intro h
          have c571 : z31.1.toInt = 0 := i32eq h
          refine Ok_bind (ok_X8_left f15 f16 i2 i3 (by first | omega | assumption | (try simp only [tl0, tl1, tl2, tl3, tl4, tl5, tl6, tl8, tl9, tl10, tl50, tl81, tl100, tl1000, tl9999, tlm1, tlm9, tlm50, tl2147483647]; omega)) (by first | omega | assumption | (try simp only [tl0, tl1, tl2, tl3, tl4, tl5, tl6, tl8, tl9, tl10, tl50, tl81, tl100, tl1000, tl9999, tlm1, tlm9, tlm50, tl2147483647]; omega)) (by first | omega | assumption | (try simp only [tl0, tl1, tl2, tl3, tl4, tl5, tl6, tl8, tl9, tl10, tl50, tl81, tl100, tl1000, tl9999, tlm1, tlm9, tlm50, tl2147483647]; omega)) (by first | omega | assumption | (try simp only [tl0, tl1, tl2, tl3, tl4, tl5, tl6, tl8, tl9, tl10, tl50, tl81, tl100, tl1000, tl9999, tlm1, tlm9, tlm50, tl2147483647]; omega))) (fun z32 hz32 => ?_)
          refine Ok_jn (fun k33 wk33 => ?_)
          refine Ok_if ?_ ?_
          · intro h
            have c572 : z32.toInt < i5.toInt := i32lt h
            rw [wk33]
            show Ok ((fX8_no i12).bind (fun z42 => some ((-9 : Int32), i11, z42, z31.2, f16))) _
            refine Ok_bind (ok_X8_no i12) (fun z42 hz42 => ?_)
            exact Ok_some trivial
          · intro h
            have c573 : i5.toInt ≤ z32.toInt := i32nlt h
            refine Ok_bind (ok_X8_left f15 f16 i3 i4 (by first | omega | assumption | (try simp only [tl0, tl1, tl2, tl3, tl4, tl5, tl6, tl8, tl9, tl10, tl50, tl81, tl100, tl1000, tl9999, tlm1, tlm9, tlm50, tl2147483647]; omega)) (by first | omega | assumption | (try simp only [tl0, tl1, tl2, tl3, tl4, tl5, tl6, tl8, tl9, tl10, tl50, tl81, tl100, tl1000, tl9999, tlm1, tlm9, tlm50, tl2147483647]; omega)) (by first | omega | assumption | (try simp only [tl0, tl1, tl2, tl3, tl4, tl5, tl6, tl8, tl9, tl10, tl50, tl81, tl100, tl1000, tl9999, tlm1, tlm9, tlm50, tl2147483647]; omega)) (by first | omega | assumption | (try simp only [tl0, tl1, tl2, tl3, tl4, tl5, tl6, tl8, tl9, tl10, tl50, tl81, tl100, tl1000, tl9999, tlm1, tlm9, tlm50, tl2147483647]; omega))) (fun z35 hz35 => ?_)
            refine Ok_if ?_ ?_
            · intro h
              have c574 : z35.toInt < i5.toInt := i32lt h
              rw [wk33]
              show Ok ((fX8_no i12).bind (fun z42 => some ((-9 : Int32), i11, z42, z31.2, f16))) _
              refine Ok_bind (ok_X8_no i12) (fun z42 hz42 => ?_)
              exact Ok_some trivial
            · intro h
              have c575 : i5.toInt ≤ z35.toInt := i32nlt h
              refine Ok_bind (ok_X8_left f15 f16 i4 i2 (by first | omega | assumption | (try simp only [tl0, tl1, tl2, tl3, tl4, tl5, tl6, tl8, tl9, tl10, tl50, tl81, tl100, tl1000, tl9999, tlm1, tlm9, tlm50, tl2147483647]; omega)) (by first | omega | assumption | (try simp only [tl0, tl1, tl2, tl3, tl4, tl5, tl6, tl8, tl9, tl10, tl50, tl81, tl100, tl1000, tl9999, tlm1, tlm9, tlm50, tl2147483647]; omega)) (by first | omega | assumption | (try simp only [tl0, tl1, tl2, tl3, tl4, tl5, tl6, tl8, tl9, tl10, tl50, tl81, tl100, tl1000, tl9999, tlm1, tlm9, tlm50, tl2147483647]; omega)) (by first | omega | assumption | (try simp only [tl0, tl1, tl2, tl3, tl4, tl5, tl6, tl8, tl9, tl10, tl50, tl81, tl100, tl1000, tl9999, tlm1, tlm9, tlm50, tl2147483647]; omega))) (fun z36 hz36 => ?_)
              refine Ok_if ?_ ?_
              · intro h
                have c576 : i5.toInt ≤ z36.toInt := i32le h
                refine Ok_bind (ok_X8_flowOn f16 i2 i3 i5 (by first | omega | assumption | (try simp only [tl0, tl1, tl2, tl3, tl4, tl5, tl6, tl8, tl9, tl10, tl50, tl81, tl100, tl1000, tl9999, tlm1, tlm9, tlm50, tl2147483647]; omega)) (by first | omega | assumption | (try simp only [tl0, tl1, tl2, tl3, tl4, tl5, tl6, tl8, tl9, tl10, tl50, tl81, tl100, tl1000, tl9999, tlm1, tlm9, tlm50, tl2147483647]; omega)) (by first | omega | assumption | (try simp only [tl0, tl1, tl2, tl3, tl4, tl5, tl6, tl8, tl9, tl10, tl50, tl81, tl100, tl1000, tl9999, tlm1, tlm9, tlm50, tl2147483647]; omega)) (by first | omega | assumption | (try simp only [tl0, tl1, tl2, tl3, tl4, tl5, tl6, tl8, tl9, tl10, tl50, tl81, tl100, tl1000, tl9999, tlm1, tlm9, tlm50, tl2147483647]; omega))) (fun z37 hz37 => ?_)
                refine Ok_bind (ok_X8_flowOn z37 i3 i4 i5 (by first | omega | assumption | (try simp only [tl0, tl1, tl2, tl3, tl4, tl5, tl6, tl8, tl9, tl10, tl50, tl81, tl100, tl1000, tl9999, tlm1, tlm9, tlm50, tl2147483647]; omega)) (by first | omega | assumption | (try simp only [tl0, tl1, tl2, tl3, tl4, tl5, tl6, tl8, tl9, tl10, tl50, tl81, tl100, tl1000, tl9999, tlm1, tlm9, tlm50, tl2147483647]; omega)) (by first | omega | assumption | (try simp only [tl0, tl1, tl2, tl3, tl4, tl5, tl6, tl8, tl9, tl10, tl50, tl81, tl100, tl1000, tl9999, tlm1, tlm9, tlm50, tl2147483647]; omega)) (by first | omega | assumption | (try simp only [tl0, tl1, tl2, tl3, tl4, tl5, tl6, tl8, tl9, tl10, tl50, tl81, tl100, tl1000, tl9999, tlm1, tlm9, tlm50, tl2147483647]; omega))) (fun z38 hz38 => ?_)
                refine Ok_bind (ok_X8_flowOn z38 i4 i2 i5 (by first | omega | assumption | (try simp only [tl0, tl1, tl2, tl3, tl4, tl5, tl6, tl8, tl9, tl10, tl50, tl81, tl100, tl1000, tl9999, tlm1, tlm9, tlm50, tl2147483647]; omega)) (by first | omega | assumption | (try simp only [tl0, tl1, tl2, tl3, tl4, tl5, tl6, tl8, tl9, tl10, tl50, tl81, tl100, tl1000, tl9999, tlm1, tlm9, tlm50, tl2147483647]; omega)) (by first | omega | assumption | (try simp only [tl0, tl1, tl2, tl3, tl4, tl5, tl6, tl8, tl9, tl10, tl50, tl81, tl100, tl1000, tl9999, tlm1, tlm9, tlm50, tl2147483647]; omega)) (by first | omega | assumption | (try simp only [tl0, tl1, tl2, tl3, tl4, tl5, tl6, tl8, tl9, tl10, tl50, tl81, tl100, tl1000, tl9999, tlm1, tlm9, tlm50, tl2147483647]; omega))) (fun z39 hz39 => ?_)
                refine Ok_bind (ok_X8_flowing z39) (fun z40 hz40 => ?_)
                refine Ok_bind (ok_X8_did i11 z40) (fun z41 hz41 => ?_)
                exact Ok_some trivial
              · intro h
                have c577 : z36.toInt < i5.toInt := i32nle h
                rw [wk33]
                show Ok ((fX8_no i12).bind (fun z42 => some ((-9 : Int32), i11, z42, z31.2, f16))) _
                refine Ok_bind (ok_X8_no i12) (fun z42 hz42 => ?_)
                exact Ok_some trivial
        · intro h
          have c578 : z31.1.toInt ≠ 0 := i32ne h
          exact Ok_some trivial
      · intro h
        have c579 : i2.toInt ≠ i4.toInt := i32ne h
        refine Ok_if ?_ ?_
        · intro h
          have c580 : i3.toInt = i4.toInt := i32eq h
          rw [wk27]
          show Ok (k25 (1 : Int32)) _
          rw [wk25]
          show Ok ((fX8_isThrown (1 : Int32) (1 : Int32)).bind (fun z31 => if z31.1 = (0 : Int32) then ((fX8_left f15 f16 i2 i3).bind (fun z32 => jn (fun (_ : Unit) => (fX8_no i12).bind (fun z42 => some ((-9 : Int32), i11, z42, z31.2, f16))) (fun (k33 : Unit → Option (Int32 × Int32 × Int32 × Int32 × (Nat → Int32))) => if z32 < i5 then (k33 ()) else ((fX8_left f15 f16 i3 i4).bind (fun z35 => if z35 < i5 then (k33 ()) else ((fX8_left f15 f16 i4 i2).bind (fun z36 => if i5 ≤ z36 then ((fX8_flowOn f16 i2 i3 i5).bind (fun z37 => (fX8_flowOn z37 i3 i4 i5).bind (fun z38 => (fX8_flowOn z38 i4 i2 i5).bind (fun z39 => (fX8_flowing z39).bind (fun z40 => (fX8_did i11 z40).bind (fun z41 => some (z41.1, z41.2, i12, z31.2, z39))))))) else (k33 ())))))))) else (some ((0 : Int32), i11, i12, z31.2, f16)))) _
          refine Ok_bind (ok_X8_isThrown (1 : Int32) (1 : Int32)) (fun z31 hz31 => ?_)
          try dsimp only at hz31
          try simp only [tl0, tl1, tl2, tl3, tl4, tl5, tl6, tl8, tl9, tl10, tl50, tl81, tl100, tl1000, tl9999, tlm1, tlm9, tlm50, tl2147483647] at hz31
          refine Ok_if ?_ ?_
          · intro h
            have c581 : z31.1.toInt = 0 := i32eq h
            refine Ok_bind (ok_X8_left f15 f16 i2 i3 (by first | omega | assumption | (try simp only [tl0, tl1, tl2, tl3, tl4, tl5, tl6, tl8, tl9, tl10, tl50, tl81, tl100, tl1000, tl9999, tlm1, tlm9, tlm50, tl2147483647]; omega)) (by first | omega | assumption | (try simp only [tl0, tl1, tl2, tl3, tl4, tl5, tl6, tl8, tl9, tl10, tl50, tl81, tl100, tl1000, tl9999, tlm1, tlm9, tlm50, tl2147483647]; omega)) (by first | omega | assumption | (try simp only [tl0, tl1, tl2, tl3, tl4, tl5, tl6, tl8, tl9, tl10, tl50, tl81, tl100, tl1000, tl9999, tlm1, tlm9, tlm50, tl2147483647]; omega)) (by first | omega | assumption | (try simp only [tl0, tl1, tl2, tl3, tl4, tl5, tl6, tl8, tl9, tl10, tl50, tl81, tl100, tl1000, tl9999, tlm1, tlm9, tlm50, tl2147483647]; omega))) (fun z32 hz32 => ?_)
            refine Ok_jn (fun k33 wk33 => ?_)
            refine Ok_if ?_ ?_
            · intro h
              have c582 : z32.toInt < i5.toInt := i32lt h
              rw [wk33]
              show Ok ((fX8_no i12).bind (fun z42 => some ((-9 : Int32), i11, z42, z31.2, f16))) _
              refine Ok_bind (ok_X8_no i12) (fun z42 hz42 => ?_)
              exact Ok_some trivial
            · intro h
              have c583 : i5.toInt ≤ z32.toInt := i32nlt h
              refine Ok_bind (ok_X8_left f15 f16 i3 i4 (by first | omega | assumption | (try simp only [tl0, tl1, tl2, tl3, tl4, tl5, tl6, tl8, tl9, tl10, tl50, tl81, tl100, tl1000, tl9999, tlm1, tlm9, tlm50, tl2147483647]; omega)) (by first | omega | assumption | (try simp only [tl0, tl1, tl2, tl3, tl4, tl5, tl6, tl8, tl9, tl10, tl50, tl81, tl100, tl1000, tl9999, tlm1, tlm9, tlm50, tl2147483647]; omega)) (by first | omega | assumption | (try simp only [tl0, tl1, tl2, tl3, tl4, tl5, tl6, tl8, tl9, tl10, tl50, tl81, tl100, tl1000, tl9999, tlm1, tlm9, tlm50, tl2147483647]; omega)) (by first | omega | assumption | (try simp only [tl0, tl1, tl2, tl3, tl4, tl5, tl6, tl8, tl9, tl10, tl50, tl81, tl100, tl1000, tl9999, tlm1, tlm9, tlm50, tl2147483647]; omega))) (fun z35 hz35 => ?_)
              refine Ok_if ?_ ?_
              · intro h
                have c584 : z35.toInt < i5.toInt := i32lt h
                rw [wk33]
                show Ok ((fX8_no i12).bind (fun z42 => some ((-9 : Int32), i11, z42, z31.2, f16))) _
                refine Ok_bind (ok_X8_no i12) (fun z42 hz42 => ?_)
                exact Ok_some trivial
              · intro h
                have c585 : i5.toInt ≤ z35.toInt := i32nlt h
                refine Ok_bind (ok_X8_left f15 f16 i4 i2 (by first | omega | assumption | (try simp only [tl0, tl1, tl2, tl3, tl4, tl5, tl6, tl8, tl9, tl10, tl50, tl81, tl100, tl1000, tl9999, tlm1, tlm9, tlm50, tl2147483647]; omega)) (by first | omega | assumption | (try simp only [tl0, tl1, tl2, tl3, tl4, tl5, tl6, tl8, tl9, tl10, tl50, tl81, tl100, tl1000, tl9999, tlm1, tlm9, tlm50, tl2147483647]; omega)) (by first | omega | assumption | (try simp only [tl0, tl1, tl2, tl3, tl4, tl5, tl6, tl8, tl9, tl10, tl50, tl81, tl100, tl1000, tl9999, tlm1, tlm9, tlm50, tl2147483647]; omega)) (by first | omega | assumption | (try simp only [tl0, tl1, tl2, tl3, tl4, tl5, tl6, tl8, tl9, tl10, tl50, tl81, tl100, tl1000, tl9999, tlm1, tlm9, tlm50, tl2147483647]; omega))) (fun z36 hz36 => ?_)
                refine Ok_if ?_ ?_
                · intro h
                  have c586 : i5.toInt ≤ z36.toInt := i32le h
                  refine Ok_bind (ok_X8_flowOn f16 i2 i3 i5 (by first | omega | assumption | (try simp only [tl0, tl1, tl2, tl3, tl4, tl5, tl6, tl8, tl9, tl10, tl50, tl81, tl100, tl1000, tl9999, tlm1, tlm9, tlm50, tl2147483647]; omega)) (by first | omega | assumption | (try simp only [tl0, tl1, tl2, tl3, tl4, tl5, tl6, tl8, tl9, tl10, tl50, tl81, tl100, tl1000, tl9999, tlm1, tlm9, tlm50, tl2147483647]; omega)) (by first | omega | assumption | (try simp only [tl0, tl1, tl2, tl3, tl4, tl5, tl6, tl8, tl9, tl10, tl50, tl81, tl100, tl1000, tl9999, tlm1, tlm9, tlm50, tl2147483647]; omega)) (by first | omega | assumption | (try simp only [tl0, tl1, tl2, tl3, tl4, tl5, tl6, tl8, tl9, tl10, tl50, tl81, tl100, tl1000, tl9999, tlm1, tlm9, tlm50, tl2147483647]; omega))) (fun z37 hz37 => ?_)
                  refine Ok_bind (ok_X8_flowOn z37 i3 i4 i5 (by first | omega | assumption | (try simp only [tl0, tl1, tl2, tl3, tl4, tl5, tl6, tl8, tl9, tl10, tl50, tl81, tl100, tl1000, tl9999, tlm1, tlm9, tlm50, tl2147483647]; omega)) (by first | omega | assumption | (try simp only [tl0, tl1, tl2, tl3, tl4, tl5, tl6, tl8, tl9, tl10, tl50, tl81, tl100, tl1000, tl9999, tlm1, tlm9, tlm50, tl2147483647]; omega)) (by first | omega | assumption | (try simp only [tl0, tl1, tl2, tl3, tl4, tl5, tl6, tl8, tl9, tl10, tl50, tl81, tl100, tl1000, tl9999, tlm1, tlm9, tlm50, tl2147483647]; omega)) (by first | omega | assumption | (try simp only [tl0, tl1, tl2, tl3, tl4, tl5, tl6, tl8, tl9, tl10, tl50, tl81, tl100, tl1000, tl9999, tlm1, tlm9, tlm50, tl2147483647]; omega))) (fun z38 hz38 => ?_)
                  refine Ok_bind (ok_X8_flowOn z38 i4 i2 i5 (by first | omega | assumption | (try simp only [tl0, tl1, tl2, tl3, tl4, tl5, tl6, tl8, tl9, tl10, tl50, tl81, tl100, tl1000, tl9999, tlm1, tlm9, tlm50, tl2147483647]; omega)) (by first | omega | assumption | (try simp only [tl0, tl1, tl2, tl3, tl4, tl5, tl6, tl8, tl9, tl10, tl50, tl81, tl100, tl1000, tl9999, tlm1, tlm9, tlm50, tl2147483647]; omega)) (by first | omega | assumption | (try simp only [tl0, tl1, tl2, tl3, tl4, tl5, tl6, tl8, tl9, tl10, tl50, tl81, tl100, tl1000, tl9999, tlm1, tlm9, tlm50, tl2147483647]; omega)) (by first | omega | assumption | (try simp only [tl0, tl1, tl2, tl3, tl4, tl5, tl6, tl8, tl9, tl10, tl50, tl81, tl100, tl1000, tl9999, tlm1, tlm9, tlm50, tl2147483647]; omega))) (fun z39 hz39 => ?_)
                  refine Ok_bind (ok_X8_flowing z39) (fun z40 hz40 => ?_)
                  refine Ok_bind (ok_X8_did i11 z40) (fun z41 hz41 => ?_)
                  exact Ok_some trivial
                · intro h
                  have c587 : z36.toInt < i5.toInt := i32nle h
                  rw [wk33]
                  show Ok ((fX8_no i12).bind (fun z42 => some ((-9 : Int32), i11, z42, z31.2, f16))) _
                  refine Ok_bind (ok_X8_no i12) (fun z42 hz42 => ?_)
                  exact Ok_some trivial
          · intro h
            have c588 : z31.1.toInt ≠ 0 := i32ne h
            exact Ok_some trivial
        · intro h
          have c589 : i3.toInt ≠ i4.toInt := i32ne h
          refine Ok_bind (ok_X8_isRoom i5) (fun z29 hz29 => ?_)
          try dsimp only at hz29
          try simp only [tl0, tl1, tl2, tl3, tl4, tl5, tl6, tl8, tl9, tl10, tl50, tl81, tl100, tl1000, tl9999, tlm1, tlm9, tlm50, tl2147483647] at hz29
          refine Ok_if ?_ ?_
          · intro h
            have c590 : z29.toInt = 0 := i32eq h
            rw [wk27]
            show Ok (k25 (1 : Int32)) _
            rw [wk25]
            show Ok ((fX8_isThrown (1 : Int32) (1 : Int32)).bind (fun z31 => if z31.1 = (0 : Int32) then ((fX8_left f15 f16 i2 i3).bind (fun z32 => jn (fun (_ : Unit) => (fX8_no i12).bind (fun z42 => some ((-9 : Int32), i11, z42, z31.2, f16))) (fun (k33 : Unit → Option (Int32 × Int32 × Int32 × Int32 × (Nat → Int32))) => if z32 < i5 then (k33 ()) else ((fX8_left f15 f16 i3 i4).bind (fun z35 => if z35 < i5 then (k33 ()) else ((fX8_left f15 f16 i4 i2).bind (fun z36 => if i5 ≤ z36 then ((fX8_flowOn f16 i2 i3 i5).bind (fun z37 => (fX8_flowOn z37 i3 i4 i5).bind (fun z38 => (fX8_flowOn z38 i4 i2 i5).bind (fun z39 => (fX8_flowing z39).bind (fun z40 => (fX8_did i11 z40).bind (fun z41 => some (z41.1, z41.2, i12, z31.2, z39))))))) else (k33 ())))))))) else (some ((0 : Int32), i11, i12, z31.2, f16)))) _
            refine Ok_bind (ok_X8_isThrown (1 : Int32) (1 : Int32)) (fun z31 hz31 => ?_)
            try dsimp only at hz31
            try simp only [tl0, tl1, tl2, tl3, tl4, tl5, tl6, tl8, tl9, tl10, tl50, tl81, tl100, tl1000, tl9999, tlm1, tlm9, tlm50, tl2147483647] at hz31
            refine Ok_if ?_ ?_
            · intro h
              have c591 : z31.1.toInt = 0 := i32eq h
              refine Ok_bind (ok_X8_left f15 f16 i2 i3 (by first | omega | assumption | (try simp only [tl0, tl1, tl2, tl3, tl4, tl5, tl6, tl8, tl9, tl10, tl50, tl81, tl100, tl1000, tl9999, tlm1, tlm9, tlm50, tl2147483647]; omega)) (by first | omega | assumption | (try simp only [tl0, tl1, tl2, tl3, tl4, tl5, tl6, tl8, tl9, tl10, tl50, tl81, tl100, tl1000, tl9999, tlm1, tlm9, tlm50, tl2147483647]; omega)) (by first | omega | assumption | (try simp only [tl0, tl1, tl2, tl3, tl4, tl5, tl6, tl8, tl9, tl10, tl50, tl81, tl100, tl1000, tl9999, tlm1, tlm9, tlm50, tl2147483647]; omega)) (by first | omega | assumption | (try simp only [tl0, tl1, tl2, tl3, tl4, tl5, tl6, tl8, tl9, tl10, tl50, tl81, tl100, tl1000, tl9999, tlm1, tlm9, tlm50, tl2147483647]; omega))) (fun z32 hz32 => ?_)
              refine Ok_jn (fun k33 wk33 => ?_)
              refine Ok_if ?_ ?_
              · intro h
                have c592 : z32.toInt < i5.toInt := i32lt h
                rw [wk33]
                show Ok ((fX8_no i12).bind (fun z42 => some ((-9 : Int32), i11, z42, z31.2, f16))) _
                refine Ok_bind (ok_X8_no i12) (fun z42 hz42 => ?_)
                exact Ok_some trivial
              · intro h
                have c593 : i5.toInt ≤ z32.toInt := i32nlt h
                refine Ok_bind (ok_X8_left f15 f16 i3 i4 (by first | omega | assumption | (try simp only [tl0, tl1, tl2, tl3, tl4, tl5, tl6, tl8, tl9, tl10, tl50, tl81, tl100, tl1000, tl9999, tlm1, tlm9, tlm50, tl2147483647]; omega)) (by first | omega | assumption | (try simp only [tl0, tl1, tl2, tl3, tl4, tl5, tl6, tl8, tl9, tl10, tl50, tl81, tl100, tl1000, tl9999, tlm1, tlm9, tlm50, tl2147483647]; omega)) (by first | omega | assumption | (try simp only [tl0, tl1, tl2, tl3, tl4, tl5, tl6, tl8, tl9, tl10, tl50, tl81, tl100, tl1000, tl9999, tlm1, tlm9, tlm50, tl2147483647]; omega)) (by first | omega | assumption | (try simp only [tl0, tl1, tl2, tl3, tl4, tl5, tl6, tl8, tl9, tl10, tl50, tl81, tl100, tl1000, tl9999, tlm1, tlm9, tlm50, tl2147483647]; omega))) (fun z35 hz35 => ?_)
                refine Ok_if ?_ ?_
                · intro h
                  have c594 : z35.toInt < i5.toInt := i32lt h
                  rw [wk33]
                  show Ok ((fX8_no i12).bind (fun z42 => some ((-9 : Int32), i11, z42, z31.2, f16))) _
                  refine Ok_bind (ok_X8_no i12) (fun z42 hz42 => ?_)
                  exact Ok_some trivial
                · intro h
                  have c595 : i5.toInt ≤ z35.toInt := i32nlt h
                  refine Ok_bind (ok_X8_left f15 f16 i4 i2 (by first | omega | assumption | (try simp only [tl0, tl1, tl2, tl3, tl4, tl5, tl6, tl8, tl9, tl10, tl50, tl81, tl100, tl1000, tl9999, tlm1, tlm9, tlm50, tl2147483647]; omega)) (by first | omega | assumption | (try simp only [tl0, tl1, tl2, tl3, tl4, tl5, tl6, tl8, tl9, tl10, tl50, tl81, tl100, tl1000, tl9999, tlm1, tlm9, tlm50, tl2147483647]; omega)) (by first | omega | assumption | (try simp only [tl0, tl1, tl2, tl3, tl4, tl5, tl6, tl8, tl9, tl10, tl50, tl81, tl100, tl1000, tl9999, tlm1, tlm9, tlm50, tl2147483647]; omega)) (by first | omega | assumption | (try simp only [tl0, tl1, tl2, tl3, tl4, tl5, tl6, tl8, tl9, tl10, tl50, tl81, tl100, tl1000, tl9999, tlm1, tlm9, tlm50, tl2147483647]; omega))) (fun z36 hz36 => ?_)
                  refine Ok_if ?_ ?_
                  · intro h
                    have c596 : i5.toInt ≤ z36.toInt := i32le h
                    refine Ok_bind (ok_X8_flowOn f16 i2 i3 i5 (by first | omega | assumption | (try simp only [tl0, tl1, tl2, tl3, tl4, tl5, tl6, tl8, tl9, tl10, tl50, tl81, tl100, tl1000, tl9999, tlm1, tlm9, tlm50, tl2147483647]; omega)) (by first | omega | assumption | (try simp only [tl0, tl1, tl2, tl3, tl4, tl5, tl6, tl8, tl9, tl10, tl50, tl81, tl100, tl1000, tl9999, tlm1, tlm9, tlm50, tl2147483647]; omega)) (by first | omega | assumption | (try simp only [tl0, tl1, tl2, tl3, tl4, tl5, tl6, tl8, tl9, tl10, tl50, tl81, tl100, tl1000, tl9999, tlm1, tlm9, tlm50, tl2147483647]; omega)) (by first | omega | assumption | (try simp only [tl0, tl1, tl2, tl3, tl4, tl5, tl6, tl8, tl9, tl10, tl50, tl81, tl100, tl1000, tl9999, tlm1, tlm9, tlm50, tl2147483647]; omega))) (fun z37 hz37 => ?_)
                    refine Ok_bind (ok_X8_flowOn z37 i3 i4 i5 (by first | omega | assumption | (try simp only [tl0, tl1, tl2, tl3, tl4, tl5, tl6, tl8, tl9, tl10, tl50, tl81, tl100, tl1000, tl9999, tlm1, tlm9, tlm50, tl2147483647]; omega)) (by first | omega | assumption | (try simp only [tl0, tl1, tl2, tl3, tl4, tl5, tl6, tl8, tl9, tl10, tl50, tl81, tl100, tl1000, tl9999, tlm1, tlm9, tlm50, tl2147483647]; omega)) (by first | omega | assumption | (try simp only [tl0, tl1, tl2, tl3, tl4, tl5, tl6, tl8, tl9, tl10, tl50, tl81, tl100, tl1000, tl9999, tlm1, tlm9, tlm50, tl2147483647]; omega)) (by first | omega | assumption | (try simp only [tl0, tl1, tl2, tl3, tl4, tl5, tl6, tl8, tl9, tl10, tl50, tl81, tl100, tl1000, tl9999, tlm1, tlm9, tlm50, tl2147483647]; omega))) (fun z38 hz38 => ?_)
                    refine Ok_bind (ok_X8_flowOn z38 i4 i2 i5 (by first | omega | assumption | (try simp only [tl0, tl1, tl2, tl3, tl4, tl5, tl6, tl8, tl9, tl10, tl50, tl81, tl100, tl1000, tl9999, tlm1, tlm9, tlm50, tl2147483647]; omega)) (by first | omega | assumption | (try simp only [tl0, tl1, tl2, tl3, tl4, tl5, tl6, tl8, tl9, tl10, tl50, tl81, tl100, tl1000, tl9999, tlm1, tlm9, tlm50, tl2147483647]; omega)) (by first | omega | assumption | (try simp only [tl0, tl1, tl2, tl3, tl4, tl5, tl6, tl8, tl9, tl10, tl50, tl81, tl100, tl1000, tl9999, tlm1, tlm9, tlm50, tl2147483647]; omega)) (by first | omega | assumption | (try simp only [tl0, tl1, tl2, tl3, tl4, tl5, tl6, tl8, tl9, tl10, tl50, tl81, tl100, tl1000, tl9999, tlm1, tlm9, tlm50, tl2147483647]; omega))) (fun z39 hz39 => ?_)
                    refine Ok_bind (ok_X8_flowing z39) (fun z40 hz40 => ?_)
                    refine Ok_bind (ok_X8_did i11 z40) (fun z41 hz41 => ?_)
                    exact Ok_some trivial
                  · intro h
                    have c597 : z36.toInt < i5.toInt := i32nle h
                    rw [wk33]
                    show Ok ((fX8_no i12).bind (fun z42 => some ((-9 : Int32), i11, z42, z31.2, f16))) _
                    refine Ok_bind (ok_X8_no i12) (fun z42 hz42 => ?_)
                    exact Ok_some trivial
            · intro h
              have c598 : z31.1.toInt ≠ 0 := i32ne h
              exact Ok_some trivial
          · intro h
            have c599 : z29.toInt ≠ 0 := i32ne h
            rw [wk25]
            show Ok ((fX8_isThrown (1 : Int32) (0 : Int32)).bind (fun z31 => if z31.1 = (0 : Int32) then ((fX8_left f15 f16 i2 i3).bind (fun z32 => jn (fun (_ : Unit) => (fX8_no i12).bind (fun z42 => some ((-9 : Int32), i11, z42, z31.2, f16))) (fun (k33 : Unit → Option (Int32 × Int32 × Int32 × Int32 × (Nat → Int32))) => if z32 < i5 then (k33 ()) else ((fX8_left f15 f16 i3 i4).bind (fun z35 => if z35 < i5 then (k33 ()) else ((fX8_left f15 f16 i4 i2).bind (fun z36 => if i5 ≤ z36 then ((fX8_flowOn f16 i2 i3 i5).bind (fun z37 => (fX8_flowOn z37 i3 i4 i5).bind (fun z38 => (fX8_flowOn z38 i4 i2 i5).bind (fun z39 => (fX8_flowing z39).bind (fun z40 => (fX8_did i11 z40).bind (fun z41 => some (z41.1, z41.2, i12, z31.2, z39))))))) else (k33 ())))))))) else (some ((0 : Int32), i11, i12, z31.2, f16)))) _
            refine Ok_bind (ok_X8_isThrown (1 : Int32) (0 : Int32)) (fun z31 hz31 => ?_)
            try dsimp only at hz31
            try simp only [tl0, tl1, tl2, tl3, tl4, tl5, tl6, tl8, tl9, tl10, tl50, tl81, tl100, tl1000, tl9999, tlm1, tlm9, tlm50, tl2147483647] at hz31
            refine Ok_if ?_ ?_
            · intro h
              have c600 : z31.1.toInt = 0 := i32eq h
              refine Ok_bind (ok_X8_left f15 f16 i2 i3 (by first | omega | assumption | (try simp only [tl0, tl1, tl2, tl3, tl4, tl5, tl6, tl8, tl9, tl10, tl50, tl81, tl100, tl1000, tl9999, tlm1, tlm9, tlm50, tl2147483647]; omega)) (by first | omega | assumption | (try simp only [tl0, tl1, tl2, tl3, tl4, tl5, tl6, tl8, tl9, tl10, tl50, tl81, tl100, tl1000, tl9999, tlm1, tlm9, tlm50, tl2147483647]; omega)) (by first | omega | assumption | (try simp only [tl0, tl1, tl2, tl3, tl4, tl5, tl6, tl8, tl9, tl10, tl50, tl81, tl100, tl1000, tl9999, tlm1, tlm9, tlm50, tl2147483647]; omega)) (by first | omega | assumption | (try simp only [tl0, tl1, tl2, tl3, tl4, tl5, tl6, tl8, tl9, tl10, tl50, tl81, tl100, tl1000, tl9999, tlm1, tlm9, tlm50, tl2147483647]; omega))) (fun z32 hz32 => ?_)
              refine Ok_jn (fun k33 wk33 => ?_)
              refine Ok_if ?_ ?_
              · intro h
                have c601 : z32.toInt < i5.toInt := i32lt h
                rw [wk33]
                show Ok ((fX8_no i12).bind (fun z42 => some ((-9 : Int32), i11, z42, z31.2, f16))) _
                refine Ok_bind (ok_X8_no i12) (fun z42 hz42 => ?_)
                exact Ok_some trivial
              · intro h
                have c602 : i5.toInt ≤ z32.toInt := i32nlt h
                refine Ok_bind (ok_X8_left f15 f16 i3 i4 (by first | omega | assumption | (try simp only [tl0, tl1, tl2, tl3, tl4, tl5, tl6, tl8, tl9, tl10, tl50, tl81, tl100, tl1000, tl9999, tlm1, tlm9, tlm50, tl2147483647]; omega)) (by first | omega | assumption | (try simp only [tl0, tl1, tl2, tl3, tl4, tl5, tl6, tl8, tl9, tl10, tl50, tl81, tl100, tl1000, tl9999, tlm1, tlm9, tlm50, tl2147483647]; omega)) (by first | omega | assumption | (try simp only [tl0, tl1, tl2, tl3, tl4, tl5, tl6, tl8, tl9, tl10, tl50, tl81, tl100, tl1000, tl9999, tlm1, tlm9, tlm50, tl2147483647]; omega)) (by first | omega | assumption | (try simp only [tl0, tl1, tl2, tl3, tl4, tl5, tl6, tl8, tl9, tl10, tl50, tl81, tl100, tl1000, tl9999, tlm1, tlm9, tlm50, tl2147483647]; omega))) (fun z35 hz35 => ?_)
                refine Ok_if ?_ ?_
                · intro h
                  have c603 : z35.toInt < i5.toInt := i32lt h
                  rw [wk33]
                  show Ok ((fX8_no i12).bind (fun z42 => some ((-9 : Int32), i11, z42, z31.2, f16))) _
                  refine Ok_bind (ok_X8_no i12) (fun z42 hz42 => ?_)
                  exact Ok_some trivial
                · intro h
                  have c604 : i5.toInt ≤ z35.toInt := i32nlt h
                  refine Ok_bind (ok_X8_left f15 f16 i4 i2 (by first | omega | assumption | (try simp only [tl0, tl1, tl2, tl3, tl4, tl5, tl6, tl8, tl9, tl10, tl50, tl81, tl100, tl1000, tl9999, tlm1, tlm9, tlm50, tl2147483647]; omega)) (by first | omega | assumption | (try simp only [tl0, tl1, tl2, tl3, tl4, tl5, tl6, tl8, tl9, tl10, tl50, tl81, tl100, tl1000, tl9999, tlm1, tlm9, tlm50, tl2147483647]; omega)) (by first | omega | assumption | (try simp only [tl0, tl1, tl2, tl3, tl4, tl5, tl6, tl8, tl9, tl10, tl50, tl81, tl100, tl1000, tl9999, tlm1, tlm9, tlm50, tl2147483647]; omega)) (by first | omega | assumption | (try simp only [tl0, tl1, tl2, tl3, tl4, tl5, tl6, tl8, tl9, tl10, tl50, tl81, tl100, tl1000, tl9999, tlm1, tlm9, tlm50, tl2147483647]; omega))) (fun z36 hz36 => ?_)
                  refine Ok_if ?_ ?_
                  · intro h
                    have c605 : i5.toInt ≤ z36.toInt := i32le h
                    refine Ok_bind (ok_X8_flowOn f16 i2 i3 i5 (by first | omega | assumption | (try simp only [tl0, tl1, tl2, tl3, tl4, tl5, tl6, tl8, tl9, tl10, tl50, tl81, tl100, tl1000, tl9999, tlm1, tlm9, tlm50, tl2147483647]; omega)) (by first | omega | assumption | (try simp only [tl0, tl1, tl2, tl3, tl4, tl5, tl6, tl8, tl9, tl10, tl50, tl81, tl100, tl1000, tl9999, tlm1, tlm9, tlm50, tl2147483647]; omega)) (by first | omega | assumption | (try simp only [tl0, tl1, tl2, tl3, tl4, tl5, tl6, tl8, tl9, tl10, tl50, tl81, tl100, tl1000, tl9999, tlm1, tlm9, tlm50, tl2147483647]; omega)) (by first | omega | assumption | (try simp only [tl0, tl1, tl2, tl3, tl4, tl5, tl6, tl8, tl9, tl10, tl50, tl81, tl100, tl1000, tl9999, tlm1, tlm9, tlm50, tl2147483647]; omega))) (fun z37 hz37 => ?_)
                    refine Ok_bind (ok_X8_flowOn z37 i3 i4 i5 (by first | omega | assumption | (try simp only [tl0, tl1, tl2, tl3, tl4, tl5, tl6, tl8, tl9, tl10, tl50, tl81, tl100, tl1000, tl9999, tlm1, tlm9, tlm50, tl2147483647]; omega)) (by first | omega | assumption | (try simp only [tl0, tl1, tl2, tl3, tl4, tl5, tl6, tl8, tl9, tl10, tl50, tl81, tl100, tl1000, tl9999, tlm1, tlm9, tlm50, tl2147483647]; omega)) (by first | omega | assumption | (try simp only [tl0, tl1, tl2, tl3, tl4, tl5, tl6, tl8, tl9, tl10, tl50, tl81, tl100, tl1000, tl9999, tlm1, tlm9, tlm50, tl2147483647]; omega)) (by first | omega | assumption | (try simp only [tl0, tl1, tl2, tl3, tl4, tl5, tl6, tl8, tl9, tl10, tl50, tl81, tl100, tl1000, tl9999, tlm1, tlm9, tlm50, tl2147483647]; omega))) (fun z38 hz38 => ?_)
                    refine Ok_bind (ok_X8_flowOn z38 i4 i2 i5 (by first | omega | assumption | (try simp only [tl0, tl1, tl2, tl3, tl4, tl5, tl6, tl8, tl9, tl10, tl50, tl81, tl100, tl1000, tl9999, tlm1, tlm9, tlm50, tl2147483647]; omega)) (by first | omega | assumption | (try simp only [tl0, tl1, tl2, tl3, tl4, tl5, tl6, tl8, tl9, tl10, tl50, tl81, tl100, tl1000, tl9999, tlm1, tlm9, tlm50, tl2147483647]; omega)) (by first | omega | assumption | (try simp only [tl0, tl1, tl2, tl3, tl4, tl5, tl6, tl8, tl9, tl10, tl50, tl81, tl100, tl1000, tl9999, tlm1, tlm9, tlm50, tl2147483647]; omega)) (by first | omega | assumption | (try simp only [tl0, tl1, tl2, tl3, tl4, tl5, tl6, tl8, tl9, tl10, tl50, tl81, tl100, tl1000, tl9999, tlm1, tlm9, tlm50, tl2147483647]; omega))) (fun z39 hz39 => ?_)
                    refine Ok_bind (ok_X8_flowing z39) (fun z40 hz40 => ?_)
                    refine Ok_bind (ok_X8_did i11 z40) (fun z41 hz41 => ?_)
                    exact Ok_some trivial
                  · intro h
                    have c606 : z36.toInt < i5.toInt := i32nle h
                    rw [wk33]
                    show Ok ((fX8_no i12).bind (fun z42 => some ((-9 : Int32), i11, z42, z31.2, f16))) _
                    refine Ok_bind (ok_X8_no i12) (fun z42 hz42 => ?_)
                    exact Ok_some trivial
            · intro h
              have c607 : z31.1.toInt ≠ 0 := i32ne h
              exact Ok_some trivial
  · intro h
    have c608 : z17.toInt ≠ 0 := i32ne h
    refine Ok_bind (ok_X8_isPlace i6 i3 (by first | omega | assumption | (try simp only [tl0, tl1, tl2, tl3, tl4, tl5, tl6, tl8, tl9, tl10, tl50, tl81, tl100, tl1000, tl9999, tlm1, tlm9, tlm50, tl2147483647]; omega))) (fun z22 hz22 => ?_)
    try dsimp only at hz22
    try simp only [tl0, tl1, tl2, tl3, tl4, tl5, tl6, tl8, tl9, tl10, tl50, tl81, tl100, tl1000, tl9999, tlm1, tlm9, tlm50, tl2147483647] at hz22
    refine Ok_if ?_ ?_
    · intro h
      have c609 : z22.toInt = 0 := i32eq h
      rw [wk20]
      show Ok (k18 (1 : Int32)) _
      rw [wk18]
      show Ok (jn (fun (i30 : Int32) => (fX8_isThrown (1 : Int32) i30).bind (fun z31 => if z31.1 = (0 : Int32) then ((fX8_left f15 f16 i2 i3).bind (fun z32 => jn (fun (_ : Unit) => (fX8_no i12).bind (fun z42 => some ((-9 : Int32), i11, z42, z31.2, f16))) (fun (k33 : Unit → Option (Int32 × Int32 × Int32 × Int32 × (Nat → Int32))) => if z32 < i5 then (k33 ()) else ((fX8_left f15 f16 i3 i4).bind (fun z35 => if z35 < i5 then (k33 ()) else ((fX8_left f15 f16 i4 i2).bind (fun z36 => if i5 ≤ z36 then ((fX8_flowOn f16 i2 i3 i5).bind (fun z37 => (fX8_flowOn z37 i3 i4 i5).bind (fun z38 => (fX8_flowOn z38 i4 i2 i5).bind (fun z39 => (fX8_flowing z39).bind (fun z40 => (fX8_did i11 z40).bind (fun z41 => some (z41.1, z41.2, i12, z31.2, z39))))))) else (k33 ())))))))) else (some ((0 : Int32), i11, i12, z31.2, f16)))) (fun (k25 : Int32 → Option (Int32 × Int32 × Int32 × Int32 × (Nat → Int32))) => jn (fun (_ : Unit) => k25 (1 : Int32)) (fun (k27 : Unit → Option (Int32 × Int32 × Int32 × Int32 × (Nat → Int32))) => if i2 = i3 then (k27 ()) else (if i2 = i4 then (k27 ()) else (if i3 = i4 then (k27 ()) else ((fX8_isRoom i5).bind (fun z29 => if z29 = (0 : Int32) then (k27 ()) else (k25 (0 : Int32))))))))) _
      refine Ok_jn (fun k25 wk25 => ?_)
      refine Ok_jn (fun k27 wk27 => ?_)
      refine Ok_if ?_ ?_
      · intro h
        have c610 : i2.toInt = i3.toInt := i32eq h
        rw [wk27]
        show Ok (k25 (1 : Int32)) _
        rw [wk25]
        show Ok ((fX8_isThrown (1 : Int32) (1 : Int32)).bind (fun z31 => if z31.1 = (0 : Int32) then ((fX8_left f15 f16 i2 i3).bind (fun z32 => jn (fun (_ : Unit) => (fX8_no i12).bind (fun z42 => some ((-9 : Int32), i11, z42, z31.2, f16))) (fun (k33 : Unit → Option (Int32 × Int32 × Int32 × Int32 × (Nat → Int32))) => if z32 < i5 then (k33 ()) else ((fX8_left f15 f16 i3 i4).bind (fun z35 => if z35 < i5 then (k33 ()) else ((fX8_left f15 f16 i4 i2).bind (fun z36 => if i5 ≤ z36 then ((fX8_flowOn f16 i2 i3 i5).bind (fun z37 => (fX8_flowOn z37 i3 i4 i5).bind (fun z38 => (fX8_flowOn z38 i4 i2 i5).bind (fun z39 => (fX8_flowing z39).bind (fun z40 => (fX8_did i11 z40).bind (fun z41 => some (z41.1, z41.2, i12, z31.2, z39))))))) else (k33 ())))))))) else (some ((0 : Int32), i11, i12, z31.2, f16)))) _
        refine Ok_bind (ok_X8_isThrown (1 : Int32) (1 : Int32)) (fun z31 hz31 => ?_)
        try dsimp only at hz31
        try simp only [tl0, tl1, tl2, tl3, tl4, tl5, tl6, tl8, tl9, tl10, tl50, tl81, tl100, tl1000, tl9999, tlm1, tlm9, tlm50, tl2147483647] at hz31
        refine Ok_if ?_ ?_
        · intro h
          have c611 : z31.1.toInt = 0 := i32eq h
          refine Ok_bind (ok_X8_left f15 f16 i2 i3 (by first | omega | assumption | (try simp only [tl0, tl1, tl2, tl3, tl4, tl5, tl6, tl8, tl9, tl10, tl50, tl81, tl100, tl1000, tl9999, tlm1, tlm9, tlm50, tl2147483647]; omega)) (by first | omega | assumption | (try simp only [tl0, tl1, tl2, tl3, tl4, tl5, tl6, tl8, tl9, tl10, tl50, tl81, tl100, tl1000, tl9999, tlm1, tlm9, tlm50, tl2147483647]; omega)) (by first | omega | assumption | (try simp only [tl0, tl1, tl2, tl3, tl4, tl5, tl6, tl8, tl9, tl10, tl50, tl81, tl100, tl1000, tl9999, tlm1, tlm9, tlm50, tl2147483647]; omega)) (by first | omega | assumption | (try simp only [tl0, tl1, tl2, tl3, tl4, tl5, tl6, tl8, tl9, tl10, tl50, tl81, tl100, tl1000, tl9999, tlm1, tlm9, tlm50, tl2147483647]; omega))) (fun z32 hz32 => ?_)
          refine Ok_jn (fun k33 wk33 => ?_)
          refine Ok_if ?_ ?_
          · intro h
            have c612 : z32.toInt < i5.toInt := i32lt h
            rw [wk33]
            show Ok ((fX8_no i12).bind (fun z42 => some ((-9 : Int32), i11, z42, z31.2, f16))) _
            refine Ok_bind (ok_X8_no i12) (fun z42 hz42 => ?_)
            exact Ok_some trivial
          · intro h
            have c613 : i5.toInt ≤ z32.toInt := i32nlt h
            refine Ok_bind (ok_X8_left f15 f16 i3 i4 (by first | omega | assumption | (try simp only [tl0, tl1, tl2, tl3, tl4, tl5, tl6, tl8, tl9, tl10, tl50, tl81, tl100, tl1000, tl9999, tlm1, tlm9, tlm50, tl2147483647]; omega)) (by first | omega | assumption | (try simp only [tl0, tl1, tl2, tl3, tl4, tl5, tl6, tl8, tl9, tl10, tl50, tl81, tl100, tl1000, tl9999, tlm1, tlm9, tlm50, tl2147483647]; omega)) (by first | omega | assumption | (try simp only [tl0, tl1, tl2, tl3, tl4, tl5, tl6, tl8, tl9, tl10, tl50, tl81, tl100, tl1000, tl9999, tlm1, tlm9, tlm50, tl2147483647]; omega)) (by first | omega | assumption | (try simp only [tl0, tl1, tl2, tl3, tl4, tl5, tl6, tl8, tl9, tl10, tl50, tl81, tl100, tl1000, tl9999, tlm1, tlm9, tlm50, tl2147483647]; omega))) (fun z35 hz35 => ?_)
            refine Ok_if ?_ ?_
            · intro h
              have c614 : z35.toInt < i5.toInt := i32lt h
              rw [wk33]
              show Ok ((fX8_no i12).bind (fun z42 => some ((-9 : Int32), i11, z42, z31.2, f16))) _
              refine Ok_bind (ok_X8_no i12) (fun z42 hz42 => ?_)
              exact Ok_some trivial
            · intro h
              have c615 : i5.toInt ≤ z35.toInt := i32nlt h
              refine Ok_bind (ok_X8_left f15 f16 i4 i2 (by first | omega | assumption | (try simp only [tl0, tl1, tl2, tl3, tl4, tl5, tl6, tl8, tl9, tl10, tl50, tl81, tl100, tl1000, tl9999, tlm1, tlm9, tlm50, tl2147483647]; omega)) (by first | omega | assumption | (try simp only [tl0, tl1, tl2, tl3, tl4, tl5, tl6, tl8, tl9, tl10, tl50, tl81, tl100, tl1000, tl9999, tlm1, tlm9, tlm50, tl2147483647]; omega)) (by first | omega | assumption | (try simp only [tl0, tl1, tl2, tl3, tl4, tl5, tl6, tl8, tl9, tl10, tl50, tl81, tl100, tl1000, tl9999, tlm1, tlm9, tlm50, tl2147483647]; omega)) (by first | omega | assumption | (try simp only [tl0, tl1, tl2, tl3, tl4, tl5, tl6, tl8, tl9, tl10, tl50, tl81, tl100, tl1000, tl9999, tlm1, tlm9, tlm50, tl2147483647]; omega))) (fun z36 hz36 => ?_)
              refine Ok_if ?_ ?_
              · intro h
                have c616 : i5.toInt ≤ z36.toInt := i32le h
                refine Ok_bind (ok_X8_flowOn f16 i2 i3 i5 (by first | omega | assumption | (try simp only [tl0, tl1, tl2, tl3, tl4, tl5, tl6, tl8, tl9, tl10, tl50, tl81, tl100, tl1000, tl9999, tlm1, tlm9, tlm50, tl2147483647]; omega)) (by first | omega | assumption | (try simp only [tl0, tl1, tl2, tl3, tl4, tl5, tl6, tl8, tl9, tl10, tl50, tl81, tl100, tl1000, tl9999, tlm1, tlm9, tlm50, tl2147483647]; omega)) (by first | omega | assumption | (try simp only [tl0, tl1, tl2, tl3, tl4, tl5, tl6, tl8, tl9, tl10, tl50, tl81, tl100, tl1000, tl9999, tlm1, tlm9, tlm50, tl2147483647]; omega)) (by first | omega | assumption | (try simp only [tl0, tl1, tl2, tl3, tl4, tl5, tl6, tl8, tl9, tl10, tl50, tl81, tl100, tl1000, tl9999, tlm1, tlm9, tlm50, tl2147483647]; omega))) (fun z37 hz37 => ?_)
                refine Ok_bind (ok_X8_flowOn z37 i3 i4 i5 (by first | omega | assumption | (try simp only [tl0, tl1, tl2, tl3, tl4, tl5, tl6, tl8, tl9, tl10, tl50, tl81, tl100, tl1000, tl9999, tlm1, tlm9, tlm50, tl2147483647]; omega)) (by first | omega | assumption | (try simp only [tl0, tl1, tl2, tl3, tl4, tl5, tl6, tl8, tl9, tl10, tl50, tl81, tl100, tl1000, tl9999, tlm1, tlm9, tlm50, tl2147483647]; omega)) (by first | omega | assumption | (try simp only [tl0, tl1, tl2, tl3, tl4, tl5, tl6, tl8, tl9, tl10, tl50, tl81, tl100, tl1000, tl9999, tlm1, tlm9, tlm50, tl2147483647]; omega)) (by first | omega | assumption | (try simp only [tl0, tl1, tl2, tl3, tl4, tl5, tl6, tl8, tl9, tl10, tl50, tl81, tl100, tl1000, tl9999, tlm1, tlm9, tlm50, tl2147483647]; omega))) (fun z38 hz38 => ?_)
                refine Ok_bind (ok_X8_flowOn z38 i4 i2 i5 (by first | omega | assumption | (try simp only [tl0, tl1, tl2, tl3, tl4, tl5, tl6, tl8, tl9, tl10, tl50, tl81, tl100, tl1000, tl9999, tlm1, tlm9, tlm50, tl2147483647]; omega)) (by first | omega | assumption | (try simp only [tl0, tl1, tl2, tl3, tl4, tl5, tl6, tl8, tl9, tl10, tl50, tl81, tl100, tl1000, tl9999, tlm1, tlm9, tlm50, tl2147483647]; omega)) (by first | omega | assumption | (try simp only [tl0, tl1, tl2, tl3, tl4, tl5, tl6, tl8, tl9, tl10, tl50, tl81, tl100, tl1000, tl9999, tlm1, tlm9, tlm50, tl2147483647]; omega)) (by first | omega | assumption | (try simp only [tl0, tl1, tl2, tl3, tl4, tl5, tl6, tl8, tl9, tl10, tl50, tl81, tl100, tl1000, tl9999, tlm1, tlm9, tlm50, tl2147483647]; omega))) (fun z39 hz39 => ?_)
                refine Ok_bind (ok_X8_flowing z39) (fun z40 hz40 => ?_)
                refine Ok_bind (ok_X8_did i11 z40) (fun z41 hz41 => ?_)
                exact Ok_some trivial
              · intro h
                have c617 : z36.toInt < i5.toInt := i32nle h
                rw [wk33]
                show Ok ((fX8_no i12).bind (fun z42 => some ((-9 : Int32), i11, z42, z31.2, f16))) _
                refine Ok_bind (ok_X8_no i12) (fun z42 hz42 => ?_)
                exact Ok_some trivial
        · intro h
          have c618 : z31.1.toInt ≠ 0 := i32ne h
          exact Ok_some trivial
      · intro h
        have c619 : i2.toInt ≠ i3.toInt := i32ne h
        refine Ok_if ?_ ?_
        · intro h
          have c620 : i2.toInt = i4.toInt := i32eq h
          rw [wk27]
          show Ok (k25 (1 : Int32)) _
          rw [wk25]
          show Ok ((fX8_isThrown (1 : Int32) (1 : Int32)).bind (fun z31 => if z31.1 = (0 : Int32) then ((fX8_left f15 f16 i2 i3).bind (fun z32 => jn (fun (_ : Unit) => (fX8_no i12).bind (fun z42 => some ((-9 : Int32), i11, z42, z31.2, f16))) (fun (k33 : Unit → Option (Int32 × Int32 × Int32 × Int32 × (Nat → Int32))) => if z32 < i5 then (k33 ()) else ((fX8_left f15 f16 i3 i4).bind (fun z35 => if z35 < i5 then (k33 ()) else ((fX8_left f15 f16 i4 i2).bind (fun z36 => if i5 ≤ z36 then ((fX8_flowOn f16 i2 i3 i5).bind (fun z37 => (fX8_flowOn z37 i3 i4 i5).bind (fun z38 => (fX8_flowOn z38 i4 i2 i5).bind (fun z39 => (fX8_flowing z39).bind (fun z40 => (fX8_did i11 z40).bind (fun z41 => some (z41.1, z41.2, i12, z31.2, z39))))))) else (k33 ())))))))) else (some ((0 : Int32), i11, i12, z31.2, f16)))) _
          refine Ok_bind (ok_X8_isThrown (1 : Int32) (1 : Int32)) (fun z31 hz31 => ?_)
          try dsimp only at hz31
          try simp only [tl0, tl1, tl2, tl3, tl4, tl5, tl6, tl8, tl9, tl10, tl50, tl81, tl100, tl1000, tl9999, tlm1, tlm9, tlm50, tl2147483647] at hz31
          refine Ok_if ?_ ?_
          · intro h
            have c621 : z31.1.toInt = 0 := i32eq h
            refine Ok_bind (ok_X8_left f15 f16 i2 i3 (by first | omega | assumption | (try simp only [tl0, tl1, tl2, tl3, tl4, tl5, tl6, tl8, tl9, tl10, tl50, tl81, tl100, tl1000, tl9999, tlm1, tlm9, tlm50, tl2147483647]; omega)) (by first | omega | assumption | (try simp only [tl0, tl1, tl2, tl3, tl4, tl5, tl6, tl8, tl9, tl10, tl50, tl81, tl100, tl1000, tl9999, tlm1, tlm9, tlm50, tl2147483647]; omega)) (by first | omega | assumption | (try simp only [tl0, tl1, tl2, tl3, tl4, tl5, tl6, tl8, tl9, tl10, tl50, tl81, tl100, tl1000, tl9999, tlm1, tlm9, tlm50, tl2147483647]; omega)) (by first | omega | assumption | (try simp only [tl0, tl1, tl2, tl3, tl4, tl5, tl6, tl8, tl9, tl10, tl50, tl81, tl100, tl1000, tl9999, tlm1, tlm9, tlm50, tl2147483647]; omega))) (fun z32 hz32 => ?_)
            refine Ok_jn (fun k33 wk33 => ?_)
            refine Ok_if ?_ ?_
            · intro h
              have c622 : z32.toInt < i5.toInt := i32lt h
              rw [wk33]
              show Ok ((fX8_no i12).bind (fun z42 => some ((-9 : Int32), i11, z42, z31.2, f16))) _
              refine Ok_bind (ok_X8_no i12) (fun z42 hz42 => ?_)
              exact Ok_some trivial
            · intro h
              have c623 : i5.toInt ≤ z32.toInt := i32nlt h
              refine Ok_bind (ok_X8_left f15 f16 i3 i4 (by first | omega | assumption | (try simp only [tl0, tl1, tl2, tl3, tl4, tl5, tl6, tl8, tl9, tl10, tl50, tl81, tl100, tl1000, tl9999, tlm1, tlm9, tlm50, tl2147483647]; omega)) (by first | omega | assumption | (try simp only [tl0, tl1, tl2, tl3, tl4, tl5, tl6, tl8, tl9, tl10, tl50, tl81, tl100, tl1000, tl9999, tlm1, tlm9, tlm50, tl2147483647]; omega)) (by first | omega | assumption | (try simp only [tl0, tl1, tl2, tl3, tl4, tl5, tl6, tl8, tl9, tl10, tl50, tl81, tl100, tl1000, tl9999, tlm1, tlm9, tlm50, tl2147483647]; omega)) (by first | omega | assumption | (try simp only [tl0, tl1, tl2, tl3, tl4, tl5, tl6, tl8, tl9, tl10, tl50, tl81, tl100, tl1000, tl9999, tlm1, tlm9, tlm50, tl2147483647]; omega))) (fun z35 hz35 => ?_)
              refine Ok_if ?_ ?_
              · intro h
                have c624 : z35.toInt < i5.toInt := i32lt h
                rw [wk33]
                show Ok ((fX8_no i12).bind (fun z42 => some ((-9 : Int32), i11, z42, z31.2, f16))) _
                refine Ok_bind (ok_X8_no i12) (fun z42 hz42 => ?_)
                exact Ok_some trivial
              · intro h
                have c625 : i5.toInt ≤ z35.toInt := i32nlt h
                refine Ok_bind (ok_X8_left f15 f16 i4 i2 (by first | omega | assumption | (try simp only [tl0, tl1, tl2, tl3, tl4, tl5, tl6, tl8, tl9, tl10, tl50, tl81, tl100, tl1000, tl9999, tlm1, tlm9, tlm50, tl2147483647]; omega)) (by first | omega | assumption | (try simp only [tl0, tl1, tl2, tl3, tl4, tl5, tl6, tl8, tl9, tl10, tl50, tl81, tl100, tl1000, tl9999, tlm1, tlm9, tlm50, tl2147483647]; omega)) (by first | omega | assumption | (try simp only [tl0, tl1, tl2, tl3, tl4, tl5, tl6, tl8, tl9, tl10, tl50, tl81, tl100, tl1000, tl9999, tlm1, tlm9, tlm50, tl2147483647]; omega)) (by first | omega | assumption | (try simp only [tl0, tl1, tl2, tl3, tl4, tl5, tl6, tl8, tl9, tl10, tl50, tl81, tl100, tl1000, tl9999, tlm1, tlm9, tlm50, tl2147483647]; omega))) (fun z36 hz36 => ?_)
                refine Ok_if ?_ ?_
                · intro h
                  have c626 : i5.toInt ≤ z36.toInt := i32le h
                  refine Ok_bind (ok_X8_flowOn f16 i2 i3 i5 (by first | omega | assumption | (try simp only [tl0, tl1, tl2, tl3, tl4, tl5, tl6, tl8, tl9, tl10, tl50, tl81, tl100, tl1000, tl9999, tlm1, tlm9, tlm50, tl2147483647]; omega)) (by first | omega | assumption | (try simp only [tl0, tl1, tl2, tl3, tl4, tl5, tl6, tl8, tl9, tl10, tl50, tl81, tl100, tl1000, tl9999, tlm1, tlm9, tlm50, tl2147483647]; omega)) (by first | omega | assumption | (try simp only [tl0, tl1, tl2, tl3, tl4, tl5, tl6, tl8, tl9, tl10, tl50, tl81, tl100, tl1000, tl9999, tlm1, tlm9, tlm50, tl2147483647]; omega)) (by first | omega | assumption | (try simp only [tl0, tl1, tl2, tl3, tl4, tl5, tl6, tl8, tl9, tl10, tl50, tl81, tl100, tl1000, tl9999, tlm1, tlm9, tlm50, tl2147483647]; omega))) (fun z37 hz37 => ?_)
                  refine Ok_bind (ok_X8_flowOn z37 i3 i4 i5 (by first | omega | assumption | (try simp only [tl0, tl1, tl2, tl3, tl4, tl5, tl6, tl8, tl9, tl10, tl50, tl81, tl100, tl1000, tl9999, tlm1, tlm9, tlm50, tl2147483647]; omega)) (by first | omega | assumption | (try simp only [tl0, tl1, tl2, tl3, tl4, tl5, tl6, tl8, tl9, tl10, tl50, tl81, tl100, tl1000, tl9999, tlm1, tlm9, tlm50, tl2147483647]; omega)) (by first | omega | assumption | (try simp only [tl0, tl1, tl2, tl3, tl4, tl5, tl6, tl8, tl9, tl10, tl50, tl81, tl100, tl1000, tl9999, tlm1, tlm9, tlm50, tl2147483647]; omega)) (by first | omega | assumption | (try simp only [tl0, tl1, tl2, tl3, tl4, tl5, tl6, tl8, tl9, tl10, tl50, tl81, tl100, tl1000, tl9999, tlm1, tlm9, tlm50, tl2147483647]; omega))) (fun z38 hz38 => ?_)
                  refine Ok_bind (ok_X8_flowOn z38 i4 i2 i5 (by first | omega | assumption | (try simp only [tl0, tl1, tl2, tl3, tl4, tl5, tl6, tl8, tl9, tl10, tl50, tl81, tl100, tl1000, tl9999, tlm1, tlm9, tlm50, tl2147483647]; omega)) (by first | omega | assumption | (try simp only [tl0, tl1, tl2, tl3, tl4, tl5, tl6, tl8, tl9, tl10, tl50, tl81, tl100, tl1000, tl9999, tlm1, tlm9, tlm50, tl2147483647]; omega)) (by first | omega | assumption | (try simp only [tl0, tl1, tl2, tl3, tl4, tl5, tl6, tl8, tl9, tl10, tl50, tl81, tl100, tl1000, tl9999, tlm1, tlm9, tlm50, tl2147483647]; omega)) (by first | omega | assumption | (try simp only [tl0, tl1, tl2, tl3, tl4, tl5, tl6, tl8, tl9, tl10, tl50, tl81, tl100, tl1000, tl9999, tlm1, tlm9, tlm50, tl2147483647]; omega))) (fun z39 hz39 => ?_)
                  refine Ok_bind (ok_X8_flowing z39) (fun z40 hz40 => ?_)
                  refine Ok_bind (ok_X8_did i11 z40) (fun z41 hz41 => ?_)
                  exact Ok_some trivial
                · intro h
                  have c627 : z36.toInt < i5.toInt := i32nle h
                  rw [wk33]
                  show Ok ((fX8_no i12).bind (fun z42 => some ((-9 : Int32), i11, z42, z31.2, f16))) _
                  refine Ok_bind (ok_X8_no i12) (fun z42 hz42 => ?_)
                  exact Ok_some trivial
          · intro h
            have c628 : z31.1.toInt ≠ 0 := i32ne h
            exact Ok_some trivial
        · intro h
          have c629 : i2.toInt ≠ i4.toInt := i32ne h
          refine Ok_if ?_ ?_
          · intro h
            have c630 : i3.toInt = i4.toInt := i32eq h
            rw [wk27]
            show Ok (k25 (1 : Int32)) _
            rw [wk25]
            show Ok ((fX8_isThrown (1 : Int32) (1 : Int32)).bind (fun z31 => if z31.1 = (0 : Int32) then ((fX8_left f15 f16 i2 i3).bind (fun z32 => jn (fun (_ : Unit) => (fX8_no i12).bind (fun z42 => some ((-9 : Int32), i11, z42, z31.2, f16))) (fun (k33 : Unit → Option (Int32 × Int32 × Int32 × Int32 × (Nat → Int32))) => if z32 < i5 then (k33 ()) else ((fX8_left f15 f16 i3 i4).bind (fun z35 => if z35 < i5 then (k33 ()) else ((fX8_left f15 f16 i4 i2).bind (fun z36 => if i5 ≤ z36 then ((fX8_flowOn f16 i2 i3 i5).bind (fun z37 => (fX8_flowOn z37 i3 i4 i5).bind (fun z38 => (fX8_flowOn z38 i4 i2 i5).bind (fun z39 => (fX8_flowing z39).bind (fun z40 => (fX8_did i11 z40).bind (fun z41 => some (z41.1, z41.2, i12, z31.2, z39))))))) else (k33 ())))))))) else (some ((0 : Int32), i11, i12, z31.2, f16)))) _
            refine Ok_bind (ok_X8_isThrown (1 : Int32) (1 : Int32)) (fun z31 hz31 => ?_)
            try dsimp only at hz31
            try simp only [tl0, tl1, tl2, tl3, tl4, tl5, tl6, tl8, tl9, tl10, tl50, tl81, tl100, tl1000, tl9999, tlm1, tlm9, tlm50, tl2147483647] at hz31
            refine Ok_if ?_ ?_
            · intro h
              have c631 : z31.1.toInt = 0 := i32eq h
              refine Ok_bind (ok_X8_left f15 f16 i2 i3 (by first | omega | assumption | (try simp only [tl0, tl1, tl2, tl3, tl4, tl5, tl6, tl8, tl9, tl10, tl50, tl81, tl100, tl1000, tl9999, tlm1, tlm9, tlm50, tl2147483647]; omega)) (by first | omega | assumption | (try simp only [tl0, tl1, tl2, tl3, tl4, tl5, tl6, tl8, tl9, tl10, tl50, tl81, tl100, tl1000, tl9999, tlm1, tlm9, tlm50, tl2147483647]; omega)) (by first | omega | assumption | (try simp only [tl0, tl1, tl2, tl3, tl4, tl5, tl6, tl8, tl9, tl10, tl50, tl81, tl100, tl1000, tl9999, tlm1, tlm9, tlm50, tl2147483647]; omega)) (by first | omega | assumption | (try simp only [tl0, tl1, tl2, tl3, tl4, tl5, tl6, tl8, tl9, tl10, tl50, tl81, tl100, tl1000, tl9999, tlm1, tlm9, tlm50, tl2147483647]; omega))) (fun z32 hz32 => ?_)
              refine Ok_jn (fun k33 wk33 => ?_)
              refine Ok_if ?_ ?_
              · intro h
                have c632 : z32.toInt < i5.toInt := i32lt h
                rw [wk33]
                show Ok ((fX8_no i12).bind (fun z42 => some ((-9 : Int32), i11, z42, z31.2, f16))) _
                refine Ok_bind (ok_X8_no i12) (fun z42 hz42 => ?_)
                exact Ok_some trivial
              · intro h
                have c633 : i5.toInt ≤ z32.toInt := i32nlt h
                refine Ok_bind (ok_X8_left f15 f16 i3 i4 (by first | omega | assumption | (try simp only [tl0, tl1, tl2, tl3, tl4, tl5, tl6, tl8, tl9, tl10, tl50, tl81, tl100, tl1000, tl9999, tlm1, tlm9, tlm50, tl2147483647]; omega)) (by first | omega | assumption | (try simp only [tl0, tl1, tl2, tl3, tl4, tl5, tl6, tl8, tl9, tl10, tl50, tl81, tl100, tl1000, tl9999, tlm1, tlm9, tlm50, tl2147483647]; omega)) (by first | omega | assumption | (try simp only [tl0, tl1, tl2, tl3, tl4, tl5, tl6, tl8, tl9, tl10, tl50, tl81, tl100, tl1000, tl9999, tlm1, tlm9, tlm50, tl2147483647]; omega)) (by first | omega | assumption | (try simp only [tl0, tl1, tl2, tl3, tl4, tl5, tl6, tl8, tl9, tl10, tl50, tl81, tl100, tl1000, tl9999, tlm1, tlm9, tlm50, tl2147483647]; omega))) (fun z35 hz35 => ?_)
                refine Ok_if ?_ ?_
                · intro h
                  have c634 : z35.toInt < i5.toInt := i32lt h
                  rw [wk33]
                  show Ok ((fX8_no i12).bind (fun z42 => some ((-9 : Int32), i11, z42, z31.2, f16))) _
                  refine Ok_bind (ok_X8_no i12) (fun z42 hz42 => ?_)
                  exact Ok_some trivial
                · intro h
                  have c635 : i5.toInt ≤ z35.toInt := i32nlt h
                  refine Ok_bind (ok_X8_left f15 f16 i4 i2 (by first | omega | assumption | (try simp only [tl0, tl1, tl2, tl3, tl4, tl5, tl6, tl8, tl9, tl10, tl50, tl81, tl100, tl1000, tl9999, tlm1, tlm9, tlm50, tl2147483647]; omega)) (by first | omega | assumption | (try simp only [tl0, tl1, tl2, tl3, tl4, tl5, tl6, tl8, tl9, tl10, tl50, tl81, tl100, tl1000, tl9999, tlm1, tlm9, tlm50, tl2147483647]; omega)) (by first | omega | assumption | (try simp only [tl0, tl1, tl2, tl3, tl4, tl5, tl6, tl8, tl9, tl10, tl50, tl81, tl100, tl1000, tl9999, tlm1, tlm9, tlm50, tl2147483647]; omega)) (by first | omega | assumption | (try simp only [tl0, tl1, tl2, tl3, tl4, tl5, tl6, tl8, tl9, tl10, tl50, tl81, tl100, tl1000, tl9999, tlm1, tlm9, tlm50, tl2147483647]; omega))) (fun z36 hz36 => ?_)
                  refine Ok_if ?_ ?_
                  · intro h
                    have c636 : i5.toInt ≤ z36.toInt := i32le h
                    refine Ok_bind (ok_X8_flowOn f16 i2 i3 i5 (by first | omega | assumption | (try simp only [tl0, tl1, tl2, tl3, tl4, tl5, tl6, tl8, tl9, tl10, tl50, tl81, tl100, tl1000, tl9999, tlm1, tlm9, tlm50, tl2147483647]; omega)) (by first | omega | assumption | (try simp only [tl0, tl1, tl2, tl3, tl4, tl5, tl6, tl8, tl9, tl10, tl50, tl81, tl100, tl1000, tl9999, tlm1, tlm9, tlm50, tl2147483647]; omega)) (by first | omega | assumption | (try simp only [tl0, tl1, tl2, tl3, tl4, tl5, tl6, tl8, tl9, tl10, tl50, tl81, tl100, tl1000, tl9999, tlm1, tlm9, tlm50, tl2147483647]; omega)) (by first | omega | assumption | (try simp only [tl0, tl1, tl2, tl3, tl4, tl5, tl6, tl8, tl9, tl10, tl50, tl81, tl100, tl1000, tl9999, tlm1, tlm9, tlm50, tl2147483647]; omega))) (fun z37 hz37 => ?_)
                    refine Ok_bind (ok_X8_flowOn z37 i3 i4 i5 (by first | omega | assumption | (try simp only [tl0, tl1, tl2, tl3, tl4, tl5, tl6, tl8, tl9, tl10, tl50, tl81, tl100, tl1000, tl9999, tlm1, tlm9, tlm50, tl2147483647]; omega)) (by first | omega | assumption | (try simp only [tl0, tl1, tl2, tl3, tl4, tl5, tl6, tl8, tl9, tl10, tl50, tl81, tl100, tl1000, tl9999, tlm1, tlm9, tlm50, tl2147483647]; omega)) (by first | omega | assumption | (try simp only [tl0, tl1, tl2, tl3, tl4, tl5, tl6, tl8, tl9, tl10, tl50, tl81, tl100, tl1000, tl9999, tlm1, tlm9, tlm50, tl2147483647]; omega)) (by first | omega | assumption | (try simp only [tl0, tl1, tl2, tl3, tl4, tl5, tl6, tl8, tl9, tl10, tl50, tl81, tl100, tl1000, tl9999, tlm1, tlm9, tlm50, tl2147483647]; omega))) (fun z38 hz38 => ?_)
                    refine Ok_bind (ok_X8_flowOn z38 i4 i2 i5 (by first | omega | assumption | (try simp only [tl0, tl1, tl2, tl3, tl4, tl5, tl6, tl8, tl9, tl10, tl50, tl81, tl100, tl1000, tl9999, tlm1, tlm9, tlm50, tl2147483647]; omega)) (by first | omega | assumption | (try simp only [tl0, tl1, tl2, tl3, tl4, tl5, tl6, tl8, tl9, tl10, tl50, tl81, tl100, tl1000, tl9999, tlm1, tlm9, tlm50, tl2147483647]; omega)) (by first | omega | assumption | (try simp only [tl0, tl1, tl2, tl3, tl4, tl5, tl6, tl8, tl9, tl10, tl50, tl81, tl100, tl1000, tl9999, tlm1, tlm9, tlm50, tl2147483647]; omega)) (by first | omega | assumption | (try simp only [tl0, tl1, tl2, tl3, tl4, tl5, tl6, tl8, tl9, tl10, tl50, tl81, tl100, tl1000, tl9999, tlm1, tlm9, tlm50, tl2147483647]; omega))) (fun z39 hz39 => ?_)
                    refine Ok_bind (ok_X8_flowing z39) (fun z40 hz40 => ?_)
                    refine Ok_bind (ok_X8_did i11 z40) (fun z41 hz41 => ?_)
                    exact Ok_some trivial
                  · intro h
                    have c637 : z36.toInt < i5.toInt := i32nle h
                    rw [wk33]
                    show Ok ((fX8_no i12).bind (fun z42 => some ((-9 : Int32), i11, z42, z31.2, f16))) _
                    refine Ok_bind (ok_X8_no i12) (fun z42 hz42 => ?_)
                    exact Ok_some trivial
            · intro h
              have c638 : z31.1.toInt ≠ 0 := i32ne h
              exact Ok_some trivial
          · intro h
            have c639 : i3.toInt ≠ i4.toInt := i32ne h
            refine Ok_bind (ok_X8_isRoom i5) (fun z29 hz29 => ?_)
            try dsimp only at hz29
            try simp only [tl0, tl1, tl2, tl3, tl4, tl5, tl6, tl8, tl9, tl10, tl50, tl81, tl100, tl1000, tl9999, tlm1, tlm9, tlm50, tl2147483647] at hz29
            refine Ok_if ?_ ?_
            · intro h
              have c640 : z29.toInt = 0 := i32eq h
              rw [wk27]
              show Ok (k25 (1 : Int32)) _
              rw [wk25]
              show Ok ((fX8_isThrown (1 : Int32) (1 : Int32)).bind (fun z31 => if z31.1 = (0 : Int32) then ((fX8_left f15 f16 i2 i3).bind (fun z32 => jn (fun (_ : Unit) => (fX8_no i12).bind (fun z42 => some ((-9 : Int32), i11, z42, z31.2, f16))) (fun (k33 : Unit → Option (Int32 × Int32 × Int32 × Int32 × (Nat → Int32))) => if z32 < i5 then (k33 ()) else ((fX8_left f15 f16 i3 i4).bind (fun z35 => if z35 < i5 then (k33 ()) else ((fX8_left f15 f16 i4 i2).bind (fun z36 => if i5 ≤ z36 then ((fX8_flowOn f16 i2 i3 i5).bind (fun z37 => (fX8_flowOn z37 i3 i4 i5).bind (fun z38 => (fX8_flowOn z38 i4 i2 i5).bind (fun z39 => (fX8_flowing z39).bind (fun z40 => (fX8_did i11 z40).bind (fun z41 => some (z41.1, z41.2, i12, z31.2, z39))))))) else (k33 ())))))))) else (some ((0 : Int32), i11, i12, z31.2, f16)))) _
              refine Ok_bind (ok_X8_isThrown (1 : Int32) (1 : Int32)) (fun z31 hz31 => ?_)
              try dsimp only at hz31
              try simp only [tl0, tl1, tl2, tl3, tl4, tl5, tl6, tl8, tl9, tl10, tl50, tl81, tl100, tl1000, tl9999, tlm1, tlm9, tlm50, tl2147483647] at hz31
              refine Ok_if ?_ ?_
              · intro h
                have c641 : z31.1.toInt = 0 := i32eq h
                refine Ok_bind (ok_X8_left f15 f16 i2 i3 (by first | omega | assumption | (try simp only [tl0, tl1, tl2, tl3, tl4, tl5, tl6, tl8, tl9, tl10, tl50, tl81, tl100, tl1000, tl9999, tlm1, tlm9, tlm50, tl2147483647]; omega)) (by first | omega | assumption | (try simp only [tl0, tl1, tl2, tl3, tl4, tl5, tl6, tl8, tl9, tl10, tl50, tl81, tl100, tl1000, tl9999, tlm1, tlm9, tlm50, tl2147483647]; omega)) (by first | omega | assumption | (try simp only [tl0, tl1, tl2, tl3, tl4, tl5, tl6, tl8, tl9, tl10, tl50, tl81, tl100, tl1000, tl9999, tlm1, tlm9, tlm50, tl2147483647]; omega)) (by first | omega | assumption | (try simp only [tl0, tl1, tl2, tl3, tl4, tl5, tl6, tl8, tl9, tl10, tl50, tl81, tl100, tl1000, tl9999, tlm1, tlm9, tlm50, tl2147483647]; omega))) (fun z32 hz32 => ?_)
                refine Ok_jn (fun k33 wk33 => ?_)
                refine Ok_if ?_ ?_
                · intro h
                  have c642 : z32.toInt < i5.toInt := i32lt h
                  rw [wk33]
                  show Ok ((fX8_no i12).bind (fun z42 => some ((-9 : Int32), i11, z42, z31.2, f16))) _
                  refine Ok_bind (ok_X8_no i12) (fun z42 hz42 => ?_)
                  exact Ok_some trivial
                · intro h
                  have c643 : i5.toInt ≤ z32.toInt := i32nlt h
                  refine Ok_bind (ok_X8_left f15 f16 i3 i4 (by first | omega | assumption | (try simp only [tl0, tl1, tl2, tl3, tl4, tl5, tl6, tl8, tl9, tl10, tl50, tl81, tl100, tl1000, tl9999, tlm1, tlm9, tlm50, tl2147483647]; omega)) (by first | omega | assumption | (try simp only [tl0, tl1, tl2, tl3, tl4, tl5, tl6, tl8, tl9, tl10, tl50, tl81, tl100, tl1000, tl9999, tlm1, tlm9, tlm50, tl2147483647]; omega)) (by first | omega | assumption | (try simp only [tl0, tl1, tl2, tl3, tl4, tl5, tl6, tl8, tl9, tl10, tl50, tl81, tl100, tl1000, tl9999, tlm1, tlm9, tlm50, tl2147483647]; omega)) (by first | omega | assumption | (try simp only [tl0, tl1, tl2, tl3, tl4, tl5, tl6, tl8, tl9, tl10, tl50, tl81, tl100, tl1000, tl9999, tlm1, tlm9, tlm50, tl2147483647]; omega))) (fun z35 hz35 => ?_)
                  refine Ok_if ?_ ?_
                  · intro h
                    have c644 : z35.toInt < i5.toInt := i32lt h
                    rw [wk33]
                    show Ok ((fX8_no i12).bind (fun z42 => some ((-9 : Int32), i11, z42, z31.2, f16))) _
                    refine Ok_bind (ok_X8_no i12) (fun z42 hz42 => ?_)
                    exact Ok_some trivial
                  · intro h
                    have c645 : i5.toInt ≤ z35.toInt := i32nlt h
                    refine Ok_bind (ok_X8_left f15 f16 i4 i2 (by first | omega | assumption | (try simp only [tl0, tl1, tl2, tl3, tl4, tl5, tl6, tl8, tl9, tl10, tl50, tl81, tl100, tl1000, tl9999, tlm1, tlm9, tlm50, tl2147483647]; omega)) (by first | omega | assumption | (try simp only [tl0, tl1, tl2, tl3, tl4, tl5, tl6, tl8, tl9, tl10, tl50, tl81, tl100, tl1000, tl9999, tlm1, tlm9, tlm50, tl2147483647]; omega)) (by first | omega | assumption | (try simp only [tl0, tl1, tl2, tl3, tl4, tl5, tl6, tl8, tl9, tl10, tl50, tl81, tl100, tl1000, tl9999, tlm1, tlm9, tlm50, tl2147483647]; omega)) (by first | omega | assumption | (try simp only [tl0, tl1, tl2, tl3, tl4, tl5, tl6, tl8, tl9, tl10, tl50, tl81, tl100, tl1000, tl9999, tlm1, tlm9, tlm50, tl2147483647]; omega))) (fun z36 hz36 => ?_)
                    refine Ok_if ?_ ?_
                    · intro h
                      have c646 : i5.toInt ≤ z36.toInt := i32le h
                      refine Ok_bind (ok_X8_flowOn f16 i2 i3 i5 (by first | omega | assumption | (try simp only [tl0, tl1, tl2, tl3, tl4, tl5, tl6, tl8, tl9, tl10, tl50, tl81, tl100, tl1000, tl9999, tlm1, tlm9, tlm50, tl2147483647]; omega)) (by first | omega | assumption | (try simp only [tl0, tl1, tl2, tl3, tl4, tl5, tl6, tl8, tl9, tl10, tl50, tl81, tl100, tl1000, tl9999, tlm1, tlm9, tlm50, tl2147483647]; omega)) (by first | omega | assumption | (try simp only [tl0, tl1, tl2, tl3, tl4, tl5, tl6, tl8, tl9, tl10, tl50, tl81, tl100, tl1000, tl9999, tlm1, tlm9, tlm50, tl2147483647]; omega)) (by first | omega | assumption | (try simp only [tl0, tl1, tl2, tl3, tl4, tl5, tl6, tl8, tl9, tl10, tl50, tl81, tl100, tl1000, tl9999, tlm1, tlm9, tlm50, tl2147483647]; omega))) (fun z37 hz37 => ?_)
                      refine Ok_bind (ok_X8_flowOn z37 i3 i4 i5 (by first | omega | assumption | (try simp only [tl0, tl1, tl2, tl3, tl4, tl5, tl6, tl8, tl9, tl10, tl50, tl81, tl100, tl1000, tl9999, tlm1, tlm9, tlm50, tl2147483647]; omega)) (by first | omega | assumption | (try simp only [tl0, tl1, tl2, tl3, tl4, tl5, tl6, tl8, tl9, tl10, tl50, tl81, tl100, tl1000, tl9999, tlm1, tlm9, tlm50, tl2147483647]; omega)) (by first | omega | assumption | (try simp only [tl0, tl1, tl2, tl3, tl4, tl5, tl6, tl8, tl9, tl10, tl50, tl81, tl100, tl1000, tl9999, tlm1, tlm9, tlm50, tl2147483647]; omega)) (by first | omega | assumption | (try simp only [tl0, tl1, tl2, tl3, tl4, tl5, tl6, tl8, tl9, tl10, tl50, tl81, tl100, tl1000, tl9999, tlm1, tlm9, tlm50, tl2147483647]; omega))) (fun z38 hz38 => ?_)
                      refine Ok_bind (ok_X8_flowOn z38 i4 i2 i5 (by first | omega | assumption | (try simp only [tl0, tl1, tl2, tl3, tl4, tl5, tl6, tl8, tl9, tl10, tl50, tl81, tl100, tl1000, tl9999, tlm1, tlm9, tlm50, tl2147483647]; omega)) (by first | omega | assumption | (try simp only [tl0, tl1, tl2, tl3, tl4, tl5, tl6, tl8, tl9, tl10, tl50, tl81, tl100, tl1000, tl9999, tlm1, tlm9, tlm50, tl2147483647]; omega)) (by first | omega | assumption | (try simp only [tl0, tl1, tl2, tl3, tl4, tl5, tl6, tl8, tl9, tl10, tl50, tl81, tl100, tl1000, tl9999, tlm1, tlm9, tlm50, tl2147483647]; omega)) (by first | omega | assumption | (try simp only [tl0, tl1, tl2, tl3, tl4, tl5, tl6, tl8, tl9, tl10, tl50, tl81, tl100, tl1000, tl9999, tlm1, tlm9, tlm50, tl2147483647]; omega))) (fun z39 hz39 => ?_)
                      refine Ok_bind (ok_X8_flowing z39) (fun z40 hz40 => ?_)
                      refine Ok_bind (ok_X8_did i11 z40) (fun z41 hz41 => ?_)
                      exact Ok_some trivial
                    · intro h
                      have c647 : z36.toInt < i5.toInt := i32nle h
                      rw [wk33]
                      show Ok ((fX8_no i12).bind (fun z42 => some ((-9 : Int32), i11, z42, z31.2, f16))) _
                      refine Ok_bind (ok_X8_no i12) (fun z42 hz42 => ?_)
                      exact Ok_some trivial
              · intro h
                have c648 : z31.1.toInt ≠ 0 := i32ne h
                exact Ok_some trivial
            · intro h
              have c649 : z29.toInt ≠ 0 := i32ne h
              rw [wk25]
              show Ok ((fX8_isThrown (1 : Int32) (0 : Int32)).bind (fun z31 => if z31.1 = (0 : Int32) then ((fX8_left f15 f16 i2 i3).bind (fun z32 => jn (fun (_ : Unit) => (fX8_no i12).bind (fun z42 => some ((-9 : Int32), i11, z42, z31.2, f16))) (fun (k33 : Unit → Option (Int32 × Int32 × Int32 × Int32 × (Nat → Int32))) => if z32 < i5 then (k33 ()) else ((fX8_left f15 f16 i3 i4).bind (fun z35 => if z35 < i5 then (k33 ()) else ((fX8_left f15 f16 i4 i2).bind (fun z36 => if i5 ≤ z36 then ((fX8_flowOn f16 i2 i3 i5).bind (fun z37 => (fX8_flowOn z37 i3 i4 i5).bind (fun z38 => (fX8_flowOn z38 i4 i2 i5).bind (fun z39 => (fX8_flowing z39).bind (fun z40 => (fX8_did i11 z40).bind (fun z41 => some (z41.1, z41.2, i12, z31.2, z39))))))) else (k33 ())))))))) else (some ((0 : Int32), i11, i12, z31.2, f16)))) _
              refine Ok_bind (ok_X8_isThrown (1 : Int32) (0 : Int32)) (fun z31 hz31 => ?_)
              try dsimp only at hz31
              try simp only [tl0, tl1, tl2, tl3, tl4, tl5, tl6, tl8, tl9, tl10, tl50, tl81, tl100, tl1000, tl9999, tlm1, tlm9, tlm50, tl2147483647] at hz31
              refine Ok_if ?_ ?_
              · intro h
                have c650 : z31.1.toInt = 0 := i32eq h
                refine Ok_bind (ok_X8_left f15 f16 i2 i3 (by first | omega | assumption | (try simp only [tl0, tl1, tl2, tl3, tl4, tl5, tl6, tl8, tl9, tl10, tl50, tl81, tl100, tl1000, tl9999, tlm1, tlm9, tlm50, tl2147483647]; omega)) (by first | omega | assumption | (try simp only [tl0, tl1, tl2, tl3, tl4, tl5, tl6, tl8, tl9, tl10, tl50, tl81, tl100, tl1000, tl9999, tlm1, tlm9, tlm50, tl2147483647]; omega)) (by first | omega | assumption | (try simp only [tl0, tl1, tl2, tl3, tl4, tl5, tl6, tl8, tl9, tl10, tl50, tl81, tl100, tl1000, tl9999, tlm1, tlm9, tlm50, tl2147483647]; omega)) (by first | omega | assumption | (try simp only [tl0, tl1, tl2, tl3, tl4, tl5, tl6, tl8, tl9, tl10, tl50, tl81, tl100, tl1000, tl9999, tlm1, tlm9, tlm50, tl2147483647]; omega))) (fun z32 hz32 => ?_)
                refine Ok_jn (fun k33 wk33 => ?_)
                refine Ok_if ?_ ?_
                · intro h
                  have c651 : z32.toInt < i5.toInt := i32lt h
                  rw [wk33]
                  show Ok ((fX8_no i12).bind (fun z42 => some ((-9 : Int32), i11, z42, z31.2, f16))) _
                  refine Ok_bind (ok_X8_no i12) (fun z42 hz42 => ?_)
                  exact Ok_some trivial
                · intro h
                  have c652 : i5.toInt ≤ z32.toInt := i32nlt h
                  refine Ok_bind (ok_X8_left f15 f16 i3 i4 (by first | omega | assumption | (try simp only [tl0, tl1, tl2, tl3, tl4, tl5, tl6, tl8, tl9, tl10, tl50, tl81, tl100, tl1000, tl9999, tlm1, tlm9, tlm50, tl2147483647]; omega)) (by first | omega | assumption | (try simp only [tl0, tl1, tl2, tl3, tl4, tl5, tl6, tl8, tl9, tl10, tl50, tl81, tl100, tl1000, tl9999, tlm1, tlm9, tlm50, tl2147483647]; omega)) (by first | omega | assumption | (try simp only [tl0, tl1, tl2, tl3, tl4, tl5, tl6, tl8, tl9, tl10, tl50, tl81, tl100, tl1000, tl9999, tlm1, tlm9, tlm50, tl2147483647]; omega)) (by first | omega | assumption | (try simp only [tl0, tl1, tl2, tl3, tl4, tl5, tl6, tl8, tl9, tl10, tl50, tl81, tl100, tl1000, tl9999, tlm1, tlm9, tlm50, tl2147483647]; omega))) (fun z35 hz35 => ?_)
                  refine Ok_if ?_ ?_
                  · intro h
                    have c653 : z35.toInt < i5.toInt := i32lt h
                    rw [wk33]
                    show Ok ((fX8_no i12).bind (fun z42 => some ((-9 : Int32), i11, z42, z31.2, f16))) _
                    refine Ok_bind (ok_X8_no i12) (fun z42 hz42 => ?_)
                    exact Ok_some trivial
                  · intro h
                    have c654 : i5.toInt ≤ z35.toInt := i32nlt h
                    refine Ok_bind (ok_X8_left f15 f16 i4 i2 (by first | omega | assumption | (try simp only [tl0, tl1, tl2, tl3, tl4, tl5, tl6, tl8, tl9, tl10, tl50, tl81, tl100, tl1000, tl9999, tlm1, tlm9, tlm50, tl2147483647]; omega)) (by first | omega | assumption | (try simp only [tl0, tl1, tl2, tl3, tl4, tl5, tl6, tl8, tl9, tl10, tl50, tl81, tl100, tl1000, tl9999, tlm1, tlm9, tlm50, tl2147483647]; omega)) (by first | omega | assumption | (try simp only [tl0, tl1, tl2, tl3, tl4, tl5, tl6, tl8, tl9, tl10, tl50, tl81, tl100, tl1000, tl9999, tlm1, tlm9, tlm50, tl2147483647]; omega)) (by first | omega | assumption | (try simp only [tl0, tl1, tl2, tl3, tl4, tl5, tl6, tl8, tl9, tl10, tl50, tl81, tl100, tl1000, tl9999, tlm1, tlm9, tlm50, tl2147483647]; omega))) (fun z36 hz36 => ?_)
                    refine Ok_if ?_ ?_
                    · intro h
                      have c655 : i5.toInt ≤ z36.toInt := i32le h
                      refine Ok_bind (ok_X8_flowOn f16 i2 i3 i5 (by first | omega | assumption | (try simp only [tl0, tl1, tl2, tl3, tl4, tl5, tl6, tl8, tl9, tl10, tl50, tl81, tl100, tl1000, tl9999, tlm1, tlm9, tlm50, tl2147483647]; omega)) (by first | omega | assumption | (try simp only [tl0, tl1, tl2, tl3, tl4, tl5, tl6, tl8, tl9, tl10, tl50, tl81, tl100, tl1000, tl9999, tlm1, tlm9, tlm50, tl2147483647]; omega)) (by first | omega | assumption | (try simp only [tl0, tl1, tl2, tl3, tl4, tl5, tl6, tl8, tl9, tl10, tl50, tl81, tl100, tl1000, tl9999, tlm1, tlm9, tlm50, tl2147483647]; omega)) (by first | omega | assumption | (try simp only [tl0, tl1, tl2, tl3, tl4, tl5, tl6, tl8, tl9, tl10, tl50, tl81, tl100, tl1000, tl9999, tlm1, tlm9, tlm50, tl2147483647]; omega))) (fun z37 hz37 => ?_)
                      refine Ok_bind (ok_X8_flowOn z37 i3 i4 i5 (by first | omega | assumption | (try simp only [tl0, tl1, tl2, tl3, tl4, tl5, tl6, tl8, tl9, tl10, tl50, tl81, tl100, tl1000, tl9999, tlm1, tlm9, tlm50, tl2147483647]; omega)) (by first | omega | assumption | (try simp only [tl0, tl1, tl2, tl3, tl4, tl5, tl6, tl8, tl9, tl10, tl50, tl81, tl100, tl1000, tl9999, tlm1, tlm9, tlm50, tl2147483647]; omega)) (by first | omega | assumption | (try simp only [tl0, tl1, tl2, tl3, tl4, tl5, tl6, tl8, tl9, tl10, tl50, tl81, tl100, tl1000, tl9999, tlm1, tlm9, tlm50, tl2147483647]; omega)) (by first | omega | assumption | (try simp only [tl0, tl1, tl2, tl3, tl4, tl5, tl6, tl8, tl9, tl10, tl50, tl81, tl100, tl1000, tl9999, tlm1, tlm9, tlm50, tl2147483647]; omega))) (fun z38 hz38 => ?_)
                      refine Ok_bind (ok_X8_flowOn z38 i4 i2 i5 (by first | omega | assumption | (try simp only [tl0, tl1, tl2, tl3, tl4, tl5, tl6, tl8, tl9, tl10, tl50, tl81, tl100, tl1000, tl9999, tlm1, tlm9, tlm50, tl2147483647]; omega)) (by first | omega | assumption | (try simp only [tl0, tl1, tl2, tl3, tl4, tl5, tl6, tl8, tl9, tl10, tl50, tl81, tl100, tl1000, tl9999, tlm1, tlm9, tlm50, tl2147483647]; omega)) (by first | omega | assumption | (try simp only [tl0, tl1, tl2, tl3, tl4, tl5, tl6, tl8, tl9, tl10, tl50, tl81, tl100, tl1000, tl9999, tlm1, tlm9, tlm50, tl2147483647]; omega)) (by first | omega | assumption | (try simp only [tl0, tl1, tl2, tl3, tl4, tl5, tl6, tl8, tl9, tl10, tl50, tl81, tl100, tl1000, tl9999, tlm1, tlm9, tlm50, tl2147483647]; omega))) (fun z39 hz39 => ?_)
                      refine Ok_bind (ok_X8_flowing z39) (fun z40 hz40 => ?_)
                      refine Ok_bind (ok_X8_did i11 z40) (fun z41 hz41 => ?_)
                      exact Ok_some trivial
                    · intro h
                      have c656 : z36.toInt < i5.toInt := i32nle h
                      rw [wk33]
                      show Ok ((fX8_no i12).bind (fun z42 => some ((-9 : Int32), i11, z42, z31.2, f16))) _
                      refine Ok_bind (ok_X8_no i12) (fun z42 hz42 => ?_)
                      exact Ok_some trivial
              · intro h
                have c657 : z31.1.toInt ≠ 0 := i32ne h
                exact Ok_some trivial
    · intro h
      have c658 : z22.toInt ≠ 0 := i32ne h
      refine Ok_bind (ok_X8_isPlace i6 i4 (by first | omega | assumption | (try simp only [tl0, tl1, tl2, tl3, tl4, tl5, tl6, tl8, tl9, tl10, tl50, tl81, tl100, tl1000, tl9999, tlm1, tlm9, tlm50, tl2147483647]; omega))) (fun z23 hz23 => ?_)
      try dsimp only at hz23
      try simp only [tl0, tl1, tl2, tl3, tl4, tl5, tl6, tl8, tl9, tl10, tl50, tl81, tl100, tl1000, tl9999, tlm1, tlm9, tlm50, tl2147483647] at hz23
      refine Ok_if ?_ ?_
      · intro h
        have c659 : z23.toInt = 0 := i32eq h
        rw [wk20]
        show Ok (k18 (1 : Int32)) _
        rw [wk18]
        show Ok (jn (fun (i30 : Int32) => (fX8_isThrown (1 : Int32) i30).bind (fun z31 => if z31.1 = (0 : Int32) then ((fX8_left f15 f16 i2 i3).bind (fun z32 => jn (fun (_ : Unit) => (fX8_no i12).bind (fun z42 => some ((-9 : Int32), i11, z42, z31.2, f16))) (fun (k33 : Unit → Option (Int32 × Int32 × Int32 × Int32 × (Nat → Int32))) => if z32 < i5 then (k33 ()) else ((fX8_left f15 f16 i3 i4).bind (fun z35 => if z35 < i5 then (k33 ()) else ((fX8_left f15 f16 i4 i2).bind (fun z36 => if i5 ≤ z36 then ((fX8_flowOn f16 i2 i3 i5).bind (fun z37 => (fX8_flowOn z37 i3 i4 i5).bind (fun z38 => (fX8_flowOn z38 i4 i2 i5).bind (fun z39 => (fX8_flowing z39).bind (fun z40 => (fX8_did i11 z40).bind (fun z41 => some (z41.1, z41.2, i12, z31.2, z39))))))) else (k33 ())))))))) else (some ((0 : Int32), i11, i12, z31.2, f16)))) (fun (k25 : Int32 → Option (Int32 × Int32 × Int32 × Int32 × (Nat → Int32))) => jn (fun (_ : Unit) => k25 (1 : Int32)) (fun (k27 : Unit → Option (Int32 × Int32 × Int32 × Int32 × (Nat → Int32))) => if i2 = i3 then (k27 ()) else (if i2 = i4 then (k27 ()) else (if i3 = i4 then (k27 ()) else ((fX8_isRoom i5).bind (fun z29 => if z29 = (0 : Int32) then (k27 ()) else (k25 (0 : Int32))))))))) _
        refine Ok_jn (fun k25 wk25 => ?_)
        refine Ok_jn (fun k27 wk27 => ?_)
        refine Ok_if ?_ ?_
        · intro h
          have c660 : i2.toInt = i3.toInt := i32eq h
          rw [wk27]
          show Ok (k25 (1 : Int32)) _
          rw [wk25]
          show Ok ((fX8_isThrown (1 : Int32) (1 : Int32)).bind (fun z31 => if z31.1 = (0 : Int32) then ((fX8_left f15 f16 i2 i3).bind (fun z32 => jn (fun (_ : Unit) => (fX8_no i12).bind (fun z42 => some ((-9 : Int32), i11, z42, z31.2, f16))) (fun (k33 : Unit → Option (Int32 × Int32 × Int32 × Int32 × (Nat → Int32))) => if z32 < i5 then (k33 ()) else ((fX8_left f15 f16 i3 i4).bind (fun z35 => if z35 < i5 then (k33 ()) else ((fX8_left f15 f16 i4 i2).bind (fun z36 => if i5 ≤ z36 then ((fX8_flowOn f16 i2 i3 i5).bind (fun z37 => (fX8_flowOn z37 i3 i4 i5).bind (fun z38 => (fX8_flowOn z38 i4 i2 i5).bind (fun z39 => (fX8_flowing z39).bind (fun z40 => (fX8_did i11 z40).bind (fun z41 => some (z41.1, z41.2, i12, z31.2, z39))))))) else (k33 ())))))))) else (some ((0 : Int32), i11, i12, z31.2, f16)))) _
          refine Ok_bind (ok_X8_isThrown (1 : Int32) (1 : Int32)) (fun z31 hz31 => ?_)
          try dsimp only at hz31
          try simp only [tl0, tl1, tl2, tl3, tl4, tl5, tl6, tl8, tl9, tl10, tl50, tl81, tl100, tl1000, tl9999, tlm1, tlm9, tlm50, tl2147483647] at hz31
          refine Ok_if ?_ ?_
          · intro h
            have c661 : z31.1.toInt = 0 := i32eq h
            refine Ok_bind (ok_X8_left f15 f16 i2 i3 (by first | omega | assumption | (try simp only [tl0, tl1, tl2, tl3, tl4, tl5, tl6, tl8, tl9, tl10, tl50, tl81, tl100, tl1000, tl9999, tlm1, tlm9, tlm50, tl2147483647]; omega)) (by first | omega | assumption | (try simp only [tl0, tl1, tl2, tl3, tl4, tl5, tl6, tl8, tl9, tl10, tl50, tl81, tl100, tl1000, tl9999, tlm1, tlm9, tlm50, tl2147483647]; omega)) (by first | omega | assumption | (try simp only [tl0, tl1, tl2, tl3, tl4, tl5, tl6, tl8, tl9, tl10, tl50, tl81, tl100, tl1000, tl9999, tlm1, tlm9, tlm50, tl2147483647]; omega)) (by first | omega | assumption | (try simp only [tl0, tl1, tl2, tl3, tl4, tl5, tl6, tl8, tl9, tl10, tl50, tl81, tl100, tl1000, tl9999, tlm1, tlm9, tlm50, tl2147483647]; omega))) (fun z32 hz32 => ?_)
            refine Ok_jn (fun k33 wk33 => ?_)
            refine Ok_if ?_ ?_
            · intro h
              have c662 : z32.toInt < i5.toInt := i32lt h
              rw [wk33]
              show Ok ((fX8_no i12).bind (fun z42 => some ((-9 : Int32), i11, z42, z31.2, f16))) _
              refine Ok_bind (ok_X8_no i12) (fun z42 hz42 => ?_)
              exact Ok_some trivial
            · intro h
              have c663 : i5.toInt ≤ z32.toInt := i32nlt h
              refine Ok_bind (ok_X8_left f15 f16 i3 i4 (by first | omega | assumption | (try simp only [tl0, tl1, tl2, tl3, tl4, tl5, tl6, tl8, tl9, tl10, tl50, tl81, tl100, tl1000, tl9999, tlm1, tlm9, tlm50, tl2147483647]; omega)) (by first | omega | assumption | (try simp only [tl0, tl1, tl2, tl3, tl4, tl5, tl6, tl8, tl9, tl10, tl50, tl81, tl100, tl1000, tl9999, tlm1, tlm9, tlm50, tl2147483647]; omega)) (by first | omega | assumption | (try simp only [tl0, tl1, tl2, tl3, tl4, tl5, tl6, tl8, tl9, tl10, tl50, tl81, tl100, tl1000, tl9999, tlm1, tlm9, tlm50, tl2147483647]; omega)) (by first | omega | assumption | (try simp only [tl0, tl1, tl2, tl3, tl4, tl5, tl6, tl8, tl9, tl10, tl50, tl81, tl100, tl1000, tl9999, tlm1, tlm9, tlm50, tl2147483647]; omega))) (fun z35 hz35 => ?_)
              refine Ok_if ?_ ?_
              · intro h
                have c664 : z35.toInt < i5.toInt := i32lt h
                rw [wk33]
                show Ok ((fX8_no i12).bind (fun z42 => some ((-9 : Int32), i11, z42, z31.2, f16))) _
                refine Ok_bind (ok_X8_no i12) (fun z42 hz42 => ?_)
                exact Ok_some trivial
              · intro h
                have c665 : i5.toInt ≤ z35.toInt := i32nlt h
                refine Ok_bind (ok_X8_left f15 f16 i4 i2 (by first | omega | assumption | (try simp only [tl0, tl1, tl2, tl3, tl4, tl5, tl6, tl8, tl9, tl10, tl50, tl81, tl100, tl1000, tl9999, tlm1, tlm9, tlm50, tl2147483647]; omega)) (by first | omega | assumption | (try simp only [tl0, tl1, tl2, tl3, tl4, tl5, tl6, tl8, tl9, tl10, tl50, tl81, tl100, tl1000, tl9999, tlm1, tlm9, tlm50, tl2147483647]; omega)) (by first | omega | assumption | (try simp only [tl0, tl1, tl2, tl3, tl4, tl5, tl6, tl8, tl9, tl10, tl50, tl81, tl100, tl1000, tl9999, tlm1, tlm9, tlm50, tl2147483647]; omega)) (by first | omega | assumption | (try simp only [tl0, tl1, tl2, tl3, tl4, tl5, tl6, tl8, tl9, tl10, tl50, tl81, tl100, tl1000, tl9999, tlm1, tlm9, tlm50, tl2147483647]; omega))) (fun z36 hz36 => ?_)
                refine Ok_if ?_ ?_
                · intro h
                  have c666 : i5.toInt ≤ z36.toInt := i32le h
                  refine Ok_bind (ok_X8_flowOn f16 i2 i3 i5 (by first | omega | assumption | (try simp only [tl0, tl1, tl2, tl3, tl4, tl5, tl6, tl8, tl9, tl10, tl50, tl81, tl100, tl1000, tl9999, tlm1, tlm9, tlm50, tl2147483647]; omega)) (by first | omega | assumption | (try simp only [tl0, tl1, tl2, tl3, tl4, tl5, tl6, tl8, tl9, tl10, tl50, tl81, tl100, tl1000, tl9999, tlm1, tlm9, tlm50, tl2147483647]; omega)) (by first | omega | assumption | (try simp only [tl0, tl1, tl2, tl3, tl4, tl5, tl6, tl8, tl9, tl10, tl50, tl81, tl100, tl1000, tl9999, tlm1, tlm9, tlm50, tl2147483647]; omega)) (by first | omega | assumption | (try simp only [tl0, tl1, tl2, tl3, tl4, tl5, tl6, tl8, tl9, tl10, tl50, tl81, tl100, tl1000, tl9999, tlm1, tlm9, tlm50, tl2147483647]; omega))) (fun z37 hz37 => ?_)
                  refine Ok_bind (ok_X8_flowOn z37 i3 i4 i5 (by first | omega | assumption | (try simp only [tl0, tl1, tl2, tl3, tl4, tl5, tl6, tl8, tl9, tl10, tl50, tl81, tl100, tl1000, tl9999, tlm1, tlm9, tlm50, tl2147483647]; omega)) (by first | omega | assumption | (try simp only [tl0, tl1, tl2, tl3, tl4, tl5, tl6, tl8, tl9, tl10, tl50, tl81, tl100, tl1000, tl9999, tlm1, tlm9, tlm50, tl2147483647]; omega)) (by first | omega | assumption | (try simp only [tl0, tl1, tl2, tl3, tl4, tl5, tl6, tl8, tl9, tl10, tl50, tl81, tl100, tl1000, tl9999, tlm1, tlm9, tlm50, tl2147483647]; omega)) (by first | omega | assumption | (try simp only [tl0, tl1, tl2, tl3, tl4, tl5, tl6, tl8, tl9, tl10, tl50, tl81, tl100, tl1000, tl9999, tlm1, tlm9, tlm50, tl2147483647]; omega))) (fun z38 hz38 => ?_)
                  refine Ok_bind (ok_X8_flowOn z38 i4 i2 i5 (by first | omega | assumption | (try simp only [tl0, tl1, tl2, tl3, tl4, tl5, tl6, tl8, tl9, tl10, tl50, tl81, tl100, tl1000, tl9999, tlm1, tlm9, tlm50, tl2147483647]; omega)) (by first | omega | assumption | (try simp only [tl0, tl1, tl2, tl3, tl4, tl5, tl6, tl8, tl9, tl10, tl50, tl81, tl100, tl1000, tl9999, tlm1, tlm9, tlm50, tl2147483647]; omega)) (by first | omega | assumption | (try simp only [tl0, tl1, tl2, tl3, tl4, tl5, tl6, tl8, tl9, tl10, tl50, tl81, tl100, tl1000, tl9999, tlm1, tlm9, tlm50, tl2147483647]; omega)) (by first | omega | assumption | (try simp only [tl0, tl1, tl2, tl3, tl4, tl5, tl6, tl8, tl9, tl10, tl50, tl81, tl100, tl1000, tl9999, tlm1, tlm9, tlm50, tl2147483647]; omega))) (fun z39 hz39 => ?_)
                  refine Ok_bind (ok_X8_flowing z39) (fun z40 hz40 => ?_)
                  refine Ok_bind (ok_X8_did i11 z40) (fun z41 hz41 => ?_)
                  exact Ok_some trivial
                · intro h
                  have c667 : z36.toInt < i5.toInt := i32nle h
                  rw [wk33]
                  show Ok ((fX8_no i12).bind (fun z42 => some ((-9 : Int32), i11, z42, z31.2, f16))) _
                  refine Ok_bind (ok_X8_no i12) (fun z42 hz42 => ?_)
                  exact Ok_some trivial
          · intro h
            have c668 : z31.1.toInt ≠ 0 := i32ne h
            exact Ok_some trivial
        · intro h
          have c669 : i2.toInt ≠ i3.toInt := i32ne h
          refine Ok_if ?_ ?_
          · intro h
            have c670 : i2.toInt = i4.toInt := i32eq h
            rw [wk27]
            show Ok (k25 (1 : Int32)) _
            rw [wk25]
            show Ok ((fX8_isThrown (1 : Int32) (1 : Int32)).bind (fun z31 => if z31.1 = (0 : Int32) then ((fX8_left f15 f16 i2 i3).bind (fun z32 => jn (fun (_ : Unit) => (fX8_no i12).bind (fun z42 => some ((-9 : Int32), i11, z42, z31.2, f16))) (fun (k33 : Unit → Option (Int32 × Int32 × Int32 × Int32 × (Nat → Int32))) => if z32 < i5 then (k33 ()) else ((fX8_left f15 f16 i3 i4).bind (fun z35 => if z35 < i5 then (k33 ()) else ((fX8_left f15 f16 i4 i2).bind (fun z36 => if i5 ≤ z36 then ((fX8_flowOn f16 i2 i3 i5).bind (fun z37 => (fX8_flowOn z37 i3 i4 i5).bind (fun z38 => (fX8_flowOn z38 i4 i2 i5).bind (fun z39 => (fX8_flowing z39).bind (fun z40 => (fX8_did i11 z40).bind (fun z41 => some (z41.1, z41.2, i12, z31.2, z39))))))) else (k33 ())))))))) else (some ((0 : Int32), i11, i12, z31.2, f16)))) _
            refine Ok_bind (ok_X8_isThrown (1 : Int32) (1 : Int32)) (fun z31 hz31 => ?_)
            try dsimp only at hz31
            try simp only [tl0, tl1, tl2, tl3, tl4, tl5, tl6, tl8, tl9, tl10, tl50, tl81, tl100, tl1000, tl9999, tlm1, tlm9, tlm50, tl2147483647] at hz31
            refine Ok_if ?_ ?_
            · intro h
              have c671 : z31.1.toInt = 0 := i32eq h
              refine Ok_bind (ok_X8_left f15 f16 i2 i3 (by first | omega | assumption | (try simp only [tl0, tl1, tl2, tl3, tl4, tl5, tl6, tl8, tl9, tl10, tl50, tl81, tl100, tl1000, tl9999, tlm1, tlm9, tlm50, tl2147483647]; omega)) (by first | omega | assumption | (try simp only [tl0, tl1, tl2, tl3, tl4, tl5, tl6, tl8, tl9, tl10, tl50, tl81, tl100, tl1000, tl9999, tlm1, tlm9, tlm50, tl2147483647]; omega)) (by first | omega | assumption | (try simp only [tl0, tl1, tl2, tl3, tl4, tl5, tl6, tl8, tl9, tl10, tl50, tl81, tl100, tl1000, tl9999, tlm1, tlm9, tlm50, tl2147483647]; omega)) (by first | omega | assumption | (try simp only [tl0, tl1, tl2, tl3, tl4, tl5, tl6, tl8, tl9, tl10, tl50, tl81, tl100, tl1000, tl9999, tlm1, tlm9, tlm50, tl2147483647]; omega))) (fun z32 hz32 => ?_)
              refine Ok_jn (fun k33 wk33 => ?_)
              refine Ok_if ?_ ?_
              · intro h
                have c672 : z32.toInt < i5.toInt := i32lt h
                rw [wk33]
                show Ok ((fX8_no i12).bind (fun z42 => some ((-9 : Int32), i11, z42, z31.2, f16))) _
                refine Ok_bind (ok_X8_no i12) (fun z42 hz42 => ?_)
                exact Ok_some trivial
              · intro h
                have c673 : i5.toInt ≤ z32.toInt := i32nlt h
                refine Ok_bind (ok_X8_left f15 f16 i3 i4 (by first | omega | assumption | (try simp only [tl0, tl1, tl2, tl3, tl4, tl5, tl6, tl8, tl9, tl10, tl50, tl81, tl100, tl1000, tl9999, tlm1, tlm9, tlm50, tl2147483647]; omega)) (by first | omega | assumption | (try simp only [tl0, tl1, tl2, tl3, tl4, tl5, tl6, tl8, tl9, tl10, tl50, tl81, tl100, tl1000, tl9999, tlm1, tlm9, tlm50, tl2147483647]; omega)) (by first | omega | assumption | (try simp only [tl0, tl1, tl2, tl3, tl4, tl5, tl6, tl8, tl9, tl10, tl50, tl81, tl100, tl1000, tl9999, tlm1, tlm9, tlm50, tl2147483647]; omega)) (by first | omega | assumption | (try simp only [tl0, tl1, tl2, tl3, tl4, tl5, tl6, tl8, tl9, tl10, tl50, tl81, tl100, tl1000, tl9999, tlm1, tlm9, tlm50, tl2147483647]; omega))) (fun z35 hz35 => ?_)
                refine Ok_if ?_ ?_
                · intro h
                  have c674 : z35.toInt < i5.toInt := i32lt h
                  rw [wk33]
                  show Ok ((fX8_no i12).bind (fun z42 => some ((-9 : Int32), i11, z42, z31.2, f16))) _
                  refine Ok_bind (ok_X8_no i12) (fun z42 hz42 => ?_)
                  exact Ok_some trivial
                · intro h
                  have c675 : i5.toInt ≤ z35.toInt := i32nlt h
                  refine Ok_bind (ok_X8_left f15 f16 i4 i2 (by first | omega | assumption | (try simp only [tl0, tl1, tl2, tl3, tl4, tl5, tl6, tl8, tl9, tl10, tl50, tl81, tl100, tl1000, tl9999, tlm1, tlm9, tlm50, tl2147483647]; omega)) (by first | omega | assumption | (try simp only [tl0, tl1, tl2, tl3, tl4, tl5, tl6, tl8, tl9, tl10, tl50, tl81, tl100, tl1000, tl9999, tlm1, tlm9, tlm50, tl2147483647]; omega)) (by first | omega | assumption | (try simp only [tl0, tl1, tl2, tl3, tl4, tl5, tl6, tl8, tl9, tl10, tl50, tl81, tl100, tl1000, tl9999, tlm1, tlm9, tlm50, tl2147483647]; omega)) (by first | omega | assumption | (try simp only [tl0, tl1, tl2, tl3, tl4, tl5, tl6, tl8, tl9, tl10, tl50, tl81, tl100, tl1000, tl9999, tlm1, tlm9, tlm50, tl2147483647]; omega))) (fun z36 hz36 => ?_)
                  refine Ok_if ?_ ?_
                  · intro h
                    have c676 : i5.toInt ≤ z36.toInt := i32le h
                    refine Ok_bind (ok_X8_flowOn f16 i2 i3 i5 (by first | omega | assumption | (try simp only [tl0, tl1, tl2, tl3, tl4, tl5, tl6, tl8, tl9, tl10, tl50, tl81, tl100, tl1000, tl9999, tlm1, tlm9, tlm50, tl2147483647]; omega)) (by first | omega | assumption | (try simp only [tl0, tl1, tl2, tl3, tl4, tl5, tl6, tl8, tl9, tl10, tl50, tl81, tl100, tl1000, tl9999, tlm1, tlm9, tlm50, tl2147483647]; omega)) (by first | omega | assumption | (try simp only [tl0, tl1, tl2, tl3, tl4, tl5, tl6, tl8, tl9, tl10, tl50, tl81, tl100, tl1000, tl9999, tlm1, tlm9, tlm50, tl2147483647]; omega)) (by first | omega | assumption | (try simp only [tl0, tl1, tl2, tl3, tl4, tl5, tl6, tl8, tl9, tl10, tl50, tl81, tl100, tl1000, tl9999, tlm1, tlm9, tlm50, tl2147483647]; omega))) (fun z37 hz37 => ?_)
                    refine Ok_bind (ok_X8_flowOn z37 i3 i4 i5 (by first | omega | assumption | (try simp only [tl0, tl1, tl2, tl3, tl4, tl5, tl6, tl8, tl9, tl10, tl50, tl81, tl100, tl1000, tl9999, tlm1, tlm9, tlm50, tl2147483647]; omega)) (by first | omega | assumption | (try simp only [tl0, tl1, tl2, tl3, tl4, tl5, tl6, tl8, tl9, tl10, tl50, tl81, tl100, tl1000, tl9999, tlm1, tlm9, tlm50, tl2147483647]; omega)) (by first | omega | assumption | (try simp only [tl0, tl1, tl2, tl3, tl4, tl5, tl6, tl8, tl9, tl10, tl50, tl81, tl100, tl1000, tl9999, tlm1, tlm9, tlm50, tl2147483647]; omega)) (by first | omega | assumption | (try simp only [tl0, tl1, tl2, tl3, tl4, tl5, tl6, tl8, tl9, tl10, tl50, tl81, tl100, tl1000, tl9999, tlm1, tlm9, tlm50, tl2147483647]; omega))) (fun z38 hz38 => ?_)
                    refine Ok_bind (ok_X8_flowOn z38 i4 i2 i5 (by first | omega | assumption | (try simp only [tl0, tl1, tl2, tl3, tl4, tl5, tl6, tl8, tl9, tl10, tl50, tl81, tl100, tl1000, tl9999, tlm1, tlm9, tlm50, tl2147483647]; omega)) (by first | omega | assumption | (try simp only [tl0, tl1, tl2, tl3, tl4, tl5, tl6, tl8, tl9, tl10, tl50, tl81, tl100, tl1000, tl9999, tlm1, tlm9, tlm50, tl2147483647]; omega)) (by first | omega | assumption | (try simp only [tl0, tl1, tl2, tl3, tl4, tl5, tl6, tl8, tl9, tl10, tl50, tl81, tl100, tl1000, tl9999, tlm1, tlm9, tlm50, tl2147483647]; omega)) (by first | omega | assumption | (try simp only [tl0, tl1, tl2, tl3, tl4, tl5, tl6, tl8, tl9, tl10, tl50, tl81, tl100, tl1000, tl9999, tlm1, tlm9, tlm50, tl2147483647]; omega))) (fun z39 hz39 => ?_)
                    refine Ok_bind (ok_X8_flowing z39) (fun z40 hz40 => ?_)
                    refine Ok_bind (ok_X8_did i11 z40) (fun z41 hz41 => ?_)
                    exact Ok_some trivial
                  · intro h
                    have c677 : z36.toInt < i5.toInt := i32nle h
                    rw [wk33]
                    show Ok ((fX8_no i12).bind (fun z42 => some ((-9 : Int32), i11, z42, z31.2, f16))) _
                    refine Ok_bind (ok_X8_no i12) (fun z42 hz42 => ?_)
                    exact Ok_some trivial
            · intro h
              have c678 : z31.1.toInt ≠ 0 := i32ne h
              exact Ok_some trivial
          · intro h
            have c679 : i2.toInt ≠ i4.toInt := i32ne h
            refine Ok_if ?_ ?_
            · intro h
              have c680 : i3.toInt = i4.toInt := i32eq h
              rw [wk27]
              show Ok (k25 (1 : Int32)) _
              rw [wk25]
              show Ok ((fX8_isThrown (1 : Int32) (1 : Int32)).bind (fun z31 => if z31.1 = (0 : Int32) then ((fX8_left f15 f16 i2 i3).bind (fun z32 => jn (fun (_ : Unit) => (fX8_no i12).bind (fun z42 => some ((-9 : Int32), i11, z42, z31.2, f16))) (fun (k33 : Unit → Option (Int32 × Int32 × Int32 × Int32 × (Nat → Int32))) => if z32 < i5 then (k33 ()) else ((fX8_left f15 f16 i3 i4).bind (fun z35 => if z35 < i5 then (k33 ()) else ((fX8_left f15 f16 i4 i2).bind (fun z36 => if i5 ≤ z36 then ((fX8_flowOn f16 i2 i3 i5).bind (fun z37 => (fX8_flowOn z37 i3 i4 i5).bind (fun z38 => (fX8_flowOn z38 i4 i2 i5).bind (fun z39 => (fX8_flowing z39).bind (fun z40 => (fX8_did i11 z40).bind (fun z41 => some (z41.1, z41.2, i12, z31.2, z39))))))) else (k33 ())))))))) else (some ((0 : Int32), i11, i12, z31.2, f16)))) _
              refine Ok_bind (ok_X8_isThrown (1 : Int32) (1 : Int32)) (fun z31 hz31 => ?_)
              try dsimp only at hz31
              try simp only [tl0, tl1, tl2, tl3, tl4, tl5, tl6, tl8, tl9, tl10, tl50, tl81, tl100, tl1000, tl9999, tlm1, tlm9, tlm50, tl2147483647] at hz31
              refine Ok_if ?_ ?_
              · intro h
                have c681 : z31.1.toInt = 0 := i32eq h
                refine Ok_bind (ok_X8_left f15 f16 i2 i3 (by first | omega | assumption | (try simp only [tl0, tl1, tl2, tl3, tl4, tl5, tl6, tl8, tl9, tl10, tl50, tl81, tl100, tl1000, tl9999, tlm1, tlm9, tlm50, tl2147483647]; omega)) (by first | omega | assumption | (try simp only [tl0, tl1, tl2, tl3, tl4, tl5, tl6, tl8, tl9, tl10, tl50, tl81, tl100, tl1000, tl9999, tlm1, tlm9, tlm50, tl2147483647]; omega)) (by first | omega | assumption | (try simp only [tl0, tl1, tl2, tl3, tl4, tl5, tl6, tl8, tl9, tl10, tl50, tl81, tl100, tl1000, tl9999, tlm1, tlm9, tlm50, tl2147483647]; omega)) (by first | omega | assumption | (try simp only [tl0, tl1, tl2, tl3, tl4, tl5, tl6, tl8, tl9, tl10, tl50, tl81, tl100, tl1000, tl9999, tlm1, tlm9, tlm50, tl2147483647]; omega))) (fun z32 hz32 => ?_)
                refine Ok_jn (fun k33 wk33 => ?_)
                refine Ok_if ?_ ?_
                · intro h
                  have c682 : z32.toInt < i5.toInt := i32lt h
                  rw [wk33]
                  show Ok ((fX8_no i12).bind (fun z42 => some ((-9 : Int32), i11, z42, z31.2, f16))) _
                  refine Ok_bind (ok_X8_no i12) (fun z42 hz42 => ?_)
                  exact Ok_some trivial
                · intro h
                  have c683 : i5.toInt ≤ z32.toInt := i32nlt h
                  refine Ok_bind (ok_X8_left f15 f16 i3 i4 (by first | omega | assumption | (try simp only [tl0, tl1, tl2, tl3, tl4, tl5, tl6, tl8, tl9, tl10, tl50, tl81, tl100, tl1000, tl9999, tlm1, tlm9, tlm50, tl2147483647]; omega)) (by first | omega | assumption | (try simp only [tl0, tl1, tl2, tl3, tl4, tl5, tl6, tl8, tl9, tl10, tl50, tl81, tl100, tl1000, tl9999, tlm1, tlm9, tlm50, tl2147483647]; omega)) (by first | omega | assumption | (try simp only [tl0, tl1, tl2, tl3, tl4, tl5, tl6, tl8, tl9, tl10, tl50, tl81, tl100, tl1000, tl9999, tlm1, tlm9, tlm50, tl2147483647]; omega)) (by first | omega | assumption | (try simp only [tl0, tl1, tl2, tl3, tl4, tl5, tl6, tl8, tl9, tl10, tl50, tl81, tl100, tl1000, tl9999, tlm1, tlm9, tlm50, tl2147483647]; omega))) (fun z35 hz35 => ?_)
                  refine Ok_if ?_ ?_
                  · intro h
                    have c684 : z35.toInt < i5.toInt := i32lt h
                    rw [wk33]
                    show Ok ((fX8_no i12).bind (fun z42 => some ((-9 : Int32), i11, z42, z31.2, f16))) _
                    refine Ok_bind (ok_X8_no i12) (fun z42 hz42 => ?_)
                    exact Ok_some trivial
                  · intro h
                    have c685 : i5.toInt ≤ z35.toInt := i32nlt h
                    refine Ok_bind (ok_X8_left f15 f16 i4 i2 (by first | omega | assumption | (try simp only [tl0, tl1, tl2, tl3, tl4, tl5, tl6, tl8, tl9, tl10, tl50, tl81, tl100, tl1000, tl9999, tlm1, tlm9, tlm50, tl2147483647]; omega)) (by first | omega | assumption | (try simp only [tl0, tl1, tl2, tl3, tl4, tl5, tl6, tl8, tl9, tl10, tl50, tl81, tl100, tl1000, tl9999, tlm1, tlm9, tlm50, tl2147483647]; omega)) (by first | omega | assumption | (try simp only [tl0, tl1, tl2, tl3, tl4, tl5, tl6, tl8, tl9, tl10, tl50, tl81, tl100, tl1000, tl9999, tlm1, tlm9, tlm50, tl2147483647]; omega)) (by first | omega | assumption | (try simp only [tl0, tl1, tl2, tl3, tl4, tl5, tl6, tl8, tl9, tl10, tl50, tl81, tl100, tl1000, tl9999, tlm1, tlm9, tlm50, tl2147483647]; omega))) (fun z36 hz36 => ?_)
                    refine Ok_if ?_ ?_
                    · intro h
                      have c686 : i5.toInt ≤ z36.toInt := i32le h
                      refine Ok_bind (ok_X8_flowOn f16 i2 i3 i5 (by first | omega | assumption | (try simp only [tl0, tl1, tl2, tl3, tl4, tl5, tl6, tl8, tl9, tl10, tl50, tl81, tl100, tl1000, tl9999, tlm1, tlm9, tlm50, tl2147483647]; omega)) (by first | omega | assumption | (try simp only [tl0, tl1, tl2, tl3, tl4, tl5, tl6, tl8, tl9, tl10, tl50, tl81, tl100, tl1000, tl9999, tlm1, tlm9, tlm50, tl2147483647]; omega)) (by first | omega | assumption | (try simp only [tl0, tl1, tl2, tl3, tl4, tl5, tl6, tl8, tl9, tl10, tl50, tl81, tl100, tl1000, tl9999, tlm1, tlm9, tlm50, tl2147483647]; omega)) (by first | omega | assumption | (try simp only [tl0, tl1, tl2, tl3, tl4, tl5, tl6, tl8, tl9, tl10, tl50, tl81, tl100, tl1000, tl9999, tlm1, tlm9, tlm50, tl2147483647]; omega))) (fun z37 hz37 => ?_)
                      refine Ok_bind (ok_X8_flowOn z37 i3 i4 i5 (by first | omega | assumption | (try simp only [tl0, tl1, tl2, tl3, tl4, tl5, tl6, tl8, tl9, tl10, tl50, tl81, tl100, tl1000, tl9999, tlm1, tlm9, tlm50, tl2147483647]; omega)) (by first | omega | assumption | (try simp only [tl0, tl1, tl2, tl3, tl4, tl5, tl6, tl8, tl9, tl10, tl50, tl81, tl100, tl1000, tl9999, tlm1, tlm9, tlm50, tl2147483647]; omega)) (by first | omega | assumption | (try simp only [tl0, tl1, tl2, tl3, tl4, tl5, tl6, tl8, tl9, tl10, tl50, tl81, tl100, tl1000, tl9999, tlm1, tlm9, tlm50, tl2147483647]; omega)) (by first | omega | assumption | (try simp only [tl0, tl1, tl2, tl3, tl4, tl5, tl6, tl8, tl9, tl10, tl50, tl81, tl100, tl1000, tl9999, tlm1, tlm9, tlm50, tl2147483647]; omega))) (fun z38 hz38 => ?_)
                      refine Ok_bind (ok_X8_flowOn z38 i4 i2 i5 (by first | omega | assumption | (try simp only [tl0, tl1, tl2, tl3, tl4, tl5, tl6, tl8, tl9, tl10, tl50, tl81, tl100, tl1000, tl9999, tlm1, tlm9, tlm50, tl2147483647]; omega)) (by first | omega | assumption | (try simp only [tl0, tl1, tl2, tl3, tl4, tl5, tl6, tl8, tl9, tl10, tl50, tl81, tl100, tl1000, tl9999, tlm1, tlm9, tlm50, tl2147483647]; omega)) (by first | omega | assumption | (try simp only [tl0, tl1, tl2, tl3, tl4, tl5, tl6, tl8, tl9, tl10, tl50, tl81, tl100, tl1000, tl9999, tlm1, tlm9, tlm50, tl2147483647]; omega)) (by first | omega | assumption | (try simp only [tl0, tl1, tl2, tl3, tl4, tl5, tl6, tl8, tl9, tl10, tl50, tl81, tl100, tl1000, tl9999, tlm1, tlm9, tlm50, tl2147483647]; omega))) (fun z39 hz39 => ?_)
                      refine Ok_bind (ok_X8_flowing z39) (fun z40 hz40 => ?_)
                      refine Ok_bind (ok_X8_did i11 z40) (fun z41 hz41 => ?_)
                      exact Ok_some trivial
                    · intro h
                      have c687 : z36.toInt < i5.toInt := i32nle h
                      rw [wk33]
                      show Ok ((fX8_no i12).bind (fun z42 => some ((-9 : Int32), i11, z42, z31.2, f16))) _
                      refine Ok_bind (ok_X8_no i12) (fun z42 hz42 => ?_)
                      exact Ok_some trivial
              · intro h
                have c688 : z31.1.toInt ≠ 0 := i32ne h
                exact Ok_some trivial
            · intro h
              have c689 : i3.toInt ≠ i4.toInt := i32ne h
              refine Ok_bind (ok_X8_isRoom i5) (fun z29 hz29 => ?_)
              try dsimp only at hz29
              try simp only [tl0, tl1, tl2, tl3, tl4, tl5, tl6, tl8, tl9, tl10, tl50, tl81, tl100, tl1000, tl9999, tlm1, tlm9, tlm50, tl2147483647] at hz29
              refine Ok_if ?_ ?_
              · intro h
                have c690 : z29.toInt = 0 := i32eq h
                rw [wk27]
                show Ok (k25 (1 : Int32)) _
                rw [wk25]
                show Ok ((fX8_isThrown (1 : Int32) (1 : Int32)).bind (fun z31 => if z31.1 = (0 : Int32) then ((fX8_left f15 f16 i2 i3).bind (fun z32 => jn (fun (_ : Unit) => (fX8_no i12).bind (fun z42 => some ((-9 : Int32), i11, z42, z31.2, f16))) (fun (k33 : Unit → Option (Int32 × Int32 × Int32 × Int32 × (Nat → Int32))) => if z32 < i5 then (k33 ()) else ((fX8_left f15 f16 i3 i4).bind (fun z35 => if z35 < i5 then (k33 ()) else ((fX8_left f15 f16 i4 i2).bind (fun z36 => if i5 ≤ z36 then ((fX8_flowOn f16 i2 i3 i5).bind (fun z37 => (fX8_flowOn z37 i3 i4 i5).bind (fun z38 => (fX8_flowOn z38 i4 i2 i5).bind (fun z39 => (fX8_flowing z39).bind (fun z40 => (fX8_did i11 z40).bind (fun z41 => some (z41.1, z41.2, i12, z31.2, z39))))))) else (k33 ())))))))) else (some ((0 : Int32), i11, i12, z31.2, f16)))) _
                refine Ok_bind (ok_X8_isThrown (1 : Int32) (1 : Int32)) (fun z31 hz31 => ?_)
                try dsimp only at hz31
                try simp only [tl0, tl1, tl2, tl3, tl4, tl5, tl6, tl8, tl9, tl10, tl50, tl81, tl100, tl1000, tl9999, tlm1, tlm9, tlm50, tl2147483647] at hz31
                refine Ok_if ?_ ?_
                · intro h
                  have c691 : z31.1.toInt = 0 := i32eq h
                  refine Ok_bind (ok_X8_left f15 f16 i2 i3 (by first | omega | assumption | (try simp only [tl0, tl1, tl2, tl3, tl4, tl5, tl6, tl8, tl9, tl10, tl50, tl81, tl100, tl1000, tl9999, tlm1, tlm9, tlm50, tl2147483647]; omega)) (by first | omega | assumption | (try simp only [tl0, tl1, tl2, tl3, tl4, tl5, tl6, tl8, tl9, tl10, tl50, tl81, tl100, tl1000, tl9999, tlm1, tlm9, tlm50, tl2147483647]; omega)) (by first | omega | assumption | (try simp only [tl0, tl1, tl2, tl3, tl4, tl5, tl6, tl8, tl9, tl10, tl50, tl81, tl100, tl1000, tl9999, tlm1, tlm9, tlm50, tl2147483647]; omega)) (by first | omega | assumption | (try simp only [tl0, tl1, tl2, tl3, tl4, tl5, tl6, tl8, tl9, tl10, tl50, tl81, tl100, tl1000, tl9999, tlm1, tlm9, tlm50, tl2147483647]; omega))) (fun z32 hz32 => ?_)
                  refine Ok_jn (fun k33 wk33 => ?_)
                  refine Ok_if ?_ ?_
                  · intro h
                    have c692 : z32.toInt < i5.toInt := i32lt h
                    rw [wk33]
                    show Ok ((fX8_no i12).bind (fun z42 => some ((-9 : Int32), i11, z42, z31.2, f16))) _
                    refine Ok_bind (ok_X8_no i12) (fun z42 hz42 => ?_)
                    exact Ok_some trivial
                  · intro h
                    have c693 : i5.toInt ≤ z32.toInt := i32nlt h
                    refine Ok_bind (ok_X8_left f15 f16 i3 i4 (by first | omega | assumption | (try simp only [tl0, tl1, tl2, tl3, tl4, tl5, tl6, tl8, tl9, tl10, tl50, tl81, tl100, tl1000, tl9999, tlm1, tlm9, tlm50, tl2147483647]; omega)) (by first | omega | assumption | (try simp only [tl0, tl1, tl2, tl3, tl4, tl5, tl6, tl8, tl9, tl10, tl50, tl81, tl100, tl1000, tl9999, tlm1, tlm9, tlm50, tl2147483647]; omega)) (by first | omega | assumption | (try simp only [tl0, tl1, tl2, tl3, tl4, tl5, tl6, tl8, tl9, tl10, tl50, tl81, tl100, tl1000, tl9999, tlm1, tlm9, tlm50, tl2147483647]; omega)) (by first | omega | assumption | (try simp only [tl0, tl1, tl2, tl3, tl4, tl5, tl6, tl8, tl9, tl10, tl50, tl81, tl100, tl1000, tl9999, tlm1, tlm9, tlm50, tl2147483647]; omega))) (fun z35 hz35 => ?_)
                    refine Ok_if ?_ ?_
                    · intro h
                      have c694 : z35.toInt < i5.toInt := i32lt h
                      rw [wk33]
                      show Ok ((fX8_no i12).bind (fun z42 => some ((-9 : Int32), i11, z42, z31.2, f16))) _
                      refine Ok_bind (ok_X8_no i12) (fun z42 hz42 => ?_)
                      exact Ok_some trivial
                    · intro h
                      have c695 : i5.toInt ≤ z35.toInt := i32nlt h
                      refine Ok_bind (ok_X8_left f15 f16 i4 i2 (by first | omega | assumption | (try simp only [tl0, tl1, tl2, tl3, tl4, tl5, tl6, tl8, tl9, tl10, tl50, tl81, tl100, tl1000, tl9999, tlm1, tlm9, tlm50, tl2147483647]; omega)) (by first | omega | assumption | (try simp only [tl0, tl1, tl2, tl3, tl4, tl5, tl6, tl8, tl9, tl10, tl50, tl81, tl100, tl1000, tl9999, tlm1, tlm9, tlm50, tl2147483647]; omega)) (by first | omega | assumption | (try simp only [tl0, tl1, tl2, tl3, tl4, tl5, tl6, tl8, tl9, tl10, tl50, tl81, tl100, tl1000, tl9999, tlm1, tlm9, tlm50, tl2147483647]; omega)) (by first | omega | assumption | (try simp only [tl0, tl1, tl2, tl3, tl4, tl5, tl6, tl8, tl9, tl10, tl50, tl81, tl100, tl1000, tl9999, tlm1, tlm9, tlm50, tl2147483647]; omega))) (fun z36 hz36 => ?_)
                      refine Ok_if ?_ ?_
                      · intro h
                        have c696 : i5.toInt ≤ z36.toInt := i32le h
                        refine Ok_bind (ok_X8_flowOn f16 i2 i3 i5 (by first | omega | assumption | (try simp only [tl0, tl1, tl2, tl3, tl4, tl5, tl6, tl8, tl9, tl10, tl50, tl81, tl100, tl1000, tl9999, tlm1, tlm9, tlm50, tl2147483647]; omega)) (by first | omega | assumption | (try simp only [tl0, tl1, tl2, tl3, tl4, tl5, tl6, tl8, tl9, tl10, tl50, tl81, tl100, tl1000, tl9999, tlm1, tlm9, tlm50, tl2147483647]; omega)) (by first | omega | assumption | (try simp only [tl0, tl1, tl2, tl3, tl4, tl5, tl6, tl8, tl9, tl10, tl50, tl81, tl100, tl1000, tl9999, tlm1, tlm9, tlm50, tl2147483647]; omega)) (by first | omega | assumption | (try simp only [tl0, tl1, tl2, tl3, tl4, tl5, tl6, tl8, tl9, tl10, tl50, tl81, tl100, tl1000, tl9999, tlm1, tlm9, tlm50, tl2147483647]; omega))) (fun z37 hz37 => ?_)
                        refine Ok_bind (ok_X8_flowOn z37 i3 i4 i5 (by first | omega | assumption | (try simp only [tl0, tl1, tl2, tl3, tl4, tl5, tl6, tl8, tl9, tl10, tl50, tl81, tl100, tl1000, tl9999, tlm1, tlm9, tlm50, tl2147483647]; omega)) (by first | omega | assumption | (try simp only [tl0, tl1, tl2, tl3, tl4, tl5, tl6, tl8, tl9, tl10, tl50, tl81, tl100, tl1000, tl9999, tlm1, tlm9, tlm50, tl2147483647]; omega)) (by first | omega | assumption | (try simp only [tl0, tl1, tl2, tl3, tl4, tl5, tl6, tl8, tl9, tl10, tl50, tl81, tl100, tl1000, tl9999, tlm1, tlm9, tlm50, tl2147483647]; omega)) (by first | omega | assumption | (try simp only [tl0, tl1, tl2, tl3, tl4, tl5, tl6, tl8, tl9, tl10, tl50, tl81, tl100, tl1000, tl9999, tlm1, tlm9, tlm50, tl2147483647]; omega))) (fun z38 hz38 => ?_)
                        refine Ok_bind (ok_X8_flowOn z38 i4 i2 i5 (by first | omega | assumption | (try simp only [tl0, tl1, tl2, tl3, tl4, tl5, tl6, tl8, tl9, tl10, tl50, tl81, tl100, tl1000, tl9999, tlm1, tlm9, tlm50, tl2147483647]; omega)) (by first | omega | assumption | (try simp only [tl0, tl1, tl2, tl3, tl4, tl5, tl6, tl8, tl9, tl10, tl50, tl81, tl100, tl1000, tl9999, tlm1, tlm9, tlm50, tl2147483647]; omega)) (by first | omega | assumption | (try simp only [tl0, tl1, tl2, tl3, tl4, tl5, tl6, tl8, tl9, tl10, tl50, tl81, tl100, tl1000, tl9999, tlm1, tlm9, tlm50, tl2147483647]; omega)) (by first | omega | assumption | (try simp only [tl0, tl1, tl2, tl3, tl4, tl5, tl6, tl8, tl9, tl10, tl50, tl81, tl100, tl1000, tl9999, tlm1, tlm9, tlm50, tl2147483647]; omega))) (fun z39 hz39 => ?_)
                        refine Ok_bind (ok_X8_flowing z39) (fun z40 hz40 => ?_)
                        refine Ok_bind (ok_X8_did i11 z40) (fun z41 hz41 => ?_)
                        exact Ok_some trivial
                      · intro h
                        have c697 : z36.toInt < i5.toInt := i32nle h
                        rw [wk33]
                        show Ok ((fX8_no i12).bind (fun z42 => some ((-9 : Int32), i11, z42, z31.2, f16))) _
                        refine Ok_bind (ok_X8_no i12) (fun z42 hz42 => ?_)
                        exact Ok_some trivial
                · intro h
                  have c698 : z31.1.toInt ≠ 0 := i32ne h
                  exact Ok_some trivial
              · intro h
                have c699 : z29.toInt ≠ 0 := i32ne h
                rw [wk25]
                show Ok ((fX8_isThrown (1 : Int32) (0 : Int32)).bind (fun z31 => if z31.1 = (0 : Int32) then ((fX8_left f15 f16 i2 i3).bind (fun z32 => jn (fun (_ : Unit) => (fX8_no i12).bind (fun z42 => some ((-9 : Int32), i11, z42, z31.2, f16))) (fun (k33 : Unit → Option (Int32 × Int32 × Int32 × Int32 × (Nat → Int32))) => if z32 < i5 then (k33 ()) else ((fX8_left f15 f16 i3 i4).bind (fun z35 => if z35 < i5 then (k33 ()) else ((fX8_left f15 f16 i4 i2).bind (fun z36 => if i5 ≤ z36 then ((fX8_flowOn f16 i2 i3 i5).bind (fun z37 => (fX8_flowOn z37 i3 i4 i5).bind (fun z38 => (fX8_flowOn z38 i4 i2 i5).bind (fun z39 => (fX8_flowing z39).bind (fun z40 => (fX8_did i11 z40).bind (fun z41 => some (z41.1, z41.2, i12, z31.2, z39))))))) else (k33 ())))))))) else (some ((0 : Int32), i11, i12, z31.2, f16)))) _
                refine Ok_bind (ok_X8_isThrown (1 : Int32) (0 : Int32)) (fun z31 hz31 => ?_)
                try dsimp only at hz31
                try simp only [tl0, tl1, tl2, tl3, tl4, tl5, tl6, tl8, tl9, tl10, tl50, tl81, tl100, tl1000, tl9999, tlm1, tlm9, tlm50, tl2147483647] at hz31
                refine Ok_if ?_ ?_
                · intro h
                  have c700 : z31.1.toInt = 0 := i32eq h
                  refine Ok_bind (ok_X8_left f15 f16 i2 i3 (by first | omega | assumption | (try simp only [tl0, tl1, tl2, tl3, tl4, tl5, tl6, tl8, tl9, tl10, tl50, tl81, tl100, tl1000, tl9999, tlm1, tlm9, tlm50, tl2147483647]; omega)) (by first | omega | assumption | (try simp only [tl0, tl1, tl2, tl3, tl4, tl5, tl6, tl8, tl9, tl10, tl50, tl81, tl100, tl1000, tl9999, tlm1, tlm9, tlm50, tl2147483647]; omega)) (by first | omega | assumption | (try simp only [tl0, tl1, tl2, tl3, tl4, tl5, tl6, tl8, tl9, tl10, tl50, tl81, tl100, tl1000, tl9999, tlm1, tlm9, tlm50, tl2147483647]; omega)) (by first | omega | assumption | (try simp only [tl0, tl1, tl2, tl3, tl4, tl5, tl6, tl8, tl9, tl10, tl50, tl81, tl100, tl1000, tl9999, tlm1, tlm9, tlm50, tl2147483647]; omega))) (fun z32 hz32 => ?_)
                  refine Ok_jn (fun k33 wk33 => ?_)
                  refine Ok_if ?_ ?_
                  · intro h
                    have c701 : z32.toInt < i5.toInt := i32lt h
                    rw [wk33]
                    show Ok ((fX8_no i12).bind (fun z42 => some ((-9 : Int32), i11, z42, z31.2, f16))) _
                    refine Ok_bind (ok_X8_no i12) (fun z42 hz42 => ?_)
                    exact Ok_some trivial
                  · intro h
                    have c702 : i5.toInt ≤ z32.toInt := i32nlt h
                    refine Ok_bind (ok_X8_left f15 f16 i3 i4 (by first | omega | assumption | (try simp only [tl0, tl1, tl2, tl3, tl4, tl5, tl6, tl8, tl9, tl10, tl50, tl81, tl100, tl1000, tl9999, tlm1, tlm9, tlm50, tl2147483647]; omega)) (by first | omega | assumption | (try simp only [tl0, tl1, tl2, tl3, tl4, tl5, tl6, tl8, tl9, tl10, tl50, tl81, tl100, tl1000, tl9999, tlm1, tlm9, tlm50, tl2147483647]; omega)) (by first | omega | assumption | (try simp only [tl0, tl1, tl2, tl3, tl4, tl5, tl6, tl8, tl9, tl10, tl50, tl81, tl100, tl1000, tl9999, tlm1, tlm9, tlm50, tl2147483647]; omega)) (by first | omega | assumption | (try simp only [tl0, tl1, tl2, tl3, tl4, tl5, tl6, tl8, tl9, tl10, tl50, tl81, tl100, tl1000, tl9999, tlm1, tlm9, tlm50, tl2147483647]; omega))) (fun z35 hz35 => ?_)
                    refine Ok_if ?_ ?_
                    · intro h
                      have c703 : z35.toInt < i5.toInt := i32lt h
                      rw [wk33]
                      show Ok ((fX8_no i12).bind (fun z42 => some ((-9 : Int32), i11, z42, z31.2, f16))) _
                      refine Ok_bind (ok_X8_no i12) (fun z42 hz42 => ?_)
                      exact Ok_some trivial
                    · intro h
                      have c704 : i5.toInt ≤ z35.toInt := i32nlt h
                      refine Ok_bind (ok_X8_left f15 f16 i4 i2 (by first | omega | assumption | (try simp only [tl0, tl1, tl2, tl3, tl4, tl5, tl6, tl8, tl9, tl10, tl50, tl81, tl100, tl1000, tl9999, tlm1, tlm9, tlm50, tl2147483647]; omega)) (by first | omega | assumption | (try simp only [tl0, tl1, tl2, tl3, tl4, tl5, tl6, tl8, tl9, tl10, tl50, tl81, tl100, tl1000, tl9999, tlm1, tlm9, tlm50, tl2147483647]; omega)) (by first | omega | assumption | (try simp only [tl0, tl1, tl2, tl3, tl4, tl5, tl6, tl8, tl9, tl10, tl50, tl81, tl100, tl1000, tl9999, tlm1, tlm9, tlm50, tl2147483647]; omega)) (by first | omega | assumption | (try simp only [tl0, tl1, tl2, tl3, tl4, tl5, tl6, tl8, tl9, tl10, tl50, tl81, tl100, tl1000, tl9999, tlm1, tlm9, tlm50, tl2147483647]; omega))) (fun z36 hz36 => ?_)
                      refine Ok_if ?_ ?_
                      · intro h
                        have c705 : i5.toInt ≤ z36.toInt := i32le h
                        refine Ok_bind (ok_X8_flowOn f16 i2 i3 i5 (by first | omega | assumption | (try simp only [tl0, tl1, tl2, tl3, tl4, tl5, tl6, tl8, tl9, tl10, tl50, tl81, tl100, tl1000, tl9999, tlm1, tlm9, tlm50, tl2147483647]; omega)) (by first | omega | assumption | (try simp only [tl0, tl1, tl2, tl3, tl4, tl5, tl6, tl8, tl9, tl10, tl50, tl81, tl100, tl1000, tl9999, tlm1, tlm9, tlm50, tl2147483647]; omega)) (by first | omega | assumption | (try simp only [tl0, tl1, tl2, tl3, tl4, tl5, tl6, tl8, tl9, tl10, tl50, tl81, tl100, tl1000, tl9999, tlm1, tlm9, tlm50, tl2147483647]; omega)) (by first | omega | assumption | (try simp only [tl0, tl1, tl2, tl3, tl4, tl5, tl6, tl8, tl9, tl10, tl50, tl81, tl100, tl1000, tl9999, tlm1, tlm9, tlm50, tl2147483647]; omega))) (fun z37 hz37 => ?_)
                        refine Ok_bind (ok_X8_flowOn z37 i3 i4 i5 (by first | omega | assumption | (try simp only [tl0, tl1, tl2, tl3, tl4, tl5, tl6, tl8, tl9, tl10, tl50, tl81, tl100, tl1000, tl9999, tlm1, tlm9, tlm50, tl2147483647]; omega)) (by first | omega | assumption | (try simp only [tl0, tl1, tl2, tl3, tl4, tl5, tl6, tl8, tl9, tl10, tl50, tl81, tl100, tl1000, tl9999, tlm1, tlm9, tlm50, tl2147483647]; omega)) (by first | omega | assumption | (try simp only [tl0, tl1, tl2, tl3, tl4, tl5, tl6, tl8, tl9, tl10, tl50, tl81, tl100, tl1000, tl9999, tlm1, tlm9, tlm50, tl2147483647]; omega)) (by first | omega | assumption | (try simp only [tl0, tl1, tl2, tl3, tl4, tl5, tl6, tl8, tl9, tl10, tl50, tl81, tl100, tl1000, tl9999, tlm1, tlm9, tlm50, tl2147483647]; omega))) (fun z38 hz38 => ?_)
                        refine Ok_bind (ok_X8_flowOn z38 i4 i2 i5 (by first | omega | assumption | (try simp only [tl0, tl1, tl2, tl3, tl4, tl5, tl6, tl8, tl9, tl10, tl50, tl81, tl100, tl1000, tl9999, tlm1, tlm9, tlm50, tl2147483647]; omega)) (by first | omega | assumption | (try simp only [tl0, tl1, tl2, tl3, tl4, tl5, tl6, tl8, tl9, tl10, tl50, tl81, tl100, tl1000, tl9999, tlm1, tlm9, tlm50, tl2147483647]; omega)) (by first | omega | assumption | (try simp only [tl0, tl1, tl2, tl3, tl4, tl5, tl6, tl8, tl9, tl10, tl50, tl81, tl100, tl1000, tl9999, tlm1, tlm9, tlm50, tl2147483647]; omega)) (by first | omega | assumption | (try simp only [tl0, tl1, tl2, tl3, tl4, tl5, tl6, tl8, tl9, tl10, tl50, tl81, tl100, tl1000, tl9999, tlm1, tlm9, tlm50, tl2147483647]; omega))) (fun z39 hz39 => ?_)
                        refine Ok_bind (ok_X8_flowing z39) (fun z40 hz40 => ?_)
                        refine Ok_bind (ok_X8_did i11 z40) (fun z41 hz41 => ?_)
                        exact Ok_some trivial
                      · intro h
                        have c706 : z36.toInt < i5.toInt := i32nle h
                        rw [wk33]
                        show Ok ((fX8_no i12).bind (fun z42 => some ((-9 : Int32), i11, z42, z31.2, f16))) _
                        refine Ok_bind (ok_X8_no i12) (fun z42 hz42 => ?_)
                        exact Ok_some trivial
                · intro h
                  have c707 : z31.1.toInt ≠ 0 := i32ne h
                  exact Ok_some trivial
      · intro h
        have c708 : z23.toInt ≠ 0 := i32ne h
        rw [wk18]
        show Ok (jn (fun (i30 : Int32) => (fX8_isThrown (0 : Int32) i30).bind (fun z31 => if z31.1 = (0 : Int32) then ((fX8_left f15 f16 i2 i3).bind (fun z32 => jn (fun (_ : Unit) => (fX8_no i12).bind (fun z42 => some ((-9 : Int32), i11, z42, z31.2, f16))) (fun (k33 : Unit → Option (Int32 × Int32 × Int32 × Int32 × (Nat → Int32))) => if z32 < i5 then (k33 ()) else ((fX8_left f15 f16 i3 i4).bind (fun z35 => if z35 < i5 then (k33 ()) else ((fX8_left f15 f16 i4 i2).bind (fun z36 => if i5 ≤ z36 then ((fX8_flowOn f16 i2 i3 i5).bind (fun z37 => (fX8_flowOn z37 i3 i4 i5).bind (fun z38 => (fX8_flowOn z38 i4 i2 i5).bind (fun z39 => (fX8_flowing z39).bind (fun z40 => (fX8_did i11 z40).bind (fun z41 => some (z41.1, z41.2, i12, z31.2, z39))))))) else (k33 ())))))))) else (some ((0 : Int32), i11, i12, z31.2, f16)))) (fun (k25 : Int32 → Option (Int32 × Int32 × Int32 × Int32 × (Nat → Int32))) => jn (fun (_ : Unit) => k25 (1 : Int32)) (fun (k27 : Unit → Option (Int32 × Int32 × Int32 × Int32 × (Nat → Int32))) => if i2 = i3 then (k27 ()) else (if i2 = i4 then (k27 ()) else (if i3 = i4 then (k27 ()) else ((fX8_isRoom i5).bind (fun z29 => if z29 = (0 : Int32) then (k27 ()) else (k25 (0 : Int32))))))))) _
        refine Ok_jn (fun k25 wk25 => ?_)
        refine Ok_jn (fun k27 wk27 => ?_)
        refine Ok_if ?_ ?_
        · intro h
          have c709 : i2.toInt = i3.toInt := i32eq h
          rw [wk27]
          show Ok (k25 (1 : Int32)) _
          rw [wk25]
          show Ok ((fX8_isThrown (0 : Int32) (1 : Int32)).bind (fun z31 => if z31.1 = (0 : Int32) then ((fX8_left f15 f16 i2 i3).bind (fun z32 => jn (fun (_ : Unit) => (fX8_no i12).bind (fun z42 => some ((-9 : Int32), i11, z42, z31.2, f16))) (fun (k33 : Unit → Option (Int32 × Int32 × Int32 × Int32 × (Nat → Int32))) => if z32 < i5 then (k33 ()) else ((fX8_left f15 f16 i3 i4).bind (fun z35 => if z35 < i5 then (k33 ()) else ((fX8_left f15 f16 i4 i2).bind (fun z36 => if i5 ≤ z36 then ((fX8_flowOn f16 i2 i3 i5).bind (fun z37 => (fX8_flowOn z37 i3 i4 i5).bind (fun z38 => (fX8_flowOn z38 i4 i2 i5).bind (fun z39 => (fX8_flowing z39).bind (fun z40 => (fX8_did i11 z40).bind (fun z41 => some (z41.1, z41.2, i12, z31.2, z39))))))) else (k33 ())))))))) else (some ((0 : Int32), i11, i12, z31.2, f16)))) _
          refine Ok_bind (ok_X8_isThrown (0 : Int32) (1 : Int32)) (fun z31 hz31 => ?_)
          try dsimp only at hz31
          try simp only [tl0, tl1, tl2, tl3, tl4, tl5, tl6, tl8, tl9, tl10, tl50, tl81, tl100, tl1000, tl9999, tlm1, tlm9, tlm50, tl2147483647] at hz31
          refine Ok_if ?_ ?_
          · intro h
            have c710 : z31.1.toInt = 0 := i32eq h
            refine Ok_bind (ok_X8_left f15 f16 i2 i3 (by first | omega | assumption | (try simp only [tl0, tl1, tl2, tl3, tl4, tl5, tl6, tl8, tl9, tl10, tl50, tl81, tl100, tl1000, tl9999, tlm1, tlm9, tlm50, tl2147483647]; omega)) (by first | omega | assumption | (try simp only [tl0, tl1, tl2, tl3, tl4, tl5, tl6, tl8, tl9, tl10, tl50, tl81, tl100, tl1000, tl9999, tlm1, tlm9, tlm50, tl2147483647]; omega)) (by first | omega | assumption | (try simp only [tl0, tl1, tl2, tl3, tl4, tl5, tl6, tl8, tl9, tl10, tl50, tl81, tl100, tl1000, tl9999, tlm1, tlm9, tlm50, tl2147483647]; omega)) (by first | omega | assumption | (try simp only [tl0, tl1, tl2, tl3, tl4, tl5, tl6, tl8, tl9, tl10, tl50, tl81, tl100, tl1000, tl9999, tlm1, tlm9, tlm50, tl2147483647]; omega))) (fun z32 hz32 => ?_)
            refine Ok_jn (fun k33 wk33 => ?_)
            refine Ok_if ?_ ?_
            · intro h
              have c711 : z32.toInt < i5.toInt := i32lt h
              rw [wk33]
              show Ok ((fX8_no i12).bind (fun z42 => some ((-9 : Int32), i11, z42, z31.2, f16))) _
              refine Ok_bind (ok_X8_no i12) (fun z42 hz42 => ?_)
              exact Ok_some trivial
            · intro h
              have c712 : i5.toInt ≤ z32.toInt := i32nlt h
              refine Ok_bind (ok_X8_left f15 f16 i3 i4 (by first | omega | assumption | (try simp only [tl0, tl1, tl2, tl3, tl4, tl5, tl6, tl8, tl9, tl10, tl50, tl81, tl100, tl1000, tl9999, tlm1, tlm9, tlm50, tl2147483647]; omega)) (by first | omega | assumption | (try simp only [tl0, tl1, tl2, tl3, tl4, tl5, tl6, tl8, tl9, tl10, tl50, tl81, tl100, tl1000, tl9999, tlm1, tlm9, tlm50, tl2147483647]; omega)) (by first | omega | assumption | (try simp only [tl0, tl1, tl2, tl3, tl4, tl5, tl6, tl8, tl9, tl10, tl50, tl81, tl100, tl1000, tl9999, tlm1, tlm9, tlm50, tl2147483647]; omega)) (by first | omega | assumption | (try simp only [tl0, tl1, tl2, tl3, tl4, tl5, tl6, tl8, tl9, tl10, tl50, tl81, tl100, tl1000, tl9999, tlm1, tlm9, tlm50, tl2147483647]; omega))) (fun z35 hz35 => ?_)
              refine Ok_if ?_ ?_
              · intro h
                have c713 : z35.toInt < i5.toInt := i32lt h
                rw [wk33]
                show Ok ((fX8_no i12).bind (fun z42 => some ((-9 : Int32), i11, z42, z31.2, f16))) _
                refine Ok_bind (ok_X8_no i12) (fun z42 hz42 => ?_)
                exact Ok_some trivial
              · intro h
                have c714 : i5.toInt ≤ z35.toInt := i32nlt h
                refine Ok_bind (ok_X8_left f15 f16 i4 i2 (by first | omega | assumption | (try simp only [tl0, tl1, tl2, tl3, tl4, tl5, tl6, tl8, tl9, tl10, tl50, tl81, tl100, tl1000, tl9999, tlm1, tlm9, tlm50, tl2147483647]; omega)) (by first | omega | assumption | (try simp only [tl0, tl1, tl2, tl3, tl4, tl5, tl6, tl8, tl9, tl10, tl50, tl81, tl100, tl1000, tl9999, tlm1, tlm9, tlm50, tl2147483647]; omega)) (by first | omega | assumption | (try simp only [tl0, tl1, tl2, tl3, tl4, tl5, tl6, tl8, tl9, tl10, tl50, tl81, tl100, tl1000, tl9999, tlm1, tlm9, tlm50, tl2147483647]; omega)) (by first | omega | assumption | (try simp only [tl0, tl1, tl2, tl3, tl4, tl5, tl6, tl8, tl9, tl10, tl50, tl81, tl100, tl1000, tl9999, tlm1, tlm9, tlm50, tl2147483647]; omega))) (fun z36 hz36 => ?_)
                refine Ok_if ?_ ?_
                · intro h
                  have c715 : i5.toInt ≤ z36.toInt := i32le h
                  refine Ok_bind (ok_X8_flowOn f16 i2 i3 i5 (by first | omega | assumption | (try simp only [tl0, tl1, tl2, tl3, tl4, tl5, tl6, tl8, tl9, tl10, tl50, tl81, tl100, tl1000, tl9999, tlm1, tlm9, tlm50, tl2147483647]; omega)) (by first | omega | assumption | (try simp only [tl0, tl1, tl2, tl3, tl4, tl5, tl6, tl8, tl9, tl10, tl50, tl81, tl100, tl1000, tl9999, tlm1, tlm9, tlm50, tl2147483647]; omega)) (by first | omega | assumption | (try simp only [tl0, tl1, tl2, tl3, tl4, tl5, tl6, tl8, tl9, tl10, tl50, tl81, tl100, tl1000, tl9999, tlm1, tlm9, tlm50, tl2147483647]; omega)) (by first | omega | assumption | (try simp only [tl0, tl1, tl2, tl3, tl4, tl5, tl6, tl8, tl9, tl10, tl50, tl81, tl100, tl1000, tl9999, tlm1, tlm9, tlm50, tl2147483647]; omega))) (fun z37 hz37 => ?_)
                  refine Ok_bind (ok_X8_flowOn z37 i3 i4 i5 (by first | omega | assumption | (try simp only [tl0, tl1, tl2, tl3, tl4, tl5, tl6, tl8, tl9, tl10, tl50, tl81, tl100, tl1000, tl9999, tlm1, tlm9, tlm50, tl2147483647]; omega)) (by first | omega | assumption | (try simp only [tl0, tl1, tl2, tl3, tl4, tl5, tl6, tl8, tl9, tl10, tl50, tl81, tl100, tl1000, tl9999, tlm1, tlm9, tlm50, tl2147483647]; omega)) (by first | omega | assumption | (try simp only [tl0, tl1, tl2, tl3, tl4, tl5, tl6, tl8, tl9, tl10, tl50, tl81, tl100, tl1000, tl9999, tlm1, tlm9, tlm50, tl2147483647]; omega)) (by first | omega | assumption | (try simp only [tl0, tl1, tl2, tl3, tl4, tl5, tl6, tl8, tl9, tl10, tl50, tl81, tl100, tl1000, tl9999, tlm1, tlm9, tlm50, tl2147483647]; omega))) (fun z38 hz38 => ?_)
                  refine Ok_bind (ok_X8_flowOn z38 i4 i2 i5 (by first | omega | assumption | (try simp only [tl0, tl1, tl2, tl3, tl4, tl5, tl6, tl8, tl9, tl10, tl50, tl81, tl100, tl1000, tl9999, tlm1, tlm9, tlm50, tl2147483647]; omega)) (by first | omega | assumption | (try simp only [tl0, tl1, tl2, tl3, tl4, tl5, tl6, tl8, tl9, tl10, tl50, tl81, tl100, tl1000, tl9999, tlm1, tlm9, tlm50, tl2147483647]; omega)) (by first | omega | assumption | (try simp only [tl0, tl1, tl2, tl3, tl4, tl5, tl6, tl8, tl9, tl10, tl50, tl81, tl100, tl1000, tl9999, tlm1, tlm9, tlm50, tl2147483647]; omega)) (by first | omega | assumption | (try simp only [tl0, tl1, tl2, tl3, tl4, tl5, tl6, tl8, tl9, tl10, tl50, tl81, tl100, tl1000, tl9999, tlm1, tlm9, tlm50, tl2147483647]; omega))) (fun z39 hz39 => ?_)
                  refine Ok_bind (ok_X8_flowing z39) (fun z40 hz40 => ?_)
                  refine Ok_bind (ok_X8_did i11 z40) (fun z41 hz41 => ?_)
                  exact Ok_some trivial
                · intro h
                  have c716 : z36.toInt < i5.toInt := i32nle h
                  rw [wk33]
                  show Ok ((fX8_no i12).bind (fun z42 => some ((-9 : Int32), i11, z42, z31.2, f16))) _
                  refine Ok_bind (ok_X8_no i12) (fun z42 hz42 => ?_)
                  exact Ok_some trivial
          · intro h
            have c717 : z31.1.toInt ≠ 0 := i32ne h
            exact Ok_some trivial
        · intro h
          have c718 : i2.toInt ≠ i3.toInt := i32ne h
          refine Ok_if ?_ ?_
          · intro h
            have c719 : i2.toInt = i4.toInt := i32eq h
            rw [wk27]
            show Ok (k25 (1 : Int32)) _
            rw [wk25]
            show Ok ((fX8_isThrown (0 : Int32) (1 : Int32)).bind (fun z31 => if z31.1 = (0 : Int32) then ((fX8_left f15 f16 i2 i3).bind (fun z32 => jn (fun (_ : Unit) => (fX8_no i12).bind (fun z42 => some ((-9 : Int32), i11, z42, z31.2, f16))) (fun (k33 : Unit → Option (Int32 × Int32 × Int32 × Int32 × (Nat → Int32))) => if z32 < i5 then (k33 ()) else ((fX8_left f15 f16 i3 i4).bind (fun z35 => if z35 < i5 then (k33 ()) else ((fX8_left f15 f16 i4 i2).bind (fun z36 => if i5 ≤ z36 then ((fX8_flowOn f16 i2 i3 i5).bind (fun z37 => (fX8_flowOn z37 i3 i4 i5).bind (fun z38 => (fX8_flowOn z38 i4 i2 i5).bind (fun z39 => (fX8_flowing z39).bind (fun z40 => (fX8_did i11 z40).bind (fun z41 => some (z41.1, z41.2, i12, z31.2, z39))))))) else (k33 ())))))))) else (some ((0 : Int32), i11, i12, z31.2, f16)))) _
            refine Ok_bind (ok_X8_isThrown (0 : Int32) (1 : Int32)) (fun z31 hz31 => ?_)
            try dsimp only at hz31
            try simp only [tl0, tl1, tl2, tl3, tl4, tl5, tl6, tl8, tl9, tl10, tl50, tl81, tl100, tl1000, tl9999, tlm1, tlm9, tlm50, tl2147483647] at hz31
            refine Ok_if ?_ ?_
            · intro h
              have c720 : z31.1.toInt = 0 := i32eq h
              refine Ok_bind (ok_X8_left f15 f16 i2 i3 (by first | omega | assumption | (try simp only [tl0, tl1, tl2, tl3, tl4, tl5, tl6, tl8, tl9, tl10, tl50, tl81, tl100, tl1000, tl9999, tlm1, tlm9, tlm50, tl2147483647]; omega)) (by first | omega | assumption | (try simp only [tl0, tl1, tl2, tl3, tl4, tl5, tl6, tl8, tl9, tl10, tl50, tl81, tl100, tl1000, tl9999, tlm1, tlm9, tlm50, tl2147483647]; omega)) (by first | omega | assumption | (try simp only [tl0, tl1, tl2, tl3, tl4, tl5, tl6, tl8, tl9, tl10, tl50, tl81, tl100, tl1000, tl9999, tlm1, tlm9, tlm50, tl2147483647]; omega)) (by first | omega | assumption | (try simp only [tl0, tl1, tl2, tl3, tl4, tl5, tl6, tl8, tl9, tl10, tl50, tl81, tl100, tl1000, tl9999, tlm1, tlm9, tlm50, tl2147483647]; omega))) (fun z32 hz32 => ?_)
              refine Ok_jn (fun k33 wk33 => ?_)
              refine Ok_if ?_ ?_
              · intro h
                have c721 : z32.toInt < i5.toInt := i32lt h
                rw [wk33]
                show Ok ((fX8_no i12).bind (fun z42 => some ((-9 : Int32), i11, z42, z31.2, f16))) _
                refine Ok_bind (ok_X8_no i12) (fun z42 hz42 => ?_)
                exact Ok_some trivial
              · intro h
                have c722 : i5.toInt ≤ z32.toInt := i32nlt h
                refine Ok_bind (ok_X8_left f15 f16 i3 i4 (by first | omega | assumption | (try simp only [tl0, tl1, tl2, tl3, tl4, tl5, tl6, tl8, tl9, tl10, tl50, tl81, tl100, tl1000, tl9999, tlm1, tlm9, tlm50, tl2147483647]; omega)) (by first | omega | assumption | (try simp only [tl0, tl1, tl2, tl3, tl4, tl5, tl6, tl8, tl9, tl10, tl50, tl81, tl100, tl1000, tl9999, tlm1, tlm9, tlm50, tl2147483647]; omega)) (by first | omega | assumption | (try simp only [tl0, tl1, tl2, tl3, tl4, tl5, tl6, tl8, tl9, tl10, tl50, tl81, tl100, tl1000, tl9999, tlm1, tlm9, tlm50, tl2147483647]; omega)) (by first | omega | assumption | (try simp only [tl0, tl1, tl2, tl3, tl4, tl5, tl6, tl8, tl9, tl10, tl50, tl81, tl100, tl1000, tl9999, tlm1, tlm9, tlm50, tl2147483647]; omega))) (fun z35 hz35 => ?_)
                refine Ok_if ?_ ?_
                · intro h
                  have c723 : z35.toInt < i5.toInt := i32lt h
                  rw [wk33]
                  show Ok ((fX8_no i12).bind (fun z42 => some ((-9 : Int32), i11, z42, z31.2, f16))) _
                  refine Ok_bind (ok_X8_no i12) (fun z42 hz42 => ?_)
                  exact Ok_some trivial
                · intro h
                  have c724 : i5.toInt ≤ z35.toInt := i32nlt h
                  refine Ok_bind (ok_X8_left f15 f16 i4 i2 (by first | omega | assumption | (try simp only [tl0, tl1, tl2, tl3, tl4, tl5, tl6, tl8, tl9, tl10, tl50, tl81, tl100, tl1000, tl9999, tlm1, tlm9, tlm50, tl2147483647]; omega)) (by first | omega | assumption | (try simp only [tl0, tl1, tl2, tl3, tl4, tl5, tl6, tl8, tl9, tl10, tl50, tl81, tl100, tl1000, tl9999, tlm1, tlm9, tlm50, tl2147483647]; omega)) (by first | omega | assumption | (try simp only [tl0, tl1, tl2, tl3, tl4, tl5, tl6, tl8, tl9, tl10, tl50, tl81, tl100, tl1000, tl9999, tlm1, tlm9, tlm50, tl2147483647]; omega)) (by first | omega | assumption | (try simp only [tl0, tl1, tl2, tl3, tl4, tl5, tl6, tl8, tl9, tl10, tl50, tl81, tl100, tl1000, tl9999, tlm1, tlm9, tlm50, tl2147483647]; omega))) (fun z36 hz36 => ?_)
                  refine Ok_if ?_ ?_
                  · intro h
                    have c725 : i5.toInt ≤ z36.toInt := i32le h
                    refine Ok_bind (ok_X8_flowOn f16 i2 i3 i5 (by first | omega | assumption | (try simp only [tl0, tl1, tl2, tl3, tl4, tl5, tl6, tl8, tl9, tl10, tl50, tl81, tl100, tl1000, tl9999, tlm1, tlm9, tlm50, tl2147483647]; omega)) (by first | omega | assumption | (try simp only [tl0, tl1, tl2, tl3, tl4, tl5, tl6, tl8, tl9, tl10, tl50, tl81, tl100, tl1000, tl9999, tlm1, tlm9, tlm50, tl2147483647]; omega)) (by first | omega | assumption | (try simp only [tl0, tl1, tl2, tl3, tl4, tl5, tl6, tl8, tl9, tl10, tl50, tl81, tl100, tl1000, tl9999, tlm1, tlm9, tlm50, tl2147483647]; omega)) (by first | omega | assumption | (try simp only [tl0, tl1, tl2, tl3, tl4, tl5, tl6, tl8, tl9, tl10, tl50, tl81, tl100, tl1000, tl9999, tlm1, tlm9, tlm50, tl2147483647]; omega))) (fun z37 hz37 => ?_)
                    refine Ok_bind (ok_X8_flowOn z37 i3 i4 i5 (by first | omega | assumption | (try simp only [tl0, tl1, tl2, tl3, tl4, tl5, tl6, tl8, tl9, tl10, tl50, tl81, tl100, tl1000, tl9999, tlm1, tlm9, tlm50, tl2147483647]; omega)) (by first | omega | assumption | (try simp only [tl0, tl1, tl2, tl3, tl4, tl5, tl6, tl8, tl9, tl10, tl50, tl81, tl100, tl1000, tl9999, tlm1, tlm9, tlm50, tl2147483647]; omega)) (by first | omega | assumption | (try simp only [tl0, tl1, tl2, tl3, tl4, tl5, tl6, tl8, tl9, tl10, tl50, tl81, tl100, tl1000, tl9999, tlm1, tlm9, tlm50, tl2147483647]; omega)) (by first | omega | assumption | (try simp only [tl0, tl1, tl2, tl3, tl4, tl5, tl6, tl8, tl9, tl10, tl50, tl81, tl100, tl1000, tl9999, tlm1, tlm9, tlm50, tl2147483647]; omega))) (fun z38 hz38 => ?_)
                    refine Ok_bind (ok_X8_flowOn z38 i4 i2 i5 (by first | omega | assumption | (try simp only [tl0, tl1, tl2, tl3, tl4, tl5, tl6, tl8, tl9, tl10, tl50, tl81, tl100, tl1000, tl9999, tlm1, tlm9, tlm50, tl2147483647]; omega)) (by first | omega | assumption | (try simp only [tl0, tl1, tl2, tl3, tl4, tl5, tl6, tl8, tl9, tl10, tl50, tl81, tl100, tl1000, tl9999, tlm1, tlm9, tlm50, tl2147483647]; omega)) (by first | omega | assumption | (try simp only [tl0, tl1, tl2, tl3, tl4, tl5, tl6, tl8, tl9, tl10, tl50, tl81, tl100, tl1000, tl9999, tlm1, tlm9, tlm50, tl2147483647]; omega)) (by first | omega | assumption | (try simp only [tl0, tl1, tl2, tl3, tl4, tl5, tl6, tl8, tl9, tl10, tl50, tl81, tl100, tl1000, tl9999, tlm1, tlm9, tlm50, tl2147483647]; omega))) (fun z39 hz39 => ?_)
                    refine Ok_bind (ok_X8_flowing z39) (fun z40 hz40 => ?_)
                    refine Ok_bind (ok_X8_did i11 z40) (fun z41 hz41 => ?_)
                    exact Ok_some trivial
                  · intro h
                    have c726 : z36.toInt < i5.toInt := i32nle h
                    rw [wk33]
                    show Ok ((fX8_no i12).bind (fun z42 => some ((-9 : Int32), i11, z42, z31.2, f16))) _
                    refine Ok_bind (ok_X8_no i12) (fun z42 hz42 => ?_)
                    exact Ok_some trivial
            · intro h
              have c727 : z31.1.toInt ≠ 0 := i32ne h
              exact Ok_some trivial
          · intro h
            have c728 : i2.toInt ≠ i4.toInt := i32ne h
            refine Ok_if ?_ ?_
            · intro h
              have c729 : i3.toInt = i4.toInt := i32eq h
              rw [wk27]
              show Ok (k25 (1 : Int32)) _
              rw [wk25]
              show Ok ((fX8_isThrown (0 : Int32) (1 : Int32)).bind (fun z31 => if z31.1 = (0 : Int32) then ((fX8_left f15 f16 i2 i3).bind (fun z32 => jn (fun (_ : Unit) => (fX8_no i12).bind (fun z42 => some ((-9 : Int32), i11, z42, z31.2, f16))) (fun (k33 : Unit → Option (Int32 × Int32 × Int32 × Int32 × (Nat → Int32))) => if z32 < i5 then (k33 ()) else ((fX8_left f15 f16 i3 i4).bind (fun z35 => if z35 < i5 then (k33 ()) else ((fX8_left f15 f16 i4 i2).bind (fun z36 => if i5 ≤ z36 then ((fX8_flowOn f16 i2 i3 i5).bind (fun z37 => (fX8_flowOn z37 i3 i4 i5).bind (fun z38 => (fX8_flowOn z38 i4 i2 i5).bind (fun z39 => (fX8_flowing z39).bind (fun z40 => (fX8_did i11 z40).bind (fun z41 => some (z41.1, z41.2, i12, z31.2, z39))))))) else (k33 ())))))))) else (some ((0 : Int32), i11, i12, z31.2, f16)))) _
              refine Ok_bind (ok_X8_isThrown (0 : Int32) (1 : Int32)) (fun z31 hz31 => ?_)
              try dsimp only at hz31
              try simp only [tl0, tl1, tl2, tl3, tl4, tl5, tl6, tl8, tl9, tl10, tl50, tl81, tl100, tl1000, tl9999, tlm1, tlm9, tlm50, tl2147483647] at hz31
              refine Ok_if ?_ ?_
              · intro h
                have c730 : z31.1.toInt = 0 := i32eq h
                refine Ok_bind (ok_X8_left f15 f16 i2 i3 (by first | omega | assumption | (try simp only [tl0, tl1, tl2, tl3, tl4, tl5, tl6, tl8, tl9, tl10, tl50, tl81, tl100, tl1000, tl9999, tlm1, tlm9, tlm50, tl2147483647]; omega)) (by first | omega | assumption | (try simp only [tl0, tl1, tl2, tl3, tl4, tl5, tl6, tl8, tl9, tl10, tl50, tl81, tl100, tl1000, tl9999, tlm1, tlm9, tlm50, tl2147483647]; omega)) (by first | omega | assumption | (try simp only [tl0, tl1, tl2, tl3, tl4, tl5, tl6, tl8, tl9, tl10, tl50, tl81, tl100, tl1000, tl9999, tlm1, tlm9, tlm50, tl2147483647]; omega)) (by first | omega | assumption | (try simp only [tl0, tl1, tl2, tl3, tl4, tl5, tl6, tl8, tl9, tl10, tl50, tl81, tl100, tl1000, tl9999, tlm1, tlm9, tlm50, tl2147483647]; omega))) (fun z32 hz32 => ?_)
                refine Ok_jn (fun k33 wk33 => ?_)
                refine Ok_if ?_ ?_
                · intro h
                  have c731 : z32.toInt < i5.toInt := i32lt h
                  rw [wk33]
                  show Ok ((fX8_no i12).bind (fun z42 => some ((-9 : Int32), i11, z42, z31.2, f16))) _
                  refine Ok_bind (ok_X8_no i12) (fun z42 hz42 => ?_)
                  exact Ok_some trivial
                · intro h
                  have c732 : i5.toInt ≤ z32.toInt := i32nlt h
                  refine Ok_bind (ok_X8_left f15 f16 i3 i4 (by first | omega | assumption | (try simp only [tl0, tl1, tl2, tl3, tl4, tl5, tl6, tl8, tl9, tl10, tl50, tl81, tl100, tl1000, tl9999, tlm1, tlm9, tlm50, tl2147483647]; omega)) (by first | omega | assumption | (try simp only [tl0, tl1, tl2, tl3, tl4, tl5, tl6, tl8, tl9, tl10, tl50, tl81, tl100, tl1000, tl9999, tlm1, tlm9, tlm50, tl2147483647]; omega)) (by first | omega | assumption | (try simp only [tl0, tl1, tl2, tl3, tl4, tl5, tl6, tl8, tl9, tl10, tl50, tl81, tl100, tl1000, tl9999, tlm1, tlm9, tlm50, tl2147483647]; omega)) (by first | omega | assumption | (try simp only [tl0, tl1, tl2, tl3, tl4, tl5, tl6, tl8, tl9, tl10, tl50, tl81, tl100, tl1000, tl9999, tlm1, tlm9, tlm50, tl2147483647]; omega))) (fun z35 hz35 => ?_)
                  refine Ok_if ?_ ?_
                  · intro h
                    have c733 : z35.toInt < i5.toInt := i32lt h
                    rw [wk33]
                    show Ok ((fX8_no i12).bind (fun z42 => some ((-9 : Int32), i11, z42, z31.2, f16))) _
                    refine Ok_bind (ok_X8_no i12) (fun z42 hz42 => ?_)
                    exact Ok_some trivial
                  · intro h
                    have c734 : i5.toInt ≤ z35.toInt := i32nlt h
                    refine Ok_bind (ok_X8_left f15 f16 i4 i2 (by first | omega | assumption | (try simp only [tl0, tl1, tl2, tl3, tl4, tl5, tl6, tl8, tl9, tl10, tl50, tl81, tl100, tl1000, tl9999, tlm1, tlm9, tlm50, tl2147483647]; omega)) (by first | omega | assumption | (try simp only [tl0, tl1, tl2, tl3, tl4, tl5, tl6, tl8, tl9, tl10, tl50, tl81, tl100, tl1000, tl9999, tlm1, tlm9, tlm50, tl2147483647]; omega)) (by first | omega | assumption | (try simp only [tl0, tl1, tl2, tl3, tl4, tl5, tl6, tl8, tl9, tl10, tl50, tl81, tl100, tl1000, tl9999, tlm1, tlm9, tlm50, tl2147483647]; omega)) (by first | omega | assumption | (try simp only [tl0, tl1, tl2, tl3, tl4, tl5, tl6, tl8, tl9, tl10, tl50, tl81, tl100, tl1000, tl9999, tlm1, tlm9, tlm50, tl2147483647]; omega))) (fun z36 hz36 => ?_)
                    refine Ok_if ?_ ?_
                    · intro h
                      have c735 : i5.toInt ≤ z36.toInt := i32le h
                      refine Ok_bind (ok_X8_flowOn f16 i2 i3 i5 (by first | omega | assumption | (try simp only [tl0, tl1, tl2, tl3, tl4, tl5, tl6, tl8, tl9, tl10, tl50, tl81, tl100, tl1000, tl9999, tlm1, tlm9, tlm50, tl2147483647]; omega)) (by first | omega | assumption | (try simp only [tl0, tl1, tl2, tl3, tl4, tl5, tl6, tl8, tl9, tl10, tl50, tl81, tl100, tl1000, tl9999, tlm1, tlm9, tlm50, tl2147483647]; omega)) (by first | omega | assumption | (try simp only [tl0, tl1, tl2, tl3, tl4, tl5, tl6, tl8, tl9, tl10, tl50, tl81, tl100, tl1000, tl9999, tlm1, tlm9, tlm50, tl2147483647]; omega)) (by first | omega | assumption | (try simp only [tl0, tl1, tl2, tl3, tl4, tl5, tl6, tl8, tl9, tl10, tl50, tl81, tl100, tl1000, tl9999, tlm1, tlm9, tlm50, tl2147483647]; omega))) (fun z37 hz37 => ?_)
                      refine Ok_bind (ok_X8_flowOn z37 i3 i4 i5 (by first | omega | assumption | (try simp only [tl0, tl1, tl2, tl3, tl4, tl5, tl6, tl8, tl9, tl10, tl50, tl81, tl100, tl1000, tl9999, tlm1, tlm9, tlm50, tl2147483647]; omega)) (by first | omega | assumption | (try simp only [tl0, tl1, tl2, tl3, tl4, tl5, tl6, tl8, tl9, tl10, tl50, tl81, tl100, tl1000, tl9999, tlm1, tlm9, tlm50, tl2147483647]; omega)) (by first | omega | assumption | (try simp only [tl0, tl1, tl2, tl3, tl4, tl5, tl6, tl8, tl9, tl10, tl50, tl81, tl100, tl1000, tl9999, tlm1, tlm9, tlm50, tl2147483647]; omega)) (by first | omega | assumption | (try simp only [tl0, tl1, tl2, tl3, tl4, tl5, tl6, tl8, tl9, tl10, tl50, tl81, tl100, tl1000, tl9999, tlm1, tlm9, tlm50, tl2147483647]; omega))) (fun z38 hz38 => ?_)
                      refine Ok_bind (ok_X8_flowOn z38 i4 i2 i5 (by first | omega | assumption | (try simp only [tl0, tl1, tl2, tl3, tl4, tl5, tl6, tl8, tl9, tl10, tl50, tl81, tl100, tl1000, tl9999, tlm1, tlm9, tlm50, tl2147483647]; omega)) (by first | omega | assumption | (try simp only [tl0, tl1, tl2, tl3, tl4, tl5, tl6, tl8, tl9, tl10, tl50, tl81, tl100, tl1000, tl9999, tlm1, tlm9, tlm50, tl2147483647]; omega)) (by first | omega | assumption | (try simp only [tl0, tl1, tl2, tl3, tl4, tl5, tl6, tl8, tl9, tl10, tl50, tl81, tl100, tl1000, tl9999, tlm1, tlm9, tlm50, tl2147483647]; omega)) (by first | omega | assumption | (try simp only [tl0, tl1, tl2, tl3, tl4, tl5, tl6, tl8, tl9, tl10, tl50, tl81, tl100, tl1000, tl9999, tlm1, tlm9, tlm50, tl2147483647]; omega))) (fun z39 hz39 => ?_)
                      refine Ok_bind (ok_X8_flowing z39) (fun z40 hz40 => ?_)
                      refine Ok_bind (ok_X8_did i11 z40) (fun z41 hz41 => ?_)
                      exact Ok_some trivial
                    · intro h
                      have c736 : z36.toInt < i5.toInt := i32nle h
                      rw [wk33]
                      show Ok ((fX8_no i12).bind (fun z42 => some ((-9 : Int32), i11, z42, z31.2, f16))) _
                      refine Ok_bind (ok_X8_no i12) (fun z42 hz42 => ?_)
                      exact Ok_some trivial
              · intro h
                have c737 : z31.1.toInt ≠ 0 := i32ne h
                exact Ok_some trivial
            · intro h
              have c738 : i3.toInt ≠ i4.toInt := i32ne h
              refine Ok_bind (ok_X8_isRoom i5) (fun z29 hz29 => ?_)
              try dsimp only at hz29
              try simp only [tl0, tl1, tl2, tl3, tl4, tl5, tl6, tl8, tl9, tl10, tl50, tl81, tl100, tl1000, tl9999, tlm1, tlm9, tlm50, tl2147483647] at hz29
              refine Ok_if ?_ ?_
              · intro h
                have c739 : z29.toInt = 0 := i32eq h
                rw [wk27]
                show Ok (k25 (1 : Int32)) _
                rw [wk25]
                show Ok ((fX8_isThrown (0 : Int32) (1 : Int32)).bind (fun z31 => if z31.1 = (0 : Int32) then ((fX8_left f15 f16 i2 i3).bind (fun z32 => jn (fun (_ : Unit) => (fX8_no i12).bind (fun z42 => some ((-9 : Int32), i11, z42, z31.2, f16))) (fun (k33 : Unit → Option (Int32 × Int32 × Int32 × Int32 × (Nat → Int32))) => if z32 < i5 then (k33 ()) else ((fX8_left f15 f16 i3 i4).bind (fun z35 => if z35 < i5 then (k33 ()) else ((fX8_left f15 f16 i4 i2).bind (fun z36 => if i5 ≤ z36 then ((fX8_flowOn f16 i2 i3 i5).bind (fun z37 => (fX8_flowOn z37 i3 i4 i5).bind (fun z38 => (fX8_flowOn z38 i4 i2 i5).bind (fun z39 => (fX8_flowing z39).bind (fun z40 => (fX8_did i11 z40).bind (fun z41 => some (z41.1, z41.2, i12, z31.2, z39))))))) else (k33 ())))))))) else (some ((0 : Int32), i11, i12, z31.2, f16)))) _
                refine Ok_bind (ok_X8_isThrown (0 : Int32) (1 : Int32)) (fun z31 hz31 => ?_)
                try dsimp only at hz31
                try simp only [tl0, tl1, tl2, tl3, tl4, tl5, tl6, tl8, tl9, tl10, tl50, tl81, tl100, tl1000, tl9999, tlm1, tlm9, tlm50, tl2147483647] at hz31
                refine Ok_if ?_ ?_
                · intro h
                  have c740 : z31.1.toInt = 0 := i32eq h
                  refine Ok_bind (ok_X8_left f15 f16 i2 i3 (by first | omega | assumption | (try simp only [tl0, tl1, tl2, tl3, tl4, tl5, tl6, tl8, tl9, tl10, tl50, tl81, tl100, tl1000, tl9999, tlm1, tlm9, tlm50, tl2147483647]; omega)) (by first | omega | assumption | (try simp only [tl0, tl1, tl2, tl3, tl4, tl5, tl6, tl8, tl9, tl10, tl50, tl81, tl100, tl1000, tl9999, tlm1, tlm9, tlm50, tl2147483647]; omega)) (by first | omega | assumption | (try simp only [tl0, tl1, tl2, tl3, tl4, tl5, tl6, tl8, tl9, tl10, tl50, tl81, tl100, tl1000, tl9999, tlm1, tlm9, tlm50, tl2147483647]; omega)) (by first | omega | assumption | (try simp only [tl0, tl1, tl2, tl3, tl4, tl5, tl6, tl8, tl9, tl10, tl50, tl81, tl100, tl1000, tl9999, tlm1, tlm9, tlm50, tl2147483647]; omega))) (fun z32 hz32 => ?_)
                  refine Ok_jn (fun k33 wk33 => ?_)
                  refine Ok_if ?_ ?_
                  · intro h
                    have c741 : z32.toInt < i5.toInt := i32lt h
                    rw [wk33]
                    show Ok ((fX8_no i12).bind (fun z42 => some ((-9 : Int32), i11, z42, z31.2, f16))) _
                    refine Ok_bind (ok_X8_no i12) (fun z42 hz42 => ?_)
                    exact Ok_some trivial
                  · intro h
                    have c742 : i5.toInt ≤ z32.toInt := i32nlt h
                    refine Ok_bind (ok_X8_left f15 f16 i3 i4 (by first | omega | assumption | (try simp only [tl0, tl1, tl2, tl3, tl4, tl5, tl6, tl8, tl9, tl10, tl50, tl81, tl100, tl1000, tl9999, tlm1, tlm9, tlm50, tl2147483647]; omega)) (by first | omega | assumption | (try simp only [tl0, tl1, tl2, tl3, tl4, tl5, tl6, tl8, tl9, tl10, tl50, tl81, tl100, tl1000, tl9999, tlm1, tlm9, tlm50, tl2147483647]; omega)) (by first | omega | assumption | (try simp only [tl0, tl1, tl2, tl3, tl4, tl5, tl6, tl8, tl9, tl10, tl50, tl81, tl100, tl1000, tl9999, tlm1, tlm9, tlm50, tl2147483647]; omega)) (by first | omega | assumption | (try simp only [tl0, tl1, tl2, tl3, tl4, tl5, tl6, tl8, tl9, tl10, tl50, tl81, tl100, tl1000, tl9999, tlm1, tlm9, tlm50, tl2147483647]; omega))) (fun z35 hz35 => ?_)
                    refine Ok_if ?_ ?_
                    · intro h
                      have c743 : z35.toInt < i5.toInt := i32lt h
                      rw [wk33]
                      show Ok ((fX8_no i12).bind (fun z42 => some ((-9 : Int32), i11, z42, z31.2, f16))) _
                      refine Ok_bind (ok_X8_no i12) (fun z42 hz42 => ?_)
                      exact Ok_some trivial
                    · intro h
                      have c744 : i5.toInt ≤ z35.toInt := i32nlt h
                      refine Ok_bind (ok_X8_left f15 f16 i4 i2 (by first | omega | assumption | (try simp only [tl0, tl1, tl2, tl3, tl4, tl5, tl6, tl8, tl9, tl10, tl50, tl81, tl100, tl1000, tl9999, tlm1, tlm9, tlm50, tl2147483647]; omega)) (by first | omega | assumption | (try simp only [tl0, tl1, tl2, tl3, tl4, tl5, tl6, tl8, tl9, tl10, tl50, tl81, tl100, tl1000, tl9999, tlm1, tlm9, tlm50, tl2147483647]; omega)) (by first | omega | assumption | (try simp only [tl0, tl1, tl2, tl3, tl4, tl5, tl6, tl8, tl9, tl10, tl50, tl81, tl100, tl1000, tl9999, tlm1, tlm9, tlm50, tl2147483647]; omega)) (by first | omega | assumption | (try simp only [tl0, tl1, tl2, tl3, tl4, tl5, tl6, tl8, tl9, tl10, tl50, tl81, tl100, tl1000, tl9999, tlm1, tlm9, tlm50, tl2147483647]; omega))) (fun z36 hz36 => ?_)
                      refine Ok_if ?_ ?_
                      · intro h
                        have c745 : i5.toInt ≤ z36.toInt := i32le h
                        refine Ok_bind (ok_X8_flowOn f16 i2 i3 i5 (by first | omega | assumption | (try simp only [tl0, tl1, tl2, tl3, tl4, tl5, tl6, tl8, tl9, tl10, tl50, tl81, tl100, tl1000, tl9999, tlm1, tlm9, tlm50, tl2147483647]; omega)) (by first | omega | assumption | (try simp only [tl0, tl1, tl2, tl3, tl4, tl5, tl6, tl8, tl9, tl10, tl50, tl81, tl100, tl1000, tl9999, tlm1, tlm9, tlm50, tl2147483647]; omega)) (by first | omega | assumption | (try simp only [tl0, tl1, tl2, tl3, tl4, tl5, tl6, tl8, tl9, tl10, tl50, tl81, tl100, tl1000, tl9999, tlm1, tlm9, tlm50, tl2147483647]; omega)) (by first | omega | assumption | (try simp only [tl0, tl1, tl2, tl3, tl4, tl5, tl6, tl8, tl9, tl10, tl50, tl81, tl100, tl1000, tl9999, tlm1, tlm9, tlm50, tl2147483647]; omega))) (fun z37 hz37 => ?_)
                        refine Ok_bind (ok_X8_flowOn z37 i3 i4 i5 (by first | omega | assumption | (try simp only [tl0, tl1, tl2, tl3, tl4, tl5, tl6, tl8, tl9, tl10, tl50, tl81, tl100, tl1000, tl9999, tlm1, tlm9, tlm50, tl2147483647]; omega)) (by first | omega | assumption | (try simp only [tl0, tl1, tl2, tl3, tl4, tl5, tl6, tl8, tl9, tl10, tl50, tl81, tl100, tl1000, tl9999, tlm1, tlm9, tlm50, tl2147483647]; omega)) (by first | omega | assumption | (try simp only [tl0, tl1, tl2, tl3, tl4, tl5, tl6, tl8, tl9, tl10, tl50, tl81, tl100, tl1000, tl9999, tlm1, tlm9, tlm50, tl2147483647]; omega)) (by first | omega | assumption | (try simp only [tl0, tl1, tl2, tl3, tl4, tl5, tl6, tl8, tl9, tl10, tl50, tl81, tl100, tl1000, tl9999, tlm1, tlm9, tlm50, tl2147483647]; omega))) (fun z38 hz38 => ?_)
                        refine Ok_bind (ok_X8_flowOn z38 i4 i2 i5 (by first | omega | assumption | (try simp only [tl0, tl1, tl2, tl3, tl4, tl5, tl6, tl8, tl9, tl10, tl50, tl81, tl100, tl1000, tl9999, tlm1, tlm9, tlm50, tl2147483647]; omega)) (by first | omega | assumption | (try simp only [tl0, tl1, tl2, tl3, tl4, tl5, tl6, tl8, tl9, tl10, tl50, tl81, tl100, tl1000, tl9999, tlm1, tlm9, tlm50, tl2147483647]; omega)) (by first | omega | assumption | (try simp only [tl0, tl1, tl2, tl3, tl4, tl5, tl6, tl8, tl9, tl10, tl50, tl81, tl100, tl1000, tl9999, tlm1, tlm9, tlm50, tl2147483647]; omega)) (by first | omega | assumption | (try simp only [tl0, tl1, tl2, tl3, tl4, tl5, tl6, tl8, tl9, tl10, tl50, tl81, tl100, tl1000, tl9999, tlm1, tlm9, tlm50, tl2147483647]; omega))) (fun z39 hz39 => ?_)
                        refine Ok_bind (ok_X8_flowing z39) (fun z40 hz40 => ?_)
                        refine Ok_bind (ok_X8_did i11 z40) (fun z41 hz41 => ?_)
                        exact Ok_some trivial
                      · intro h
                        have c746 : z36.toInt < i5.toInt := i32nle h
                        rw [wk33]
                        show Ok ((fX8_no i12).bind (fun z42 => some ((-9 : Int32), i11, z42, z31.2, f16))) _
                        refine Ok_bind (ok_X8_no i12) (fun z42 hz42 => ?_)
                        exact Ok_some trivial
                · intro h
                  have c747 : z31.1.toInt ≠ 0 := i32ne h
                  exact Ok_some trivial
              · intro h
                have c748 : z29.toInt ≠ 0 := i32ne h
                rw [wk25]
                show Ok ((fX8_isThrown (0 : Int32) (0 : Int32)).bind (fun z31 => if z31.1 = (0 : Int32) then ((fX8_left f15 f16 i2 i3).bind (fun z32 => jn (fun (_ : Unit) => (fX8_no i12).bind (fun z42 => some ((-9 : Int32), i11, z42, z31.2, f16))) (fun (k33 : Unit → Option (Int32 × Int32 × Int32 × Int32 × (Nat → Int32))) => if z32 < i5 then (k33 ()) else ((fX8_left f15 f16 i3 i4).bind (fun z35 => if z35 < i5 then (k33 ()) else ((fX8_left f15 f16 i4 i2).bind (fun z36 => if i5 ≤ z36 then ((fX8_flowOn f16 i2 i3 i5).bind (fun z37 => (fX8_flowOn z37 i3 i4 i5).bind (fun z38 => (fX8_flowOn z38 i4 i2 i5).bind (fun z39 => (fX8_flowing z39).bind (fun z40 => (fX8_did i11 z40).bind (fun z41 => some (z41.1, z41.2, i12, z31.2, z39))))))) else (k33 ())))))))) else (some ((0 : Int32), i11, i12, z31.2, f16)))) _
                refine Ok_bind (ok_X8_isThrown (0 : Int32) (0 : Int32)) (fun z31 hz31 => ?_)
                try dsimp only at hz31
                try simp only [tl0, tl1, tl2, tl3, tl4, tl5, tl6, tl8, tl9, tl10, tl50, tl81, tl100, tl1000, tl9999, tlm1, tlm9, tlm50, tl2147483647] at hz31
                refine Ok_if ?_ ?_
                · intro h
                  have c749 : z31.1.toInt = 0 := i32eq h
                  refine Ok_bind (ok_X8_left f15 f16 i2 i3 (by first | omega | assumption | (try simp only [tl0, tl1, tl2, tl3, tl4, tl5, tl6, tl8, tl9, tl10, tl50, tl81, tl100, tl1000, tl9999, tlm1, tlm9, tlm50, tl2147483647]; omega)) (by first | omega | assumption | (try simp only [tl0, tl1, tl2, tl3, tl4, tl5, tl6, tl8, tl9, tl10, tl50, tl81, tl100, tl1000, tl9999, tlm1, tlm9, tlm50, tl2147483647]; omega)) (by first | omega | assumption | (try simp only [tl0, tl1, tl2, tl3, tl4, tl5, tl6, tl8, tl9, tl10, tl50, tl81, tl100, tl1000, tl9999, tlm1, tlm9, tlm50, tl2147483647]; omega)) (by first | omega | assumption | (try simp only [tl0, tl1, tl2, tl3, tl4, tl5, tl6, tl8, tl9, tl10, tl50, tl81, tl100, tl1000, tl9999, tlm1, tlm9, tlm50, tl2147483647]; omega))) (fun z32 hz32 => ?_)
                  refine Ok_jn (fun k33 wk33 => ?_)
                  refine Ok_if ?_ ?_
                  · intro h
                    have c750 : z32.toInt < i5.toInt := i32lt h
                    rw [wk33]
                    show Ok ((fX8_no i12).bind (fun z42 => some ((-9 : Int32), i11, z42, z31.2, f16))) _
                    refine Ok_bind (ok_X8_no i12) (fun z42 hz42 => ?_)
                    exact Ok_some trivial
                  · intro h
                    have c751 : i5.toInt ≤ z32.toInt := i32nlt h
                    refine Ok_bind (ok_X8_left f15 f16 i3 i4 (by first | omega | assumption | (try simp only [tl0, tl1, tl2, tl3, tl4, tl5, tl6, tl8, tl9, tl10, tl50, tl81, tl100, tl1000, tl9999, tlm1, tlm9, tlm50, tl2147483647]; omega)) (by first | omega | assumption | (try simp only [tl0, tl1, tl2, tl3, tl4, tl5, tl6, tl8, tl9, tl10, tl50, tl81, tl100, tl1000, tl9999, tlm1, tlm9, tlm50, tl2147483647]; omega)) (by first | omega | assumption | (try simp only [tl0, tl1, tl2, tl3, tl4, tl5, tl6, tl8, tl9, tl10, tl50, tl81, tl100, tl1000, tl9999, tlm1, tlm9, tlm50, tl2147483647]; omega)) (by first | omega | assumption | (try simp only [tl0, tl1, tl2, tl3, tl4, tl5, tl6, tl8, tl9, tl10, tl50, tl81, tl100, tl1000, tl9999, tlm1, tlm9, tlm50, tl2147483647]; omega))) (fun z35 hz35 => ?_)
                    refine Ok_if ?_ ?_
                    · intro h
                      have c752 : z35.toInt < i5.toInt := i32lt h
                      rw [wk33]
                      show Ok ((fX8_no i12).bind (fun z42 => some ((-9 : Int32), i11, z42, z31.2, f16))) _
                      refine Ok_bind (ok_X8_no i12) (fun z42 hz42 => ?_)
                      exact Ok_some trivial
                    · intro h
                      have c753 : i5.toInt ≤ z35.toInt := i32nlt h
                      refine Ok_bind (ok_X8_left f15 f16 i4 i2 (by first | omega | assumption | (try simp only [tl0, tl1, tl2, tl3, tl4, tl5, tl6, tl8, tl9, tl10, tl50, tl81, tl100, tl1000, tl9999, tlm1, tlm9, tlm50, tl2147483647]; omega)) (by first | omega | assumption | (try simp only [tl0, tl1, tl2, tl3, tl4, tl5, tl6, tl8, tl9, tl10, tl50, tl81, tl100, tl1000, tl9999, tlm1, tlm9, tlm50, tl2147483647]; omega)) (by first | omega | assumption | (try simp only [tl0, tl1, tl2, tl3, tl4, tl5, tl6, tl8, tl9, tl10, tl50, tl81, tl100, tl1000, tl9999, tlm1, tlm9, tlm50, tl2147483647]; omega)) (by first | omega | assumption | (try simp only [tl0, tl1, tl2, tl3, tl4, tl5, tl6, tl8, tl9, tl10, tl50, tl81, tl100, tl1000, tl9999, tlm1, tlm9, tlm50, tl2147483647]; omega))) (fun z36 hz36 => ?_)
                      refine Ok_if ?_ ?_
                      · intro h
                        have c754 : i5.toInt ≤ z36.toInt := i32le h
                        refine Ok_bind (ok_X8_flowOn f16 i2 i3 i5 (by first | omega | assumption | (try simp only [tl0, tl1, tl2, tl3, tl4, tl5, tl6, tl8, tl9, tl10, tl50, tl81, tl100, tl1000, tl9999, tlm1, tlm9, tlm50, tl2147483647]; omega)) (by first | omega | assumption | (try simp only [tl0, tl1, tl2, tl3, tl4, tl5, tl6, tl8, tl9, tl10, tl50, tl81, tl100, tl1000, tl9999, tlm1, tlm9, tlm50, tl2147483647]; omega)) (by first | omega | assumption | (try simp only [tl0, tl1, tl2, tl3, tl4, tl5, tl6, tl8, tl9, tl10, tl50, tl81, tl100, tl1000, tl9999, tlm1, tlm9, tlm50, tl2147483647]; omega)) (by first | omega | assumption | (try simp only [tl0, tl1, tl2, tl3, tl4, tl5, tl6, tl8, tl9, tl10, tl50, tl81, tl100, tl1000, tl9999, tlm1, tlm9, tlm50, tl2147483647]; omega))) (fun z37 hz37 => ?_)
                        refine Ok_bind (ok_X8_flowOn z37 i3 i4 i5 (by first | omega | assumption | (try simp only [tl0, tl1, tl2, tl3, tl4, tl5, tl6, tl8, tl9, tl10, tl50, tl81, tl100, tl1000, tl9999, tlm1, tlm9, tlm50, tl2147483647]; omega)) (by first | omega | assumption | (try simp only [tl0, tl1, tl2, tl3, tl4, tl5, tl6, tl8, tl9, tl10, tl50, tl81, tl100, tl1000, tl9999, tlm1, tlm9, tlm50, tl2147483647]; omega)) (by first | omega | assumption | (try simp only [tl0, tl1, tl2, tl3, tl4, tl5, tl6, tl8, tl9, tl10, tl50, tl81, tl100, tl1000, tl9999, tlm1, tlm9, tlm50, tl2147483647]; omega)) (by first | omega | assumption | (try simp only [tl0, tl1, tl2, tl3, tl4, tl5, tl6, tl8, tl9, tl10, tl50, tl81, tl100, tl1000, tl9999, tlm1, tlm9, tlm50, tl2147483647]; omega))) (fun z38 hz38 => ?_)
                        refine Ok_bind (ok_X8_flowOn z38 i4 i2 i5 (by first | omega | assumption | (try simp only [tl0, tl1, tl2, tl3, tl4, tl5, tl6, tl8, tl9, tl10, tl50, tl81, tl100, tl1000, tl9999, tlm1, tlm9, tlm50, tl2147483647]; omega)) (by first | omega | assumption | (try simp only [tl0, tl1, tl2, tl3, tl4, tl5, tl6, tl8, tl9, tl10, tl50, tl81, tl100, tl1000, tl9999, tlm1, tlm9, tlm50, tl2147483647]; omega)) (by first | omega | assumption | (try simp only [tl0, tl1, tl2, tl3, tl4, tl5, tl6, tl8, tl9, tl10, tl50, tl81, tl100, tl1000, tl9999, tlm1, tlm9, tlm50, tl2147483647]; omega)) (by first | omega | assumption | (try simp only [tl0, tl1, tl2, tl3, tl4, tl5, tl6, tl8, tl9, tl10, tl50, tl81, tl100, tl1000, tl9999, tlm1, tlm9, tlm50, tl2147483647]; omega))) (fun z39 hz39 => ?_)
                        refine Ok_bind (ok_X8_flowing z39) (fun z40 hz40 => ?_)
                        refine Ok_bind (ok_X8_did i11 z40) (fun z41 hz41 => ?_)
                        exact Ok_some trivial
                      · intro h
                        have c755 : z36.toInt < i5.toInt := i32nle h
                        rw [wk33]
                        show Ok ((fX8_no i12).bind (fun z42 => some ((-9 : Int32), i11, z42, z31.2, f16))) _
                        refine Ok_bind (ok_X8_no i12) (fun z42 hz42 => ?_)
                        exact Ok_some trivial
                · intro h
                  have c756 : z31.1.toInt ≠ 0 := i32ne h
                  exact Ok_some trivial
set_option maxRecDepth 4000 in
theorem ok_X8_empty (i2 : Int32) (i5 : Int32) (i7 : Int32) (f11 : Nat → Int32) (h0 : 2 ≤ i2.toInt ∧ i2.toInt ≤ 9) (h1 : 0 ≤ i5.toInt ∧ i5.toInt ≤ 8) : Ok (fX8_empty i2 i5 i7 f11) (fun z => True) := by
  unfold fX8_empty
  refine Ok_bind (ok_X8_valueNow i2 i5 f11 (by first | omega | assumption | (try simp only [tl0, tl1, tl2, tl3, tl4, tl5, tl6, tl8, tl9, tl10, tl50, tl81, tl100, tl1000, tl9999, tlm1, tlm9, tlm50, tl2147483647]; omega)) (by first | omega | assumption | (try simp only [tl0, tl1, tl2, tl3, tl4, tl5, tl6, tl8, tl9, tl10, tl50, tl81, tl100, tl1000, tl9999, tlm1, tlm9, tlm50, tl2147483647]; omega))) (fun z12 hz12 => ?_)
  refine Ok_bind (ok_X8_still f11) (fun z13 hz13 => ?_)
  refine Ok_bind (ok_X8_did i7 z12) (fun z14 hz14 => ?_)
  exact Ok_some trivial
set_option maxRecDepth 4000 in
theorem okL_X8_toldNow_L57 (f12 : Nat → Int32)     : ∀ (n : Nat) (i31 : Int32) (i32 : Int32), 0 ≤ i32.toInt → 81 - i32.toInt < n → 0 < n → Ok (LX8_toldNow_L57 f12 n i31 i32 ) (fun z => True) := by
  intro n
  induction n with
  | zero => intro i31 i32 v0 hm h0; exact absurd h0 (Nat.lt_irrefl 0)
  | succ n ih =>
    intro i31 i32 v0 hm h0
    show Ok (BX8_toldNow_L57 f12 i31 i32 (fun i31 i32 => LX8_toldNow_L57 f12 n i31 i32 ) ) _
    unfold BX8_toldNow_L57
    refine Ok_if ?_ ?_
    · intro h
      have c760 : 81 ≤ i32.toInt := i32le h
      exact Ok_some trivial
    · intro h
      have c761 : i32.toInt < 81 := i32nle h
      refine Ok_inB (vp_of (by first | omega | assumption | (try simp only [tl0, tl1, tl2, tl3, tl4, tl5, tl6, tl8, tl9, tl10, tl50, tl81, tl100, tl1000, tl9999, tlm1, tlm9, tlm50, tl2147483647]; omega)) (by first | omega | assumption | (try simp only [tl0, tl1, tl2, tl3, tl4, tl5, tl6, tl8, tl9, tl10, tl50, tl81, tl100, tl1000, tl9999, tlm1, tlm9, tlm50, tl2147483647]; omega))) ?_
      refine Ok_nm (fun i33 wi33 => ?_)
      have qi33 := i32eq wi33
      refine Ok_jn (fun k34 wk34 => ?_)
      refine Ok_if ?_ ?_
      · intro h
        have c762 : i33.toInt ≤ 0 := i32le h
        rw [wk34]
        show Ok (nm (i31 + (0 : Int32)) (fun (i37 : Int32) => (fun i31 i32 => LX8_toldNow_L57 f12 n i31 i32 ) i37 (i32 + (1 : Int32)))) _
        refine Ok_nm (fun i37 wi37 => ?_)
        have qi37 := i32eq wi37
        try (have e763 := inc_iv (x := i32) (by omega))
        exact ih i37 (i32 + (1 : Int32)) (by first | omega | assumption | (try simp only [tl0, tl1, tl2, tl3, tl4, tl5, tl6, tl8, tl9, tl10, tl50, tl81, tl100, tl1000, tl9999, tlm1, tlm9, tlm50, tl2147483647]; omega)) (by first | omega | assumption | (try simp only [tl0, tl1, tl2, tl3, tl4, tl5, tl6, tl8, tl9, tl10, tl50, tl81, tl100, tl1000, tl9999, tlm1, tlm9, tlm50, tl2147483647]; omega)) (by first | omega | assumption | (try simp only [tl0, tl1, tl2, tl3, tl4, tl5, tl6, tl8, tl9, tl10, tl50, tl81, tl100, tl1000, tl9999, tlm1, tlm9, tlm50, tl2147483647]; omega))
      · intro h
        have c764 : 0 < i33.toInt := i32nle h
        rw [wk34]
        show Ok (nm (i31 + (1 : Int32)) (fun (i37 : Int32) => (fun i31 i32 => LX8_toldNow_L57 f12 n i31 i32 ) i37 (i32 + (1 : Int32)))) _
        try (have e765 := inc_iv (x := i31) (by omega))
        refine Ok_nm (fun i37 wi37 => ?_)
        have qi37 := i32eq wi37
        try (have e766 := inc_iv (x := i32) (by omega))
        exact ih i37 (i32 + (1 : Int32)) (by first | omega | assumption | (try simp only [tl0, tl1, tl2, tl3, tl4, tl5, tl6, tl8, tl9, tl10, tl50, tl81, tl100, tl1000, tl9999, tlm1, tlm9, tlm50, tl2147483647]; omega)) (by first | omega | assumption | (try simp only [tl0, tl1, tl2, tl3, tl4, tl5, tl6, tl8, tl9, tl10, tl50, tl81, tl100, tl1000, tl9999, tlm1, tlm9, tlm50, tl2147483647]; omega)) (by first | omega | assumption | (try simp only [tl0, tl1, tl2, tl3, tl4, tl5, tl6, tl8, tl9, tl10, tl50, tl81, tl100, tl1000, tl9999, tlm1, tlm9, tlm50, tl2147483647]; omega))
set_option maxRecDepth 4000 in
theorem ok_X8_toldNow (i3 : Int32) (i6 : Int32) (i7 : Int32) (f12 : Nat → Int32) (i2 : Int32) (h0 : 2 ≤ i3.toInt ∧ i3.toInt ≤ 9) (h1 : 0 ≤ i6.toInt ∧ i6.toInt ≤ 8) (h2 : 0 ≤ i7.toInt ∧ i7.toInt ≤ 8) : Ok (fX8_toldNow i3 i6 i7 f12 i2) (fun z => True) := by
  unfold fX8_toldNow
  refine Ok_if ?_ ?_
  · intro h
    have c757 : 3 ≤ i2.toInt := i32le h
    refine Ok_if ?_ ?_
    · intro h
      have c758 : i2.toInt = 4 := i32eq h
      refine Ok_bind (ok_X8_sumOfRooms i3 f12 (by first | omega | assumption | (try simp only [tl0, tl1, tl2, tl3, tl4, tl5, tl6, tl8, tl9, tl10, tl50, tl81, tl100, tl1000, tl9999, tlm1, tlm9, tlm50, tl2147483647]; omega))) (fun z38 hz38 => ?_)
      exact Ok_some trivial
    · intro h
      have c759 : i2.toInt ≠ 4 := i32ne h
      refine Ok_mono (okL_X8_toldNow_L57 f12 600 (0 : Int32) (0 : Int32) (by first | omega | assumption | (try simp only [tl0, tl1, tl2, tl3, tl4, tl5, tl6, tl8, tl9, tl10, tl50, tl81, tl100, tl1000, tl9999, tlm1, tlm9, tlm50, tl2147483647]; omega)) (by first | omega | assumption | (try simp only [tl0, tl1, tl2, tl3, tl4, tl5, tl6, tl8, tl9, tl10, tl50, tl81, tl100, tl1000, tl9999, tlm1, tlm9, tlm50, tl2147483647]; omega)) (by first | omega | assumption | (try simp only [tl0, tl1, tl2, tl3, tl4, tl5, tl6, tl8, tl9, tl10, tl50, tl81, tl100, tl1000, tl9999, tlm1, tlm9, tlm50, tl2147483647]; omega))) ?_
      intro z hz
      first | exact hz | (simp only [Sx] at *; omega) | (dsimp only at *; omega)
  · intro h
    have c767 : i2.toInt < 3 := i32nle h
    refine Ok_if ?_ ?_
    · intro h
      have c768 : i2.toInt = 0 := i32eq h
      exact Ok_some trivial
    · intro h
      have c769 : i2.toInt ≠ 0 := i32ne h
      refine Ok_if ?_ ?_
      · intro h
        have c770 : i2.toInt = 1 := i32eq h
        exact Ok_some trivial
      · intro h
        have c771 : i2.toInt ≠ 1 := i32ne h
        exact Ok_some trivial
set_option maxRecDepth 4000 in
theorem ok_X8_told (i3 : Int32) (i6 : Int32) (i7 : Int32) (f12 : Nat → Int32) (i2 : Int32) (h0 : 2 ≤ i3.toInt ∧ i3.toInt ≤ 9) (h1 : 0 ≤ i6.toInt ∧ i6.toInt ≤ 8) (h2 : 0 ≤ i7.toInt ∧ i7.toInt ≤ 8) : Ok (fX8_told i3 i6 i7 f12 i2) (fun z => True) := by
  unfold fX8_told
  refine Ok_jn (fun k13 wk13 => ?_)
  refine Ok_jn (fun k15 wk15 => ?_)
  refine Ok_if ?_ ?_
  · intro h
    have c772 : i2.toInt < 0 := i32lt h
    rw [wk15]
    show Ok (k13 (1 : Int32)) _
    rw [wk13]
    show Ok ((fX8_isThrown_ (1 : Int32)).bind (fun z18 => if z18.1 = (0 : Int32) then ((fX8_toldNow i3 i6 i7 f12 i2).bind (fun z19 => some (z19, z18.2))) else (some ((0 : Int32), z18.2)))) _
    refine Ok_bind (ok_X8_isThrown_ (1 : Int32)) (fun z18 hz18 => ?_)
    try dsimp only at hz18
    try simp only [tl0, tl1, tl2, tl3, tl4, tl5, tl6, tl8, tl9, tl10, tl50, tl81, tl100, tl1000, tl9999, tlm1, tlm9, tlm50, tl2147483647] at hz18
    refine Ok_if ?_ ?_
    · intro h
      have c773 : z18.1.toInt = 0 := i32eq h
      refine Ok_bind (ok_X8_toldNow i3 i6 i7 f12 i2 (by first | omega | assumption | (try simp only [tl0, tl1, tl2, tl3, tl4, tl5, tl6, tl8, tl9, tl10, tl50, tl81, tl100, tl1000, tl9999, tlm1, tlm9, tlm50, tl2147483647]; omega)) (by first | omega | assumption | (try simp only [tl0, tl1, tl2, tl3, tl4, tl5, tl6, tl8, tl9, tl10, tl50, tl81, tl100, tl1000, tl9999, tlm1, tlm9, tlm50, tl2147483647]; omega)) (by first | omega | assumption | (try simp only [tl0, tl1, tl2, tl3, tl4, tl5, tl6, tl8, tl9, tl10, tl50, tl81, tl100, tl1000, tl9999, tlm1, tlm9, tlm50, tl2147483647]; omega))) (fun z19 hz19 => ?_)
      exact Ok_some trivial
    · intro h
      have c774 : z18.1.toInt ≠ 0 := i32ne h
      exact Ok_some trivial
  · intro h
    have c775 : 0 ≤ i2.toInt := i32nlt h
    refine Ok_if ?_ ?_
    · intro h
      have c776 : i2.toInt ≤ 4 := i32le h
      rw [wk13]
      show Ok ((fX8_isThrown_ (0 : Int32)).bind (fun z18 => if z18.1 = (0 : Int32) then ((fX8_toldNow i3 i6 i7 f12 i2).bind (fun z19 => some (z19, z18.2))) else (some ((0 : Int32), z18.2)))) _
      refine Ok_bind (ok_X8_isThrown_ (0 : Int32)) (fun z18 hz18 => ?_)
      try dsimp only at hz18
      try simp only [tl0, tl1, tl2, tl3, tl4, tl5, tl6, tl8, tl9, tl10, tl50, tl81, tl100, tl1000, tl9999, tlm1, tlm9, tlm50, tl2147483647] at hz18
      refine Ok_if ?_ ?_
      · intro h
        have c777 : z18.1.toInt = 0 := i32eq h
        refine Ok_bind (ok_X8_toldNow i3 i6 i7 f12 i2 (by first | omega | assumption | (try simp only [tl0, tl1, tl2, tl3, tl4, tl5, tl6, tl8, tl9, tl10, tl50, tl81, tl100, tl1000, tl9999, tlm1, tlm9, tlm50, tl2147483647]; omega)) (by first | omega | assumption | (try simp only [tl0, tl1, tl2, tl3, tl4, tl5, tl6, tl8, tl9, tl10, tl50, tl81, tl100, tl1000, tl9999, tlm1, tlm9, tlm50, tl2147483647]; omega)) (by first | omega | assumption | (try simp only [tl0, tl1, tl2, tl3, tl4, tl5, tl6, tl8, tl9, tl10, tl50, tl81, tl100, tl1000, tl9999, tlm1, tlm9, tlm50, tl2147483647]; omega))) (fun z19 hz19 => ?_)
        exact Ok_some trivial
      · intro h
        have c778 : z18.1.toInt ≠ 0 := i32ne h
        exact Ok_some trivial
    · intro h
      have c779 : 4 < i2.toInt := i32nle h
      rw [wk15]
      show Ok (k13 (1 : Int32)) _
      rw [wk13]
      show Ok ((fX8_isThrown_ (1 : Int32)).bind (fun z18 => if z18.1 = (0 : Int32) then ((fX8_toldNow i3 i6 i7 f12 i2).bind (fun z19 => some (z19, z18.2))) else (some ((0 : Int32), z18.2)))) _
      refine Ok_bind (ok_X8_isThrown_ (1 : Int32)) (fun z18 hz18 => ?_)
      try dsimp only at hz18
      try simp only [tl0, tl1, tl2, tl3, tl4, tl5, tl6, tl8, tl9, tl10, tl50, tl81, tl100, tl1000, tl9999, tlm1, tlm9, tlm50, tl2147483647] at hz18
      refine Ok_if ?_ ?_
      · intro h
        have c780 : z18.1.toInt = 0 := i32eq h
        refine Ok_bind (ok_X8_toldNow i3 i6 i7 f12 i2 (by first | omega | assumption | (try simp only [tl0, tl1, tl2, tl3, tl4, tl5, tl6, tl8, tl9, tl10, tl50, tl81, tl100, tl1000, tl9999, tlm1, tlm9, tlm50, tl2147483647]; omega)) (by first | omega | assumption | (try simp only [tl0, tl1, tl2, tl3, tl4, tl5, tl6, tl8, tl9, tl10, tl50, tl81, tl100, tl1000, tl9999, tlm1, tlm9, tlm50, tl2147483647]; omega)) (by first | omega | assumption | (try simp only [tl0, tl1, tl2, tl3, tl4, tl5, tl6, tl8, tl9, tl10, tl50, tl81, tl100, tl1000, tl9999, tlm1, tlm9, tlm50, tl2147483647]; omega))) (fun z19 hz19 => ?_)
        exact Ok_some trivial
      · intro h
        have c781 : z18.1.toInt ≠ 0 := i32ne h
        exact Ok_some trivial
set_option maxRecDepth 4000 in
theorem ok_X8_pairNow (f14 : Nat → Int32) (f15 : Nat → Int32) (i2 : Int32) (i3 : Int32) (i4 : Int32) (h0 : 0 ≤ i2.toInt) (h1 : i2.toInt ≤ 8) (h2 : 0 ≤ i3.toInt) (h3 : i3.toInt ≤ 8) : Ok (fX8_pairNow f14 f15 i2 i3 i4) (fun z => True) := by
  unfold fX8_pairNow
  refine Ok_if ?_ ?_
  · intro h
    have c782 : i2.toInt = i3.toInt := i32eq h
    exact Ok_some trivial
  · intro h
    have c783 : i2.toInt ≠ i3.toInt := i32ne h
    refine Ok_if ?_ ?_
    · intro h
      have c784 : i4.toInt = 0 := i32eq h
      refine Ok_bind (ok_X8_room f14 i2 i3 (by first | omega | assumption | (try simp only [tl0, tl1, tl2, tl3, tl4, tl5, tl6, tl8, tl9, tl10, tl50, tl81, tl100, tl1000, tl9999, tlm1, tlm9, tlm50, tl2147483647]; omega)) (by first | omega | assumption | (try simp only [tl0, tl1, tl2, tl3, tl4, tl5, tl6, tl8, tl9, tl10, tl50, tl81, tl100, tl1000, tl9999, tlm1, tlm9, tlm50, tl2147483647]; omega)) (by first | omega | assumption | (try simp only [tl0, tl1, tl2, tl3, tl4, tl5, tl6, tl8, tl9, tl10, tl50, tl81, tl100, tl1000, tl9999, tlm1, tlm9, tlm50, tl2147483647]; omega)) (by first | omega | assumption | (try simp only [tl0, tl1, tl2, tl3, tl4, tl5, tl6, tl8, tl9, tl10, tl50, tl81, tl100, tl1000, tl9999, tlm1, tlm9, tlm50, tl2147483647]; omega))) (fun z18 hz18 => ?_)
      exact Ok_some trivial
    · intro h
      have c785 : i4.toInt ≠ 0 := i32ne h
      refine Ok_if ?_ ?_
      · intro h
        have c786 : i4.toInt = 1 := i32eq h
        refine Ok_bind (ok_X8_flow f15 i2 i3 (by first | omega | assumption | (try simp only [tl0, tl1, tl2, tl3, tl4, tl5, tl6, tl8, tl9, tl10, tl50, tl81, tl100, tl1000, tl9999, tlm1, tlm9, tlm50, tl2147483647]; omega)) (by first | omega | assumption | (try simp only [tl0, tl1, tl2, tl3, tl4, tl5, tl6, tl8, tl9, tl10, tl50, tl81, tl100, tl1000, tl9999, tlm1, tlm9, tlm50, tl2147483647]; omega)) (by first | omega | assumption | (try simp only [tl0, tl1, tl2, tl3, tl4, tl5, tl6, tl8, tl9, tl10, tl50, tl81, tl100, tl1000, tl9999, tlm1, tlm9, tlm50, tl2147483647]; omega)) (by first | omega | assumption | (try simp only [tl0, tl1, tl2, tl3, tl4, tl5, tl6, tl8, tl9, tl10, tl50, tl81, tl100, tl1000, tl9999, tlm1, tlm9, tlm50, tl2147483647]; omega))) (fun z17 hz17 => ?_)
        exact Ok_some trivial
      · intro h
        have c787 : i4.toInt ≠ 1 := i32ne h
        refine Ok_bind (ok_X8_left f14 f15 i2 i3 (by first | omega | assumption | (try simp only [tl0, tl1, tl2, tl3, tl4, tl5, tl6, tl8, tl9, tl10, tl50, tl81, tl100, tl1000, tl9999, tlm1, tlm9, tlm50, tl2147483647]; omega)) (by first | omega | assumption | (try simp only [tl0, tl1, tl2, tl3, tl4, tl5, tl6, tl8, tl9, tl10, tl50, tl81, tl100, tl1000, tl9999, tlm1, tlm9, tlm50, tl2147483647]; omega)) (by first | omega | assumption | (try simp only [tl0, tl1, tl2, tl3, tl4, tl5, tl6, tl8, tl9, tl10, tl50, tl81, tl100, tl1000, tl9999, tlm1, tlm9, tlm50, tl2147483647]; omega)) (by first | omega | assumption | (try simp only [tl0, tl1, tl2, tl3, tl4, tl5, tl6, tl8, tl9, tl10, tl50, tl81, tl100, tl1000, tl9999, tlm1, tlm9, tlm50, tl2147483647]; omega))) (fun z16 hz16 => ?_)
        exact Ok_some trivial
set_option maxRecDepth 4000 in
theorem ok_X8_pair (i5 : Int32) (f14 : Nat → Int32) (f15 : Nat → Int32) (i2 : Int32) (i3 : Int32) (i4 : Int32) (h0 : 2 ≤ i5.toInt ∧ i5.toInt ≤ 9) : Ok (fX8_pair i5 f14 f15 i2 i3 i4) (fun z => True) := by
  unfold fX8_pair
  refine Ok_bind (ok_X8_isPlace i5 i2 (by first | omega | assumption | (try simp only [tl0, tl1, tl2, tl3, tl4, tl5, tl6, tl8, tl9, tl10, tl50, tl81, tl100, tl1000, tl9999, tlm1, tlm9, tlm50, tl2147483647]; omega))) (fun z16 hz16 => ?_)
  try dsimp only at hz16
  try simp only [tl0, tl1, tl2, tl3, tl4, tl5, tl6, tl8, tl9, tl10, tl50, tl81, tl100, tl1000, tl9999, tlm1, tlm9, tlm50, tl2147483647] at hz16
  refine Ok_jn (fun k17 wk17 => ?_)
  refine Ok_jn (fun k19 wk19 => ?_)
  refine Ok_if ?_ ?_
  · intro h
    have c788 : z16.toInt = 0 := i32eq h
    rw [wk19]
    show Ok (k17 (1 : Int32)) _
    rw [wk17]
    show Ok (jn (fun (i27 : Int32) => (fX8_isThrown (1 : Int32) i27).bind (fun z28 => if z28.1 = (0 : Int32) then ((fX8_pairNow f14 f15 i2 i3 i4).bind (fun z29 => some (z29, z28.2))) else (some ((0 : Int32), z28.2)))) (fun (k23 : Int32 → Option (Int32 × Int32)) => jn (fun (_ : Unit) => k23 (1 : Int32)) (fun (k25 : Unit → Option (Int32 × Int32)) => if i4 < (0 : Int32) then (k25 ()) else (if i4 ≤ (2 : Int32) then (k23 (0 : Int32)) else (k25 ()))))) _
    refine Ok_jn (fun k23 wk23 => ?_)
    refine Ok_jn (fun k25 wk25 => ?_)
    refine Ok_if ?_ ?_
    · intro h
      have c789 : i4.toInt < 0 := i32lt h
      rw [wk25]
      show Ok (k23 (1 : Int32)) _
      rw [wk23]
      show Ok ((fX8_isThrown (1 : Int32) (1 : Int32)).bind (fun z28 => if z28.1 = (0 : Int32) then ((fX8_pairNow f14 f15 i2 i3 i4).bind (fun z29 => some (z29, z28.2))) else (some ((0 : Int32), z28.2)))) _
      refine Ok_bind (ok_X8_isThrown (1 : Int32) (1 : Int32)) (fun z28 hz28 => ?_)
      try dsimp only at hz28
      try simp only [tl0, tl1, tl2, tl3, tl4, tl5, tl6, tl8, tl9, tl10, tl50, tl81, tl100, tl1000, tl9999, tlm1, tlm9, tlm50, tl2147483647] at hz28
      refine Ok_if ?_ ?_
      · intro h
        have c790 : z28.1.toInt = 0 := i32eq h
        refine Ok_bind (ok_X8_pairNow f14 f15 i2 i3 i4 (by first | omega | assumption | (try simp only [tl0, tl1, tl2, tl3, tl4, tl5, tl6, tl8, tl9, tl10, tl50, tl81, tl100, tl1000, tl9999, tlm1, tlm9, tlm50, tl2147483647]; omega)) (by first | omega | assumption | (try simp only [tl0, tl1, tl2, tl3, tl4, tl5, tl6, tl8, tl9, tl10, tl50, tl81, tl100, tl1000, tl9999, tlm1, tlm9, tlm50, tl2147483647]; omega)) (by first | omega | assumption | (try simp only [tl0, tl1, tl2, tl3, tl4, tl5, tl6, tl8, tl9, tl10, tl50, tl81, tl100, tl1000, tl9999, tlm1, tlm9, tlm50, tl2147483647]; omega)) (by first | omega | assumption | (try simp only [tl0, tl1, tl2, tl3, tl4, tl5, tl6, tl8, tl9, tl10, tl50, tl81, tl100, tl1000, tl9999, tlm1, tlm9, tlm50, tl2147483647]; omega))) (fun z29 hz29 => ?_)
        exact Ok_some trivial
      · intro h
        have c791 : z28.1.toInt ≠ 0 := i32ne h
        exact Ok_some trivial
    · intro h
      have c792 : 0 ≤ i4.toInt := i32nlt h
      refine Ok_if ?_ ?_
      · intro h
        have c793 : i4.toInt ≤ 2 := i32le h
        rw [wk23]
        show Ok ((fX8_isThrown (1 : Int32) (0 : Int32)).bind (fun z28 => if z28.1 = (0 : Int32) then ((fX8_pairNow f14 f15 i2 i3 i4).bind (fun z29 => some (z29, z28.2))) else (some ((0 : Int32), z28.2)))) _
        refine Ok_bind (ok_X8_isThrown (1 : Int32) (0 : Int32)) (fun z28 hz28 => ?_)
        try dsimp only at hz28
        try simp only [tl0, tl1, tl2, tl3, tl4, tl5, tl6, tl8, tl9, tl10, tl50, tl81, tl100, tl1000, tl9999, tlm1, tlm9, tlm50, tl2147483647] at hz28
        refine Ok_if ?_ ?_
        · intro h
          have c794 : z28.1.toInt = 0 := i32eq h
          refine Ok_bind (ok_X8_pairNow f14 f15 i2 i3 i4 (by first | omega | assumption | (try simp only [tl0, tl1, tl2, tl3, tl4, tl5, tl6, tl8, tl9, tl10, tl50, tl81, tl100, tl1000, tl9999, tlm1, tlm9, tlm50, tl2147483647]; omega)) (by first | omega | assumption | (try simp only [tl0, tl1, tl2, tl3, tl4, tl5, tl6, tl8, tl9, tl10, tl50, tl81, tl100, tl1000, tl9999, tlm1, tlm9, tlm50, tl2147483647]; omega)) (by first | omega | assumption | (try simp only [tl0, tl1, tl2, tl3, tl4, tl5, tl6, tl8, tl9, tl10, tl50, tl81, tl100, tl1000, tl9999, tlm1, tlm9, tlm50, tl2147483647]; omega)) (by first | omega | assumption | (try simp only [tl0, tl1, tl2, tl3, tl4, tl5, tl6, tl8, tl9, tl10, tl50, tl81, tl100, tl1000, tl9999, tlm1, tlm9, tlm50, tl2147483647]; omega))) (fun z29 hz29 => ?_)
          exact Ok_some trivial
        · intro h
          have c795 : z28.1.toInt ≠ 0 := i32ne h
          exact Ok_some trivial
      · intro h
        have c796 : 2 < i4.toInt := i32nle h
        rw [wk25]
        show Ok (k23 (1 : Int32)) _
        rw [wk23]
        show Ok ((fX8_isThrown (1 : Int32) (1 : Int32)).bind (fun z28 => if z28.1 = (0 : Int32) then ((fX8_pairNow f14 f15 i2 i3 i4).bind (fun z29 => some (z29, z28.2))) else (some ((0 : Int32), z28.2)))) _
        refine Ok_bind (ok_X8_isThrown (1 : Int32) (1 : Int32)) (fun z28 hz28 => ?_)
        try dsimp only at hz28
        try simp only [tl0, tl1, tl2, tl3, tl4, tl5, tl6, tl8, tl9, tl10, tl50, tl81, tl100, tl1000, tl9999, tlm1, tlm9, tlm50, tl2147483647] at hz28
        refine Ok_if ?_ ?_
        · intro h
          have c797 : z28.1.toInt = 0 := i32eq h
          refine Ok_bind (ok_X8_pairNow f14 f15 i2 i3 i4 (by first | omega | assumption | (try simp only [tl0, tl1, tl2, tl3, tl4, tl5, tl6, tl8, tl9, tl10, tl50, tl81, tl100, tl1000, tl9999, tlm1, tlm9, tlm50, tl2147483647]; omega)) (by first | omega | assumption | (try simp only [tl0, tl1, tl2, tl3, tl4, tl5, tl6, tl8, tl9, tl10, tl50, tl81, tl100, tl1000, tl9999, tlm1, tlm9, tlm50, tl2147483647]; omega)) (by first | omega | assumption | (try simp only [tl0, tl1, tl2, tl3, tl4, tl5, tl6, tl8, tl9, tl10, tl50, tl81, tl100, tl1000, tl9999, tlm1, tlm9, tlm50, tl2147483647]; omega)) (by first | omega | assumption | (try simp only [tl0, tl1, tl2, tl3, tl4, tl5, tl6, tl8, tl9, tl10, tl50, tl81, tl100, tl1000, tl9999, tlm1, tlm9, tlm50, tl2147483647]; omega))) (fun z29 hz29 => ?_)
          exact Ok_some trivial
        · intro h
          have c798 : z28.1.toInt ≠ 0 := i32ne h
          exact Ok_some trivial
  · intro h
    have c799 : z16.toInt ≠ 0 := i32ne h
    refine Ok_bind (ok_X8_isPlace i5 i3 (by first | omega | assumption | (try simp only [tl0, tl1, tl2, tl3, tl4, tl5, tl6, tl8, tl9, tl10, tl50, tl81, tl100, tl1000, tl9999, tlm1, tlm9, tlm50, tl2147483647]; omega))) (fun z21 hz21 => ?_)
    try dsimp only at hz21
    try simp only [tl0, tl1, tl2, tl3, tl4, tl5, tl6, tl8, tl9, tl10, tl50, tl81, tl100, tl1000, tl9999, tlm1, tlm9, tlm50, tl2147483647] at hz21
    refine Ok_if ?_ ?_
    · intro h
      have c800 : z21.toInt = 0 := i32eq h
      rw [wk19]
      show Ok (k17 (1 : Int32)) _
      rw [wk17]
      show Ok (jn (fun (i27 : Int32) => (fX8_isThrown (1 : Int32) i27).bind (fun z28 => if z28.1 = (0 : Int32) then ((fX8_pairNow f14 f15 i2 i3 i4).bind (fun z29 => some (z29, z28.2))) else (some ((0 : Int32), z28.2)))) (fun (k23 : Int32 → Option (Int32 × Int32)) => jn (fun (_ : Unit) => k23 (1 : Int32)) (fun (k25 : Unit → Option (Int32 × Int32)) => if i4 < (0 : Int32) then (k25 ()) else (if i4 ≤ (2 : Int32) then (k23 (0 : Int32)) else (k25 ()))))) _
      refine Ok_jn (fun k23 wk23 => ?_)
      refine Ok_jn (fun k25 wk25 => ?_)
      refine Ok_if ?_ ?_
      · intro h
        have c801 : i4.toInt < 0 := i32lt h
        rw [wk25]
        show Ok (k23 (1 : Int32)) _
        rw [wk23]
        show Ok ((fX8_isThrown (1 : Int32) (1 : Int32)).bind (fun z28 => if z28.1 = (0 : Int32) then ((fX8_pairNow f14 f15 i2 i3 i4).bind (fun z29 => some (z29, z28.2))) else (some ((0 : Int32), z28.2)))) _
        refine Ok_bind (ok_X8_isThrown (1 : Int32) (1 : Int32)) (fun z28 hz28 => ?_)
        try dsimp only at hz28
        try simp only [tl0, tl1, tl2, tl3, tl4, tl5, tl6, tl8, tl9, tl10, tl50, tl81, tl100, tl1000, tl9999, tlm1, tlm9, tlm50, tl2147483647] at hz28
        refine Ok_if ?_ ?_
        · intro h
          have c802 : z28.1.toInt = 0 := i32eq h
          refine Ok_bind (ok_X8_pairNow f14 f15 i2 i3 i4 (by first | omega | assumption | (try simp only [tl0, tl1, tl2, tl3, tl4, tl5, tl6, tl8, tl9, tl10, tl50, tl81, tl100, tl1000, tl9999, tlm1, tlm9, tlm50, tl2147483647]; omega)) (by first | omega | assumption | (try simp only [tl0, tl1, tl2, tl3, tl4, tl5, tl6, tl8, tl9, tl10, tl50, tl81, tl100, tl1000, tl9999, tlm1, tlm9, tlm50, tl2147483647]; omega)) (by first | omega | assumption | (try simp only [tl0, tl1, tl2, tl3, tl4, tl5, tl6, tl8, tl9, tl10, tl50, tl81, tl100, tl1000, tl9999, tlm1, tlm9, tlm50, tl2147483647]; omega)) (by first | omega | assumption | (try simp only [tl0, tl1, tl2, tl3, tl4, tl5, tl6, tl8, tl9, tl10, tl50, tl81, tl100, tl1000, tl9999, tlm1, tlm9, tlm50, tl2147483647]; omega))) (fun z29 hz29 => ?_)
          exact Ok_some trivial
        · intro h
          have c803 : z28.1.toInt ≠ 0 := i32ne h
          exact Ok_some trivial
      · intro h
        have c804 : 0 ≤ i4.toInt := i32nlt h
        refine Ok_if ?_ ?_
        · intro h
          have c805 : i4.toInt ≤ 2 := i32le h
          rw [wk23]
          show Ok ((fX8_isThrown (1 : Int32) (0 : Int32)).bind (fun z28 => if z28.1 = (0 : Int32) then ((fX8_pairNow f14 f15 i2 i3 i4).bind (fun z29 => some (z29, z28.2))) else (some ((0 : Int32), z28.2)))) _
          refine Ok_bind (ok_X8_isThrown (1 : Int32) (0 : Int32)) (fun z28 hz28 => ?_)
          try dsimp only at hz28
          try simp only [tl0, tl1, tl2, tl3, tl4, tl5, tl6, tl8, tl9, tl10, tl50, tl81, tl100, tl1000, tl9999, tlm1, tlm9, tlm50, tl2147483647] at hz28
          refine Ok_if ?_ ?_
          · intro h
            have c806 : z28.1.toInt = 0 := i32eq h
            refine Ok_bind (ok_X8_pairNow f14 f15 i2 i3 i4 (by first | omega | assumption | (try simp only [tl0, tl1, tl2, tl3, tl4, tl5, tl6, tl8, tl9, tl10, tl50, tl81, tl100, tl1000, tl9999, tlm1, tlm9, tlm50, tl2147483647]; omega)) (by first | omega | assumption | (try simp only [tl0, tl1, tl2, tl3, tl4, tl5, tl6, tl8, tl9, tl10, tl50, tl81, tl100, tl1000, tl9999, tlm1, tlm9, tlm50, tl2147483647]; omega)) (by first | omega | assumption | (try simp only [tl0, tl1, tl2, tl3, tl4, tl5, tl6, tl8, tl9, tl10, tl50, tl81, tl100, tl1000, tl9999, tlm1, tlm9, tlm50, tl2147483647]; omega)) (by first | omega | assumption | (try simp only [tl0, tl1, tl2, tl3, tl4, tl5, tl6, tl8, tl9, tl10, tl50, tl81, tl100, tl1000, tl9999, tlm1, tlm9, tlm50, tl2147483647]; omega))) (fun z29 hz29 => ?_)
            exact Ok_some trivial
          · intro h
            have c807 : z28.1.toInt ≠ 0 := i32ne h
            exact Ok_some trivial
        · intro h
          have c808 : 2 < i4.toInt := i32nle h
          rw [wk25]
          show Ok (k23 (1 : Int32)) _
          rw [wk23]
          show Ok ((fX8_isThrown (1 : Int32) (1 : Int32)).bind (fun z28 => if z28.1 = (0 : Int32) then ((fX8_pairNow f14 f15 i2 i3 i4).bind (fun z29 => some (z29, z28.2))) else (some ((0 : Int32), z28.2)))) _
          refine Ok_bind (ok_X8_isThrown (1 : Int32) (1 : Int32)) (fun z28 hz28 => ?_)
          try dsimp only at hz28
          try simp only [tl0, tl1, tl2, tl3, tl4, tl5, tl6, tl8, tl9, tl10, tl50, tl81, tl100, tl1000, tl9999, tlm1, tlm9, tlm50, tl2147483647] at hz28
          refine Ok_if ?_ ?_
          · intro h
            have c809 : z28.1.toInt = 0 := i32eq h
            refine Ok_bind (ok_X8_pairNow f14 f15 i2 i3 i4 (by first | omega | assumption | (try simp only [tl0, tl1, tl2, tl3, tl4, tl5, tl6, tl8, tl9, tl10, tl50, tl81, tl100, tl1000, tl9999, tlm1, tlm9, tlm50, tl2147483647]; omega)) (by first | omega | assumption | (try simp only [tl0, tl1, tl2, tl3, tl4, tl5, tl6, tl8, tl9, tl10, tl50, tl81, tl100, tl1000, tl9999, tlm1, tlm9, tlm50, tl2147483647]; omega)) (by first | omega | assumption | (try simp only [tl0, tl1, tl2, tl3, tl4, tl5, tl6, tl8, tl9, tl10, tl50, tl81, tl100, tl1000, tl9999, tlm1, tlm9, tlm50, tl2147483647]; omega)) (by first | omega | assumption | (try simp only [tl0, tl1, tl2, tl3, tl4, tl5, tl6, tl8, tl9, tl10, tl50, tl81, tl100, tl1000, tl9999, tlm1, tlm9, tlm50, tl2147483647]; omega))) (fun z29 hz29 => ?_)
            exact Ok_some trivial
          · intro h
            have c810 : z28.1.toInt ≠ 0 := i32ne h
            exact Ok_some trivial
    · intro h
      have c811 : z21.toInt ≠ 0 := i32ne h
      rw [wk17]
      show Ok (jn (fun (i27 : Int32) => (fX8_isThrown (0 : Int32) i27).bind (fun z28 => if z28.1 = (0 : Int32) then ((fX8_pairNow f14 f15 i2 i3 i4).bind (fun z29 => some (z29, z28.2))) else (some ((0 : Int32), z28.2)))) (fun (k23 : Int32 → Option (Int32 × Int32)) => jn (fun (_ : Unit) => k23 (1 : Int32)) (fun (k25 : Unit → Option (Int32 × Int32)) => if i4 < (0 : Int32) then (k25 ()) else (if i4 ≤ (2 : Int32) then (k23 (0 : Int32)) else (k25 ()))))) _
      refine Ok_jn (fun k23 wk23 => ?_)
      refine Ok_jn (fun k25 wk25 => ?_)
      refine Ok_if ?_ ?_
      · intro h
        have c812 : i4.toInt < 0 := i32lt h
        rw [wk25]
        show Ok (k23 (1 : Int32)) _
        rw [wk23]
        show Ok ((fX8_isThrown (0 : Int32) (1 : Int32)).bind (fun z28 => if z28.1 = (0 : Int32) then ((fX8_pairNow f14 f15 i2 i3 i4).bind (fun z29 => some (z29, z28.2))) else (some ((0 : Int32), z28.2)))) _
        refine Ok_bind (ok_X8_isThrown (0 : Int32) (1 : Int32)) (fun z28 hz28 => ?_)
        try dsimp only at hz28
        try simp only [tl0, tl1, tl2, tl3, tl4, tl5, tl6, tl8, tl9, tl10, tl50, tl81, tl100, tl1000, tl9999, tlm1, tlm9, tlm50, tl2147483647] at hz28
        refine Ok_if ?_ ?_
        · intro h
          have c813 : z28.1.toInt = 0 := i32eq h
          refine Ok_bind (ok_X8_pairNow f14 f15 i2 i3 i4 (by first | omega | assumption | (try simp only [tl0, tl1, tl2, tl3, tl4, tl5, tl6, tl8, tl9, tl10, tl50, tl81, tl100, tl1000, tl9999, tlm1, tlm9, tlm50, tl2147483647]; omega)) (by first | omega | assumption | (try simp only [tl0, tl1, tl2, tl3, tl4, tl5, tl6, tl8, tl9, tl10, tl50, tl81, tl100, tl1000, tl9999, tlm1, tlm9, tlm50, tl2147483647]; omega)) (by first | omega | assumption | (try simp only [tl0, tl1, tl2, tl3, tl4, tl5, tl6, tl8, tl9, tl10, tl50, tl81, tl100, tl1000, tl9999, tlm1, tlm9, tlm50, tl2147483647]; omega)) (by first | omega | assumption | (try simp only [tl0, tl1, tl2, tl3, tl4, tl5, tl6, tl8, tl9, tl10, tl50, tl81, tl100, tl1000, tl9999, tlm1, tlm9, tlm50, tl2147483647]; omega))) (fun z29 hz29 => ?_)
          exact Ok_some trivial
        · intro h
          have c814 : z28.1.toInt ≠ 0 := i32ne h
          exact Ok_some trivial
      · intro h
        have c815 : 0 ≤ i4.toInt := i32nlt h
        refine Ok_if ?_ ?_
        · intro h
          have c816 : i4.toInt ≤ 2 := i32le h
          rw [wk23]
          show Ok ((fX8_isThrown (0 : Int32) (0 : Int32)).bind (fun z28 => if z28.1 = (0 : Int32) then ((fX8_pairNow f14 f15 i2 i3 i4).bind (fun z29 => some (z29, z28.2))) else (some ((0 : Int32), z28.2)))) _
          refine Ok_bind (ok_X8_isThrown (0 : Int32) (0 : Int32)) (fun z28 hz28 => ?_)
          try dsimp only at hz28
          try simp only [tl0, tl1, tl2, tl3, tl4, tl5, tl6, tl8, tl9, tl10, tl50, tl81, tl100, tl1000, tl9999, tlm1, tlm9, tlm50, tl2147483647] at hz28
          refine Ok_if ?_ ?_
          · intro h
            have c817 : z28.1.toInt = 0 := i32eq h
            refine Ok_bind (ok_X8_pairNow f14 f15 i2 i3 i4 (by first | omega | assumption | (try simp only [tl0, tl1, tl2, tl3, tl4, tl5, tl6, tl8, tl9, tl10, tl50, tl81, tl100, tl1000, tl9999, tlm1, tlm9, tlm50, tl2147483647]; omega)) (by first | omega | assumption | (try simp only [tl0, tl1, tl2, tl3, tl4, tl5, tl6, tl8, tl9, tl10, tl50, tl81, tl100, tl1000, tl9999, tlm1, tlm9, tlm50, tl2147483647]; omega)) (by first | omega | assumption | (try simp only [tl0, tl1, tl2, tl3, tl4, tl5, tl6, tl8, tl9, tl10, tl50, tl81, tl100, tl1000, tl9999, tlm1, tlm9, tlm50, tl2147483647]; omega)) (by first | omega | assumption | (try simp only [tl0, tl1, tl2, tl3, tl4, tl5, tl6, tl8, tl9, tl10, tl50, tl81, tl100, tl1000, tl9999, tlm1, tlm9, tlm50, tl2147483647]; omega))) (fun z29 hz29 => ?_)
            exact Ok_some trivial
          · intro h
            have c818 : z28.1.toInt ≠ 0 := i32ne h
            exact Ok_some trivial
        · intro h
          have c819 : 2 < i4.toInt := i32nle h
          rw [wk25]
          show Ok (k23 (1 : Int32)) _
          rw [wk23]
          show Ok ((fX8_isThrown (0 : Int32) (1 : Int32)).bind (fun z28 => if z28.1 = (0 : Int32) then ((fX8_pairNow f14 f15 i2 i3 i4).bind (fun z29 => some (z29, z28.2))) else (some ((0 : Int32), z28.2)))) _
          refine Ok_bind (ok_X8_isThrown (0 : Int32) (1 : Int32)) (fun z28 hz28 => ?_)
          try dsimp only at hz28
          try simp only [tl0, tl1, tl2, tl3, tl4, tl5, tl6, tl8, tl9, tl10, tl50, tl81, tl100, tl1000, tl9999, tlm1, tlm9, tlm50, tl2147483647] at hz28
          refine Ok_if ?_ ?_
          · intro h
            have c820 : z28.1.toInt = 0 := i32eq h
            refine Ok_bind (ok_X8_pairNow f14 f15 i2 i3 i4 (by first | omega | assumption | (try simp only [tl0, tl1, tl2, tl3, tl4, tl5, tl6, tl8, tl9, tl10, tl50, tl81, tl100, tl1000, tl9999, tlm1, tlm9, tlm50, tl2147483647]; omega)) (by first | omega | assumption | (try simp only [tl0, tl1, tl2, tl3, tl4, tl5, tl6, tl8, tl9, tl10, tl50, tl81, tl100, tl1000, tl9999, tlm1, tlm9, tlm50, tl2147483647]; omega)) (by first | omega | assumption | (try simp only [tl0, tl1, tl2, tl3, tl4, tl5, tl6, tl8, tl9, tl10, tl50, tl81, tl100, tl1000, tl9999, tlm1, tlm9, tlm50, tl2147483647]; omega)) (by first | omega | assumption | (try simp only [tl0, tl1, tl2, tl3, tl4, tl5, tl6, tl8, tl9, tl10, tl50, tl81, tl100, tl1000, tl9999, tlm1, tlm9, tlm50, tl2147483647]; omega))) (fun z29 hz29 => ?_)
            exact Ok_some trivial
          · intro h
            have c821 : z28.1.toInt ≠ 0 := i32ne h
            exact Ok_some trivial
set_option maxRecDepth 4000 in
theorem okL_X8_ofPlaceNow_L5 (i4 : Int32) (f13 : Nat → Int32) (f14 : Nat → Int32) (i2 : Int32) (i3 : Int32)   (g0 : 2 ≤ i4.toInt ∧ i4.toInt ≤ 9) (g1 : 0 ≤ i2.toInt) (g2 : i2.toInt ≤ 8)  : ∀ (n : Nat) (i38 : Int32) (i39 : Int32), 0 ≤ i39.toInt → i4.toInt - i39.toInt < n → 0 < n → Ok (LX8_ofPlaceNow_L5 i4 f13 f14 i2 i3 n i38 i39 ) (fun z => True) := by
  intro n
  induction n with
  | zero => intro i38 i39 v0 hm h0; exact absurd h0 (Nat.lt_irrefl 0)
  | succ n ih =>
    intro i38 i39 v0 hm h0
    show Ok (BX8_ofPlaceNow_L5 i4 f13 f14 i2 i3 i38 i39 (fun i38 i39 => LX8_ofPlaceNow_L5 i4 f13 f14 i2 i3 n i38 i39 ) ) _
    unfold BX8_ofPlaceNow_L5
    refine Ok_if ?_ ?_
    · intro h
      have c822 : i4.toInt ≤ i39.toInt := i32le h
      exact Ok_some trivial
    · intro h
      have c823 : i39.toInt < i4.toInt := i32nle h
      refine Ok_jn (fun k40 wk40 => ?_)
      refine Ok_if ?_ ?_
      · intro h
        have c824 : i3.toInt = 0 := i32eq h
        refine Ok_bind (ok_X8_room f13 i2 i39 (by first | omega | assumption | (try simp only [tl0, tl1, tl2, tl3, tl4, tl5, tl6, tl8, tl9, tl10, tl50, tl81, tl100, tl1000, tl9999, tlm1, tlm9, tlm50, tl2147483647]; omega)) (by first | omega | assumption | (try simp only [tl0, tl1, tl2, tl3, tl4, tl5, tl6, tl8, tl9, tl10, tl50, tl81, tl100, tl1000, tl9999, tlm1, tlm9, tlm50, tl2147483647]; omega)) (by first | omega | assumption | (try simp only [tl0, tl1, tl2, tl3, tl4, tl5, tl6, tl8, tl9, tl10, tl50, tl81, tl100, tl1000, tl9999, tlm1, tlm9, tlm50, tl2147483647]; omega)) (by first | omega | assumption | (try simp only [tl0, tl1, tl2, tl3, tl4, tl5, tl6, tl8, tl9, tl10, tl50, tl81, tl100, tl1000, tl9999, tlm1, tlm9, tlm50, tl2147483647]; omega))) (fun z45 hz45 => ?_)
        rw [wk40]
        show Ok (nm (i38 + z45) (fun (i47 : Int32) => (fun i38 i39 => LX8_ofPlaceNow_L5 i4 f13 f14 i2 i3 n i38 i39 ) i47 (i39 + (1 : Int32)))) _
        refine Ok_nm (fun i47 wi47 => ?_)
        have qi47 := i32eq wi47
        try (have e825 := inc_iv (x := i39) (by omega))
        exact ih i47 (i39 + (1 : Int32)) (by first | omega | assumption | (try simp only [tl0, tl1, tl2, tl3, tl4, tl5, tl6, tl8, tl9, tl10, tl50, tl81, tl100, tl1000, tl9999, tlm1, tlm9, tlm50, tl2147483647]; omega)) (by first | omega | assumption | (try simp only [tl0, tl1, tl2, tl3, tl4, tl5, tl6, tl8, tl9, tl10, tl50, tl81, tl100, tl1000, tl9999, tlm1, tlm9, tlm50, tl2147483647]; omega)) (by first | omega | assumption | (try simp only [tl0, tl1, tl2, tl3, tl4, tl5, tl6, tl8, tl9, tl10, tl50, tl81, tl100, tl1000, tl9999, tlm1, tlm9, tlm50, tl2147483647]; omega))
      · intro h
        have c826 : i3.toInt ≠ 0 := i32ne h
        refine Ok_if ?_ ?_
        · intro h
          have c827 : i3.toInt = 1 := i32eq h
          refine Ok_bind (ok_X8_room f13 i39 i2 (by first | omega | assumption | (try simp only [tl0, tl1, tl2, tl3, tl4, tl5, tl6, tl8, tl9, tl10, tl50, tl81, tl100, tl1000, tl9999, tlm1, tlm9, tlm50, tl2147483647]; omega)) (by first | omega | assumption | (try simp only [tl0, tl1, tl2, tl3, tl4, tl5, tl6, tl8, tl9, tl10, tl50, tl81, tl100, tl1000, tl9999, tlm1, tlm9, tlm50, tl2147483647]; omega)) (by first | omega | assumption | (try simp only [tl0, tl1, tl2, tl3, tl4, tl5, tl6, tl8, tl9, tl10, tl50, tl81, tl100, tl1000, tl9999, tlm1, tlm9, tlm50, tl2147483647]; omega)) (by first | omega | assumption | (try simp only [tl0, tl1, tl2, tl3, tl4, tl5, tl6, tl8, tl9, tl10, tl50, tl81, tl100, tl1000, tl9999, tlm1, tlm9, tlm50, tl2147483647]; omega))) (fun z44 hz44 => ?_)
          rw [wk40]
          show Ok (nm (i38 + z44) (fun (i47 : Int32) => (fun i38 i39 => LX8_ofPlaceNow_L5 i4 f13 f14 i2 i3 n i38 i39 ) i47 (i39 + (1 : Int32)))) _
          refine Ok_nm (fun i47 wi47 => ?_)
          have qi47 := i32eq wi47
          try (have e828 := inc_iv (x := i39) (by omega))
          exact ih i47 (i39 + (1 : Int32)) (by first | omega | assumption | (try simp only [tl0, tl1, tl2, tl3, tl4, tl5, tl6, tl8, tl9, tl10, tl50, tl81, tl100, tl1000, tl9999, tlm1, tlm9, tlm50, tl2147483647]; omega)) (by first | omega | assumption | (try simp only [tl0, tl1, tl2, tl3, tl4, tl5, tl6, tl8, tl9, tl10, tl50, tl81, tl100, tl1000, tl9999, tlm1, tlm9, tlm50, tl2147483647]; omega)) (by first | omega | assumption | (try simp only [tl0, tl1, tl2, tl3, tl4, tl5, tl6, tl8, tl9, tl10, tl50, tl81, tl100, tl1000, tl9999, tlm1, tlm9, tlm50, tl2147483647]; omega))
        · intro h
          have c829 : i3.toInt ≠ 1 := i32ne h
          refine Ok_if ?_ ?_
          · intro h
            have c830 : i3.toInt = 2 := i32eq h
            refine Ok_bind (ok_X8_flow f14 i2 i39 (by first | omega | assumption | (try simp only [tl0, tl1, tl2, tl3, tl4, tl5, tl6, tl8, tl9, tl10, tl50, tl81, tl100, tl1000, tl9999, tlm1, tlm9, tlm50, tl2147483647]; omega)) (by first | omega | assumption | (try simp only [tl0, tl1, tl2, tl3, tl4, tl5, tl6, tl8, tl9, tl10, tl50, tl81, tl100, tl1000, tl9999, tlm1, tlm9, tlm50, tl2147483647]; omega)) (by first | omega | assumption | (try simp only [tl0, tl1, tl2, tl3, tl4, tl5, tl6, tl8, tl9, tl10, tl50, tl81, tl100, tl1000, tl9999, tlm1, tlm9, tlm50, tl2147483647]; omega)) (by first | omega | assumption | (try simp only [tl0, tl1, tl2, tl3, tl4, tl5, tl6, tl8, tl9, tl10, tl50, tl81, tl100, tl1000, tl9999, tlm1, tlm9, tlm50, tl2147483647]; omega))) (fun z43 hz43 => ?_)
            rw [wk40]
            show Ok (nm (i38 + z43) (fun (i47 : Int32) => (fun i38 i39 => LX8_ofPlaceNow_L5 i4 f13 f14 i2 i3 n i38 i39 ) i47 (i39 + (1 : Int32)))) _
            refine Ok_nm (fun i47 wi47 => ?_)
            have qi47 := i32eq wi47
            try (have e831 := inc_iv (x := i39) (by omega))
            exact ih i47 (i39 + (1 : Int32)) (by first | omega | assumption | (try simp only [tl0, tl1, tl2, tl3, tl4, tl5, tl6, tl8, tl9, tl10, tl50, tl81, tl100, tl1000, tl9999, tlm1, tlm9, tlm50, tl2147483647]; omega)) (by first | omega | assumption | (try simp only [tl0, tl1, tl2, tl3, tl4, tl5, tl6, tl8, tl9, tl10, tl50, tl81, tl100, tl1000, tl9999, tlm1, tlm9, tlm50, tl2147483647]; omega)) (by first | omega | assumption | (try simp only [tl0, tl1, tl2, tl3, tl4, tl5, tl6, tl8, tl9, tl10, tl50, tl81, tl100, tl1000, tl9999, tlm1, tlm9, tlm50, tl2147483647]; omega))
          · intro h
            have c832 : i3.toInt ≠ 2 := i32ne h
            refine Ok_bind (ok_X8_flow f14 i2 i39 (by first | omega | assumption | (try simp only [tl0, tl1, tl2, tl3, tl4, tl5, tl6, tl8, tl9, tl10, tl50, tl81, tl100, tl1000, tl9999, tlm1, tlm9, tlm50, tl2147483647]; omega)) (by first | omega | assumption | (try simp only [tl0, tl1, tl2, tl3, tl4, tl5, tl6, tl8, tl9, tl10, tl50, tl81, tl100, tl1000, tl9999, tlm1, tlm9, tlm50, tl2147483647]; omega)) (by first | omega | assumption | (try simp only [tl0, tl1, tl2, tl3, tl4, tl5, tl6, tl8, tl9, tl10, tl50, tl81, tl100, tl1000, tl9999, tlm1, tlm9, tlm50, tl2147483647]; omega)) (by first | omega | assumption | (try simp only [tl0, tl1, tl2, tl3, tl4, tl5, tl6, tl8, tl9, tl10, tl50, tl81, tl100, tl1000, tl9999, tlm1, tlm9, tlm50, tl2147483647]; omega))) (fun z42 hz42 => ?_)
            rw [wk40]
            show Ok (nm (i38 + (if (0 : Int32) < z42 then z42 else (0 : Int32))) (fun (i47 : Int32) => (fun i38 i39 => LX8_ofPlaceNow_L5 i4 f13 f14 i2 i3 n i38 i39 ) i47 (i39 + (1 : Int32)))) _
            refine Ok_nm (fun i47 wi47 => ?_)
            have qi47 := i32eq wi47
            try (have e833 := inc_iv (x := i39) (by omega))
            exact ih i47 (i39 + (1 : Int32)) (by first | omega | assumption | (try simp only [tl0, tl1, tl2, tl3, tl4, tl5, tl6, tl8, tl9, tl10, tl50, tl81, tl100, tl1000, tl9999, tlm1, tlm9, tlm50, tl2147483647]; omega)) (by first | omega | assumption | (try simp only [tl0, tl1, tl2, tl3, tl4, tl5, tl6, tl8, tl9, tl10, tl50, tl81, tl100, tl1000, tl9999, tlm1, tlm9, tlm50, tl2147483647]; omega)) (by first | omega | assumption | (try simp only [tl0, tl1, tl2, tl3, tl4, tl5, tl6, tl8, tl9, tl10, tl50, tl81, tl100, tl1000, tl9999, tlm1, tlm9, tlm50, tl2147483647]; omega))
set_option maxRecDepth 4000 in
theorem ok_X8_ofPlaceNow (i4 : Int32) (f13 : Nat → Int32) (f14 : Nat → Int32) (i2 : Int32) (i3 : Int32) (h0 : 2 ≤ i4.toInt ∧ i4.toInt ≤ 9) (h1 : 0 ≤ i2.toInt) (h2 : i2.toInt ≤ 8) : Ok (fX8_ofPlaceNow i4 f13 f14 i2 i3) (fun z => True) := by
  unfold fX8_ofPlaceNow
  refine Ok_mono (okL_X8_ofPlaceNow_L5 i4 f13 f14 i2 i3 (by first | omega | assumption | (try simp only [tl0, tl1, tl2, tl3, tl4, tl5, tl6, tl8, tl9, tl10, tl50, tl81, tl100, tl1000, tl9999, tlm1, tlm9, tlm50, tl2147483647]; omega)) (by first | omega | assumption | (try simp only [tl0, tl1, tl2, tl3, tl4, tl5, tl6, tl8, tl9, tl10, tl50, tl81, tl100, tl1000, tl9999, tlm1, tlm9, tlm50, tl2147483647]; omega)) (by first | omega | assumption | (try simp only [tl0, tl1, tl2, tl3, tl4, tl5, tl6, tl8, tl9, tl10, tl50, tl81, tl100, tl1000, tl9999, tlm1, tlm9, tlm50, tl2147483647]; omega)) 600 (0 : Int32) (0 : Int32) (by first | omega | assumption | (try simp only [tl0, tl1, tl2, tl3, tl4, tl5, tl6, tl8, tl9, tl10, tl50, tl81, tl100, tl1000, tl9999, tlm1, tlm9, tlm50, tl2147483647]; omega)) (by first | omega | assumption | (try simp only [tl0, tl1, tl2, tl3, tl4, tl5, tl6, tl8, tl9, tl10, tl50, tl81, tl100, tl1000, tl9999, tlm1, tlm9, tlm50, tl2147483647]; omega)) (by first | omega | assumption | (try simp only [tl0, tl1, tl2, tl3, tl4, tl5, tl6, tl8, tl9, tl10, tl50, tl81, tl100, tl1000, tl9999, tlm1, tlm9, tlm50, tl2147483647]; omega))) ?_
  intro z hz
  first | exact hz | (simp only [Sx] at *; omega) | (dsimp only at *; omega)
set_option maxRecDepth 4000 in
theorem ok_X8_ofPlace (i4 : Int32) (f13 : Nat → Int32) (f14 : Nat → Int32) (i2 : Int32) (i3 : Int32) (h0 : 2 ≤ i4.toInt ∧ i4.toInt ≤ 9) : Ok (fX8_ofPlace i4 f13 f14 i2 i3) (fun z => True) := by
  unfold fX8_ofPlace
  refine Ok_bind (ok_X8_isPlace i4 i2 (by first | omega | assumption | (try simp only [tl0, tl1, tl2, tl3, tl4, tl5, tl6, tl8, tl9, tl10, tl50, tl81, tl100, tl1000, tl9999, tlm1, tlm9, tlm50, tl2147483647]; omega))) (fun z15 hz15 => ?_)
  try dsimp only at hz15
  try simp only [tl0, tl1, tl2, tl3, tl4, tl5, tl6, tl8, tl9, tl10, tl50, tl81, tl100, tl1000, tl9999, tlm1, tlm9, tlm50, tl2147483647] at hz15
  refine Ok_jn (fun k16 wk16 => ?_)
  refine Ok_if ?_ ?_
  · intro h
    have c834 : z15.toInt = 0 := i32eq h
    rw [wk16]
    show Ok (jn (fun (i23 : Int32) => (fX8_isThrown (1 : Int32) i23).bind (fun z24 => if z24.1 = (0 : Int32) then ((fX8_ofPlaceNow i4 f13 f14 i2 i3).bind (fun z25 => some (z25, z24.2))) else (some ((0 : Int32), z24.2)))) (fun (k19 : Int32 → Option (Int32 × Int32)) => jn (fun (_ : Unit) => k19 (1 : Int32)) (fun (k21 : Unit → Option (Int32 × Int32)) => if i3 < (0 : Int32) then (k21 ()) else (if i3 ≤ (3 : Int32) then (k19 (0 : Int32)) else (k21 ()))))) _
    refine Ok_jn (fun k19 wk19 => ?_)
    refine Ok_jn (fun k21 wk21 => ?_)
    refine Ok_if ?_ ?_
    · intro h
      have c835 : i3.toInt < 0 := i32lt h
      rw [wk21]
      show Ok (k19 (1 : Int32)) _
      rw [wk19]
      show Ok ((fX8_isThrown (1 : Int32) (1 : Int32)).bind (fun z24 => if z24.1 = (0 : Int32) then ((fX8_ofPlaceNow i4 f13 f14 i2 i3).bind (fun z25 => some (z25, z24.2))) else (some ((0 : Int32), z24.2)))) _
      refine Ok_bind (ok_X8_isThrown (1 : Int32) (1 : Int32)) (fun z24 hz24 => ?_)
      try dsimp only at hz24
      try simp only [tl0, tl1, tl2, tl3, tl4, tl5, tl6, tl8, tl9, tl10, tl50, tl81, tl100, tl1000, tl9999, tlm1, tlm9, tlm50, tl2147483647] at hz24
      refine Ok_if ?_ ?_
      · intro h
        have c836 : z24.1.toInt = 0 := i32eq h
        refine Ok_bind (ok_X8_ofPlaceNow i4 f13 f14 i2 i3 (by first | omega | assumption | (try simp only [tl0, tl1, tl2, tl3, tl4, tl5, tl6, tl8, tl9, tl10, tl50, tl81, tl100, tl1000, tl9999, tlm1, tlm9, tlm50, tl2147483647]; omega)) (by first | omega | assumption | (try simp only [tl0, tl1, tl2, tl3, tl4, tl5, tl6, tl8, tl9, tl10, tl50, tl81, tl100, tl1000, tl9999, tlm1, tlm9, tlm50, tl2147483647]; omega)) (by first | omega | assumption | (try simp only [tl0, tl1, tl2, tl3, tl4, tl5, tl6, tl8, tl9, tl10, tl50, tl81, tl100, tl1000, tl9999, tlm1, tlm9, tlm50, tl2147483647]; omega))) (fun z25 hz25 => ?_)
        exact Ok_some trivial
      · intro h
        have c837 : z24.1.toInt ≠ 0 := i32ne h
        exact Ok_some trivial
    · intro h
      have c838 : 0 ≤ i3.toInt := i32nlt h
      refine Ok_if ?_ ?_
      · intro h
        have c839 : i3.toInt ≤ 3 := i32le h
        rw [wk19]
        show Ok ((fX8_isThrown (1 : Int32) (0 : Int32)).bind (fun z24 => if z24.1 = (0 : Int32) then ((fX8_ofPlaceNow i4 f13 f14 i2 i3).bind (fun z25 => some (z25, z24.2))) else (some ((0 : Int32), z24.2)))) _
        refine Ok_bind (ok_X8_isThrown (1 : Int32) (0 : Int32)) (fun z24 hz24 => ?_)
        try dsimp only at hz24
        try simp only [tl0, tl1, tl2, tl3, tl4, tl5, tl6, tl8, tl9, tl10, tl50, tl81, tl100, tl1000, tl9999, tlm1, tlm9, tlm50, tl2147483647] at hz24
        refine Ok_if ?_ ?_
        · intro h
          have c840 : z24.1.toInt = 0 := i32eq h
          refine Ok_bind (ok_X8_ofPlaceNow i4 f13 f14 i2 i3 (by first | omega | assumption | (try simp only [tl0, tl1, tl2, tl3, tl4, tl5, tl6, tl8, tl9, tl10, tl50, tl81, tl100, tl1000, tl9999, tlm1, tlm9, tlm50, tl2147483647]; omega)) (by first | omega | assumption | (try simp only [tl0, tl1, tl2, tl3, tl4, tl5, tl6, tl8, tl9, tl10, tl50, tl81, tl100, tl1000, tl9999, tlm1, tlm9, tlm50, tl2147483647]; omega)) (by first | omega | assumption | (try simp only [tl0, tl1, tl2, tl3, tl4, tl5, tl6, tl8, tl9, tl10, tl50, tl81, tl100, tl1000, tl9999, tlm1, tlm9, tlm50, tl2147483647]; omega))) (fun z25 hz25 => ?_)
          exact Ok_some trivial
        · intro h
          have c841 : z24.1.toInt ≠ 0 := i32ne h
          exact Ok_some trivial
      · intro h
        have c842 : 3 < i3.toInt := i32nle h
        rw [wk21]
        show Ok (k19 (1 : Int32)) _
        rw [wk19]
        show Ok ((fX8_isThrown (1 : Int32) (1 : Int32)).bind (fun z24 => if z24.1 = (0 : Int32) then ((fX8_ofPlaceNow i4 f13 f14 i2 i3).bind (fun z25 => some (z25, z24.2))) else (some ((0 : Int32), z24.2)))) _
        refine Ok_bind (ok_X8_isThrown (1 : Int32) (1 : Int32)) (fun z24 hz24 => ?_)
        try dsimp only at hz24
        try simp only [tl0, tl1, tl2, tl3, tl4, tl5, tl6, tl8, tl9, tl10, tl50, tl81, tl100, tl1000, tl9999, tlm1, tlm9, tlm50, tl2147483647] at hz24
        refine Ok_if ?_ ?_
        · intro h
          have c843 : z24.1.toInt = 0 := i32eq h
          refine Ok_bind (ok_X8_ofPlaceNow i4 f13 f14 i2 i3 (by first | omega | assumption | (try simp only [tl0, tl1, tl2, tl3, tl4, tl5, tl6, tl8, tl9, tl10, tl50, tl81, tl100, tl1000, tl9999, tlm1, tlm9, tlm50, tl2147483647]; omega)) (by first | omega | assumption | (try simp only [tl0, tl1, tl2, tl3, tl4, tl5, tl6, tl8, tl9, tl10, tl50, tl81, tl100, tl1000, tl9999, tlm1, tlm9, tlm50, tl2147483647]; omega)) (by first | omega | assumption | (try simp only [tl0, tl1, tl2, tl3, tl4, tl5, tl6, tl8, tl9, tl10, tl50, tl81, tl100, tl1000, tl9999, tlm1, tlm9, tlm50, tl2147483647]; omega))) (fun z25 hz25 => ?_)
          exact Ok_some trivial
        · intro h
          have c844 : z24.1.toInt ≠ 0 := i32ne h
          exact Ok_some trivial
  · intro h
    have c845 : z15.toInt ≠ 0 := i32ne h
    rw [wk16]
    show Ok (jn (fun (i23 : Int32) => (fX8_isThrown (0 : Int32) i23).bind (fun z24 => if z24.1 = (0 : Int32) then ((fX8_ofPlaceNow i4 f13 f14 i2 i3).bind (fun z25 => some (z25, z24.2))) else (some ((0 : Int32), z24.2)))) (fun (k19 : Int32 → Option (Int32 × Int32)) => jn (fun (_ : Unit) => k19 (1 : Int32)) (fun (k21 : Unit → Option (Int32 × Int32)) => if i3 < (0 : Int32) then (k21 ()) else (if i3 ≤ (3 : Int32) then (k19 (0 : Int32)) else (k21 ()))))) _
    refine Ok_jn (fun k19 wk19 => ?_)
    refine Ok_jn (fun k21 wk21 => ?_)
    refine Ok_if ?_ ?_
    · intro h
      have c846 : i3.toInt < 0 := i32lt h
      rw [wk21]
      show Ok (k19 (1 : Int32)) _
      rw [wk19]
      show Ok ((fX8_isThrown (0 : Int32) (1 : Int32)).bind (fun z24 => if z24.1 = (0 : Int32) then ((fX8_ofPlaceNow i4 f13 f14 i2 i3).bind (fun z25 => some (z25, z24.2))) else (some ((0 : Int32), z24.2)))) _
      refine Ok_bind (ok_X8_isThrown (0 : Int32) (1 : Int32)) (fun z24 hz24 => ?_)
      try dsimp only at hz24
      try simp only [tl0, tl1, tl2, tl3, tl4, tl5, tl6, tl8, tl9, tl10, tl50, tl81, tl100, tl1000, tl9999, tlm1, tlm9, tlm50, tl2147483647] at hz24
      refine Ok_if ?_ ?_
      · intro h
        have c847 : z24.1.toInt = 0 := i32eq h
        refine Ok_bind (ok_X8_ofPlaceNow i4 f13 f14 i2 i3 (by first | omega | assumption | (try simp only [tl0, tl1, tl2, tl3, tl4, tl5, tl6, tl8, tl9, tl10, tl50, tl81, tl100, tl1000, tl9999, tlm1, tlm9, tlm50, tl2147483647]; omega)) (by first | omega | assumption | (try simp only [tl0, tl1, tl2, tl3, tl4, tl5, tl6, tl8, tl9, tl10, tl50, tl81, tl100, tl1000, tl9999, tlm1, tlm9, tlm50, tl2147483647]; omega)) (by first | omega | assumption | (try simp only [tl0, tl1, tl2, tl3, tl4, tl5, tl6, tl8, tl9, tl10, tl50, tl81, tl100, tl1000, tl9999, tlm1, tlm9, tlm50, tl2147483647]; omega))) (fun z25 hz25 => ?_)
        exact Ok_some trivial
      · intro h
        have c848 : z24.1.toInt ≠ 0 := i32ne h
        exact Ok_some trivial
    · intro h
      have c849 : 0 ≤ i3.toInt := i32nlt h
      refine Ok_if ?_ ?_
      · intro h
        have c850 : i3.toInt ≤ 3 := i32le h
        rw [wk19]
        show Ok ((fX8_isThrown (0 : Int32) (0 : Int32)).bind (fun z24 => if z24.1 = (0 : Int32) then ((fX8_ofPlaceNow i4 f13 f14 i2 i3).bind (fun z25 => some (z25, z24.2))) else (some ((0 : Int32), z24.2)))) _
        refine Ok_bind (ok_X8_isThrown (0 : Int32) (0 : Int32)) (fun z24 hz24 => ?_)
        try dsimp only at hz24
        try simp only [tl0, tl1, tl2, tl3, tl4, tl5, tl6, tl8, tl9, tl10, tl50, tl81, tl100, tl1000, tl9999, tlm1, tlm9, tlm50, tl2147483647] at hz24
        refine Ok_if ?_ ?_
        · intro h
          have c851 : z24.1.toInt = 0 := i32eq h
          refine Ok_bind (ok_X8_ofPlaceNow i4 f13 f14 i2 i3 (by first | omega | assumption | (try simp only [tl0, tl1, tl2, tl3, tl4, tl5, tl6, tl8, tl9, tl10, tl50, tl81, tl100, tl1000, tl9999, tlm1, tlm9, tlm50, tl2147483647]; omega)) (by first | omega | assumption | (try simp only [tl0, tl1, tl2, tl3, tl4, tl5, tl6, tl8, tl9, tl10, tl50, tl81, tl100, tl1000, tl9999, tlm1, tlm9, tlm50, tl2147483647]; omega)) (by first | omega | assumption | (try simp only [tl0, tl1, tl2, tl3, tl4, tl5, tl6, tl8, tl9, tl10, tl50, tl81, tl100, tl1000, tl9999, tlm1, tlm9, tlm50, tl2147483647]; omega))) (fun z25 hz25 => ?_)
          exact Ok_some trivial
        · intro h
          have c852 : z24.1.toInt ≠ 0 := i32ne h
          exact Ok_some trivial
      · intro h
        have c853 : 3 < i3.toInt := i32nle h
        rw [wk21]
        show Ok (k19 (1 : Int32)) _
        rw [wk19]
        show Ok ((fX8_isThrown (0 : Int32) (1 : Int32)).bind (fun z24 => if z24.1 = (0 : Int32) then ((fX8_ofPlaceNow i4 f13 f14 i2 i3).bind (fun z25 => some (z25, z24.2))) else (some ((0 : Int32), z24.2)))) _
        refine Ok_bind (ok_X8_isThrown (0 : Int32) (1 : Int32)) (fun z24 hz24 => ?_)
        try dsimp only at hz24
        try simp only [tl0, tl1, tl2, tl3, tl4, tl5, tl6, tl8, tl9, tl10, tl50, tl81, tl100, tl1000, tl9999, tlm1, tlm9, tlm50, tl2147483647] at hz24
        refine Ok_if ?_ ?_
        · intro h
          have c854 : z24.1.toInt = 0 := i32eq h
          refine Ok_bind (ok_X8_ofPlaceNow i4 f13 f14 i2 i3 (by first | omega | assumption | (try simp only [tl0, tl1, tl2, tl3, tl4, tl5, tl6, tl8, tl9, tl10, tl50, tl81, tl100, tl1000, tl9999, tlm1, tlm9, tlm50, tl2147483647]; omega)) (by first | omega | assumption | (try simp only [tl0, tl1, tl2, tl3, tl4, tl5, tl6, tl8, tl9, tl10, tl50, tl81, tl100, tl1000, tl9999, tlm1, tlm9, tlm50, tl2147483647]; omega)) (by first | omega | assumption | (try simp only [tl0, tl1, tl2, tl3, tl4, tl5, tl6, tl8, tl9, tl10, tl50, tl81, tl100, tl1000, tl9999, tlm1, tlm9, tlm50, tl2147483647]; omega))) (fun z25 hz25 => ?_)
          exact Ok_some trivial
        · intro h
          have c855 : z24.1.toInt ≠ 0 := i32ne h
          exact Ok_some trivial
set_option maxRecDepth 4000 in
theorem ok_X8_cut (i3 : Int32) (i6 : Int32) (i7 : Int32) (f12 : Nat → Int32) (i2 : Int32) (h0 : 2 ≤ i3.toInt ∧ i3.toInt ≤ 9) (h1 : 0 ≤ i6.toInt ∧ i6.toInt ≤ 8) (h2 : 0 ≤ i7.toInt ∧ i7.toInt ≤ 8) : Ok (fX8_cut i3 i6 i7 f12 i2) (fun z => True) := by
  unfold fX8_cut
  refine Ok_bind (ok_X8_isSet i3 i2 (by first | omega | assumption | (try simp only [tl0, tl1, tl2, tl3, tl4, tl5, tl6, tl8, tl9, tl10, tl50, tl81, tl100, tl1000, tl9999, tlm1, tlm9, tlm50, tl2147483647]; omega))) (fun z13 hz13 => ?_)
  refine Ok_jn (fun k14 wk14 => ?_)
  refine Ok_if ?_ ?_
  · intro h
    have c856 : z13.toInt = 0 := i32eq h
    rw [wk14]
    show Ok ((fX8_isThrown_ (1 : Int32)).bind (fun z17 => if z17.1 = (0 : Int32) then ((fX8_isCut i2 i6 i7).bind (fun z18 => if z18 = (0 : Int32) then (some ((-9 : Int32), z17.2)) else ((fX8_through i3 f12 i2).bind (fun z19 => some (z19, z17.2))))) else (some ((0 : Int32), z17.2)))) _
    refine Ok_bind (ok_X8_isThrown_ (1 : Int32)) (fun z17 hz17 => ?_)
    try dsimp only at hz17
    try simp only [tl0, tl1, tl2, tl3, tl4, tl5, tl6, tl8, tl9, tl10, tl50, tl81, tl100, tl1000, tl9999, tlm1, tlm9, tlm50, tl2147483647] at hz17
    refine Ok_if ?_ ?_
    · intro h
      have c857 : z17.1.toInt = 0 := i32eq h
      refine Ok_bind (ok_X8_isCut i2 i6 i7) (fun z18 hz18 => ?_)
      refine Ok_if ?_ ?_
      · intro h
        have c858 : z18.toInt = 0 := i32eq h
        exact Ok_some trivial
      · intro h
        have c859 : z18.toInt ≠ 0 := i32ne h
        refine Ok_bind (ok_X8_through i3 f12 i2 (by first | omega | assumption | (try simp only [tl0, tl1, tl2, tl3, tl4, tl5, tl6, tl8, tl9, tl10, tl50, tl81, tl100, tl1000, tl9999, tlm1, tlm9, tlm50, tl2147483647]; omega))) (fun z19 hz19 => ?_)
        exact Ok_some trivial
    · intro h
      have c860 : z17.1.toInt ≠ 0 := i32ne h
      exact Ok_some trivial
  · intro h
    have c861 : z13.toInt ≠ 0 := i32ne h
    rw [wk14]
    show Ok ((fX8_isThrown_ (0 : Int32)).bind (fun z17 => if z17.1 = (0 : Int32) then ((fX8_isCut i2 i6 i7).bind (fun z18 => if z18 = (0 : Int32) then (some ((-9 : Int32), z17.2)) else ((fX8_through i3 f12 i2).bind (fun z19 => some (z19, z17.2))))) else (some ((0 : Int32), z17.2)))) _
    refine Ok_bind (ok_X8_isThrown_ (0 : Int32)) (fun z17 hz17 => ?_)
    try dsimp only at hz17
    try simp only [tl0, tl1, tl2, tl3, tl4, tl5, tl6, tl8, tl9, tl10, tl50, tl81, tl100, tl1000, tl9999, tlm1, tlm9, tlm50, tl2147483647] at hz17
    refine Ok_if ?_ ?_
    · intro h
      have c862 : z17.1.toInt = 0 := i32eq h
      refine Ok_bind (ok_X8_isCut i2 i6 i7) (fun z18 hz18 => ?_)
      refine Ok_if ?_ ?_
      · intro h
        have c863 : z18.toInt = 0 := i32eq h
        exact Ok_some trivial
      · intro h
        have c864 : z18.toInt ≠ 0 := i32ne h
        refine Ok_bind (ok_X8_through i3 f12 i2 (by first | omega | assumption | (try simp only [tl0, tl1, tl2, tl3, tl4, tl5, tl6, tl8, tl9, tl10, tl50, tl81, tl100, tl1000, tl9999, tlm1, tlm9, tlm50, tl2147483647]; omega))) (fun z19 hz19 => ?_)
        exact Ok_some trivial
    · intro h
      have c865 : z17.1.toInt ≠ 0 := i32ne h
      exact Ok_some trivial
set_option maxRecDepth 4000 in
theorem ok_X8_least_ (i2 : Int32) (i5 : Int32) (i6 : Int32) (f11 : Nat → Int32) (h0 : 2 ≤ i2.toInt ∧ i2.toInt ≤ 9) (h1 : 0 ≤ i5.toInt ∧ i5.toInt ≤ 8) (h2 : 0 ≤ i6.toInt ∧ i6.toInt ≤ 8) : Ok (fX8_least_ i2 i5 i6 f11) (fun z => True) := by
  unfold fX8_least_
  refine Ok_bind (ok_X8_leastNow i2 i5 i6 f11 (by first | omega | assumption | (try simp only [tl0, tl1, tl2, tl3, tl4, tl5, tl6, tl8, tl9, tl10, tl50, tl81, tl100, tl1000, tl9999, tlm1, tlm9, tlm50, tl2147483647]; omega)) (by first | omega | assumption | (try simp only [tl0, tl1, tl2, tl3, tl4, tl5, tl6, tl8, tl9, tl10, tl50, tl81, tl100, tl1000, tl9999, tlm1, tlm9, tlm50, tl2147483647]; omega)) (by first | omega | assumption | (try simp only [tl0, tl1, tl2, tl3, tl4, tl5, tl6, tl8, tl9, tl10, tl50, tl81, tl100, tl1000, tl9999, tlm1, tlm9, tlm50, tl2147483647]; omega))) (fun z12 hz12 => ?_)
  exact Ok_some trivial
set_option maxRecDepth 4000 in
theorem ok_X8_isLeast (i3 : Int32) (i6 : Int32) (i7 : Int32) (f12 : Nat → Int32) (i2 : Int32) (h0 : 2 ≤ i3.toInt ∧ i3.toInt ≤ 9) (h1 : 0 ≤ i6.toInt ∧ i6.toInt ≤ 8) (h2 : 0 ≤ i7.toInt ∧ i7.toInt ≤ 8) : Ok (fX8_isLeast i3 i6 i7 f12 i2) (fun z => True) := by
  unfold fX8_isLeast
  refine Ok_bind (ok_X8_isSet i3 i2 (by first | omega | assumption | (try simp only [tl0, tl1, tl2, tl3, tl4, tl5, tl6, tl8, tl9, tl10, tl50, tl81, tl100, tl1000, tl9999, tlm1, tlm9, tlm50, tl2147483647]; omega))) (fun z13 hz13 => ?_)
  refine Ok_jn (fun k14 wk14 => ?_)
  refine Ok_if ?_ ?_
  · intro h
    have c866 : z13.toInt = 0 := i32eq h
    rw [wk14]
    show Ok ((fX8_isThrown_ (1 : Int32)).bind (fun z17 => if z17.1 = (0 : Int32) then ((fX8_isCut i2 i6 i7).bind (fun z18 => if z18 = (0 : Int32) then (some ((0 : Int32), z17.2)) else ((fX8_through i3 f12 i2).bind (fun z19 => (fX8_leastNow i3 i6 i7 f12).bind (fun z20 => if z19 = z20 then (some ((1 : Int32), z17.2)) else (some ((0 : Int32), z17.2))))))) else (some ((0 : Int32), z17.2)))) _
    refine Ok_bind (ok_X8_isThrown_ (1 : Int32)) (fun z17 hz17 => ?_)
    try dsimp only at hz17
    try simp only [tl0, tl1, tl2, tl3, tl4, tl5, tl6, tl8, tl9, tl10, tl50, tl81, tl100, tl1000, tl9999, tlm1, tlm9, tlm50, tl2147483647] at hz17
    refine Ok_if ?_ ?_
    · intro h
      have c867 : z17.1.toInt = 0 := i32eq h
      refine Ok_bind (ok_X8_isCut i2 i6 i7) (fun z18 hz18 => ?_)
      refine Ok_if ?_ ?_
      · intro h
        have c868 : z18.toInt = 0 := i32eq h
        exact Ok_some trivial
      · intro h
        have c869 : z18.toInt ≠ 0 := i32ne h
        refine Ok_bind (ok_X8_through i3 f12 i2 (by first | omega | assumption | (try simp only [tl0, tl1, tl2, tl3, tl4, tl5, tl6, tl8, tl9, tl10, tl50, tl81, tl100, tl1000, tl9999, tlm1, tlm9, tlm50, tl2147483647]; omega))) (fun z19 hz19 => ?_)
        refine Ok_bind (ok_X8_leastNow i3 i6 i7 f12 (by first | omega | assumption | (try simp only [tl0, tl1, tl2, tl3, tl4, tl5, tl6, tl8, tl9, tl10, tl50, tl81, tl100, tl1000, tl9999, tlm1, tlm9, tlm50, tl2147483647]; omega)) (by first | omega | assumption | (try simp only [tl0, tl1, tl2, tl3, tl4, tl5, tl6, tl8, tl9, tl10, tl50, tl81, tl100, tl1000, tl9999, tlm1, tlm9, tlm50, tl2147483647]; omega)) (by first | omega | assumption | (try simp only [tl0, tl1, tl2, tl3, tl4, tl5, tl6, tl8, tl9, tl10, tl50, tl81, tl100, tl1000, tl9999, tlm1, tlm9, tlm50, tl2147483647]; omega))) (fun z20 hz20 => ?_)
        refine Ok_if ?_ ?_
        · intro h
          have c870 : z19.toInt = z20.toInt := i32eq h
          exact Ok_some trivial
        · intro h
          have c871 : z19.toInt ≠ z20.toInt := i32ne h
          exact Ok_some trivial
    · intro h
      have c872 : z17.1.toInt ≠ 0 := i32ne h
      exact Ok_some trivial
  · intro h
    have c873 : z13.toInt ≠ 0 := i32ne h
    rw [wk14]
    show Ok ((fX8_isThrown_ (0 : Int32)).bind (fun z17 => if z17.1 = (0 : Int32) then ((fX8_isCut i2 i6 i7).bind (fun z18 => if z18 = (0 : Int32) then (some ((0 : Int32), z17.2)) else ((fX8_through i3 f12 i2).bind (fun z19 => (fX8_leastNow i3 i6 i7 f12).bind (fun z20 => if z19 = z20 then (some ((1 : Int32), z17.2)) else (some ((0 : Int32), z17.2))))))) else (some ((0 : Int32), z17.2)))) _
    refine Ok_bind (ok_X8_isThrown_ (0 : Int32)) (fun z17 hz17 => ?_)
    try dsimp only at hz17
    try simp only [tl0, tl1, tl2, tl3, tl4, tl5, tl6, tl8, tl9, tl10, tl50, tl81, tl100, tl1000, tl9999, tlm1, tlm9, tlm50, tl2147483647] at hz17
    refine Ok_if ?_ ?_
    · intro h
      have c874 : z17.1.toInt = 0 := i32eq h
      refine Ok_bind (ok_X8_isCut i2 i6 i7) (fun z18 hz18 => ?_)
      refine Ok_if ?_ ?_
      · intro h
        have c875 : z18.toInt = 0 := i32eq h
        exact Ok_some trivial
      · intro h
        have c876 : z18.toInt ≠ 0 := i32ne h
        refine Ok_bind (ok_X8_through i3 f12 i2 (by first | omega | assumption | (try simp only [tl0, tl1, tl2, tl3, tl4, tl5, tl6, tl8, tl9, tl10, tl50, tl81, tl100, tl1000, tl9999, tlm1, tlm9, tlm50, tl2147483647]; omega))) (fun z19 hz19 => ?_)
        refine Ok_bind (ok_X8_leastNow i3 i6 i7 f12 (by first | omega | assumption | (try simp only [tl0, tl1, tl2, tl3, tl4, tl5, tl6, tl8, tl9, tl10, tl50, tl81, tl100, tl1000, tl9999, tlm1, tlm9, tlm50, tl2147483647]; omega)) (by first | omega | assumption | (try simp only [tl0, tl1, tl2, tl3, tl4, tl5, tl6, tl8, tl9, tl10, tl50, tl81, tl100, tl1000, tl9999, tlm1, tlm9, tlm50, tl2147483647]; omega)) (by first | omega | assumption | (try simp only [tl0, tl1, tl2, tl3, tl4, tl5, tl6, tl8, tl9, tl10, tl50, tl81, tl100, tl1000, tl9999, tlm1, tlm9, tlm50, tl2147483647]; omega))) (fun z20 hz20 => ?_)
        refine Ok_if ?_ ?_
        · intro h
          have c877 : z19.toInt = z20.toInt := i32eq h
          exact Ok_some trivial
        · intro h
          have c878 : z19.toInt ≠ z20.toInt := i32ne h
          exact Ok_some trivial
    · intro h
      have c879 : z17.1.toInt ≠ 0 := i32ne h
      exact Ok_some trivial
set_option maxRecDepth 4000 in
theorem ok_X8_leasts (i2 : Int32) (i5 : Int32) (i6 : Int32) (f11 : Nat → Int32) (h0 : 2 ≤ i2.toInt ∧ i2.toInt ≤ 9) (h1 : 0 ≤ i5.toInt ∧ i5.toInt ≤ 8) (h2 : 0 ≤ i6.toInt ∧ i6.toInt ≤ 8) : Ok (fX8_leasts i2 i5 i6 f11) (fun z => True) := by
  unfold fX8_leasts
  refine Ok_bind (ok_X8_leastsNow i2 i5 i6 f11 (by first | omega | assumption | (try simp only [tl0, tl1, tl2, tl3, tl4, tl5, tl6, tl8, tl9, tl10, tl50, tl81, tl100, tl1000, tl9999, tlm1, tlm9, tlm50, tl2147483647]; omega)) (by first | omega | assumption | (try simp only [tl0, tl1, tl2, tl3, tl4, tl5, tl6, tl8, tl9, tl10, tl50, tl81, tl100, tl1000, tl9999, tlm1, tlm9, tlm50, tl2147483647]; omega)) (by first | omega | assumption | (try simp only [tl0, tl1, tl2, tl3, tl4, tl5, tl6, tl8, tl9, tl10, tl50, tl81, tl100, tl1000, tl9999, tlm1, tlm9, tlm50, tl2147483647]; omega))) (fun z12 hz12 => ?_)
  exact Ok_some trivial
set_option maxRecDepth 4000 in
theorem okL_X8_nthLeast_L28 (i3 : Int32) (i6 : Int32) (i7 : Int32) (f12 : Nat → Int32) (i36 : Int32) (i39 : Int32)   (g0 : 2 ≤ i3.toInt ∧ i3.toInt ≤ 9) (g1 : 0 ≤ i6.toInt ∧ i6.toInt ≤ 8) (g2 : 0 ≤ i7.toInt ∧ i7.toInt ≤ 8)  : ∀ (n : Nat) (i37 : Int32) (i38 : Int32), 0 ≤ i38.toInt → ((1 : Int32) <<< (i3 &&& 31)).toInt - i38.toInt < n → 0 < n → Ok (LX8_nthLeast_L28 i3 i6 i7 f12 i36 i39 n i37 i38 ) (fun z => True) := by
  intro n
  induction n with
  | zero => intro i37 i38 v0 hm h0; exact absurd h0 (Nat.lt_irrefl 0)
  | succ n ih =>
    intro i37 i38 v0 hm h0
    show Ok (BX8_nthLeast_L28 i3 i6 i7 f12 i36 i39 i37 i38 (fun i37 i38 => LX8_nthLeast_L28 i3 i6 i7 f12 i36 i39 n i37 i38 ) ) _
    unfold BX8_nthLeast_L28
    refine Ok_if ?_ ?_
    · intro h
      try (have e883 := sh9 (x := i3) (by omega) (by omega))
      have c882 : ((1 : Int32) <<< (i3 &&& 31)).toInt ≤ i38.toInt := i32le h
      exact Ok_some trivial
    · intro h
      try (have e885 := sh9 (x := i3) (by omega) (by omega))
      have c884 : i38.toInt < ((1 : Int32) <<< (i3 &&& 31)).toInt := i32nle h
      refine Ok_bind (ok_X8_isCut i38 i6 i7) (fun z40 hz40 => ?_)
      refine Ok_jn (fun k41 wk41 => ?_)
      refine Ok_if ?_ ?_
      · intro h
        have c886 : z40.toInt = 0 := i32eq h
        rw [wk41]
        show Ok ((fun i37 i38 => LX8_nthLeast_L28 i3 i6 i7 f12 i36 i39 n i37 i38 ) i37 (i38 + (1 : Int32))) _
        try (have e887 := inc_iv (x := i38) (by omega))
        exact ih i37 (i38 + (1 : Int32)) (by first | omega | assumption | (try simp only [tl0, tl1, tl2, tl3, tl4, tl5, tl6, tl8, tl9, tl10, tl50, tl81, tl100, tl1000, tl9999, tlm1, tlm9, tlm50, tl2147483647]; omega)) (by first | omega | assumption | (try simp only [tl0, tl1, tl2, tl3, tl4, tl5, tl6, tl8, tl9, tl10, tl50, tl81, tl100, tl1000, tl9999, tlm1, tlm9, tlm50, tl2147483647]; omega)) (by first | omega | assumption | (try simp only [tl0, tl1, tl2, tl3, tl4, tl5, tl6, tl8, tl9, tl10, tl50, tl81, tl100, tl1000, tl9999, tlm1, tlm9, tlm50, tl2147483647]; omega))
      · intro h
        have c888 : z40.toInt ≠ 0 := i32ne h
        refine Ok_bind (ok_X8_through i3 f12 i38 (by first | omega | assumption | (try simp only [tl0, tl1, tl2, tl3, tl4, tl5, tl6, tl8, tl9, tl10, tl50, tl81, tl100, tl1000, tl9999, tlm1, tlm9, tlm50, tl2147483647]; omega))) (fun z43 hz43 => ?_)
        refine Ok_if ?_ ?_
        · intro h
          have c889 : z43.toInt = i36.toInt := i32eq h
          refine Ok_if ?_ ?_
          · intro h
            have c890 : i37.toInt = 0 := i32eq h
            exact Ok_some trivial
          · intro h
            have c891 : i37.toInt ≠ 0 := i32ne h
            try (have e892 := decp_iv (x := i37) (by omega))
            rw [wk41]
            show Ok ((fun i37 i38 => LX8_nthLeast_L28 i3 i6 i7 f12 i36 i39 n i37 i38 ) (i37 + (-1 : Int32)) (i38 + (1 : Int32))) _
            try (have e893 := inc_iv (x := i38) (by omega))
            exact ih (i37 + (-1 : Int32)) (i38 + (1 : Int32)) (by first | omega | assumption | (try simp only [tl0, tl1, tl2, tl3, tl4, tl5, tl6, tl8, tl9, tl10, tl50, tl81, tl100, tl1000, tl9999, tlm1, tlm9, tlm50, tl2147483647]; omega)) (by first | omega | assumption | (try simp only [tl0, tl1, tl2, tl3, tl4, tl5, tl6, tl8, tl9, tl10, tl50, tl81, tl100, tl1000, tl9999, tlm1, tlm9, tlm50, tl2147483647]; omega)) (by first | omega | assumption | (try simp only [tl0, tl1, tl2, tl3, tl4, tl5, tl6, tl8, tl9, tl10, tl50, tl81, tl100, tl1000, tl9999, tlm1, tlm9, tlm50, tl2147483647]; omega))
        · intro h
          have c894 : z43.toInt ≠ i36.toInt := i32ne h
          rw [wk41]
          show Ok ((fun i37 i38 => LX8_nthLeast_L28 i3 i6 i7 f12 i36 i39 n i37 i38 ) i37 (i38 + (1 : Int32))) _
          try (have e895 := inc_iv (x := i38) (by omega))
          exact ih i37 (i38 + (1 : Int32)) (by first | omega | assumption | (try simp only [tl0, tl1, tl2, tl3, tl4, tl5, tl6, tl8, tl9, tl10, tl50, tl81, tl100, tl1000, tl9999, tlm1, tlm9, tlm50, tl2147483647]; omega)) (by first | omega | assumption | (try simp only [tl0, tl1, tl2, tl3, tl4, tl5, tl6, tl8, tl9, tl10, tl50, tl81, tl100, tl1000, tl9999, tlm1, tlm9, tlm50, tl2147483647]; omega)) (by first | omega | assumption | (try simp only [tl0, tl1, tl2, tl3, tl4, tl5, tl6, tl8, tl9, tl10, tl50, tl81, tl100, tl1000, tl9999, tlm1, tlm9, tlm50, tl2147483647]; omega))
set_option maxRecDepth 4000 in
theorem ok_X8_nthLeast (i3 : Int32) (i6 : Int32) (i7 : Int32) (f12 : Nat → Int32) (i2 : Int32) (h0 : 2 ≤ i3.toInt ∧ i3.toInt ≤ 9) (h1 : 0 ≤ i6.toInt ∧ i6.toInt ≤ 8) (h2 : 0 ≤ i7.toInt ∧ i7.toInt ≤ 8) : Ok (fX8_nthLeast i3 i6 i7 f12 i2) (fun z => True) := by
  unfold fX8_nthLeast
  refine Ok_jn (fun k13 wk13 => ?_)
  refine Ok_if ?_ ?_
  · intro h
    have c880 : 0 ≤ i2.toInt := i32le h
    rw [wk13]
    show Ok ((fX8_isThrown_ (0 : Int32)).bind (fun z16 => if z16.1 = (0 : Int32) then ((fX8_leastNow i3 i6 i7 f12).bind (fun z17 => LX8_nthLeast_L28  i3 i6 i7 f12 z17 z16.2 600 i2 (0 : Int32) )) else (some ((0 : Int32), z16.2)))) _
    refine Ok_bind (ok_X8_isThrown_ (0 : Int32)) (fun z16 hz16 => ?_)
    try dsimp only at hz16
    try simp only [tl0, tl1, tl2, tl3, tl4, tl5, tl6, tl8, tl9, tl10, tl50, tl81, tl100, tl1000, tl9999, tlm1, tlm9, tlm50, tl2147483647] at hz16
    refine Ok_if ?_ ?_
    · intro h
      have c881 : z16.1.toInt = 0 := i32eq h
      refine Ok_bind (ok_X8_leastNow i3 i6 i7 f12 (by first | omega | assumption | (try simp only [tl0, tl1, tl2, tl3, tl4, tl5, tl6, tl8, tl9, tl10, tl50, tl81, tl100, tl1000, tl9999, tlm1, tlm9, tlm50, tl2147483647]; omega)) (by first | omega | assumption | (try simp only [tl0, tl1, tl2, tl3, tl4, tl5, tl6, tl8, tl9, tl10, tl50, tl81, tl100, tl1000, tl9999, tlm1, tlm9, tlm50, tl2147483647]; omega)) (by first | omega | assumption | (try simp only [tl0, tl1, tl2, tl3, tl4, tl5, tl6, tl8, tl9, tl10, tl50, tl81, tl100, tl1000, tl9999, tlm1, tlm9, tlm50, tl2147483647]; omega))) (fun z17 hz17 => ?_)
      try (have e896 := sh9 (x := i3) (by omega) (by omega))
      refine Ok_mono (okL_X8_nthLeast_L28 i3 i6 i7 f12 z17 z16.2 (by first | omega | assumption | (try simp only [tl0, tl1, tl2, tl3, tl4, tl5, tl6, tl8, tl9, tl10, tl50, tl81, tl100, tl1000, tl9999, tlm1, tlm9, tlm50, tl2147483647]; omega)) (by first | omega | assumption | (try simp only [tl0, tl1, tl2, tl3, tl4, tl5, tl6, tl8, tl9, tl10, tl50, tl81, tl100, tl1000, tl9999, tlm1, tlm9, tlm50, tl2147483647]; omega)) (by first | omega | assumption | (try simp only [tl0, tl1, tl2, tl3, tl4, tl5, tl6, tl8, tl9, tl10, tl50, tl81, tl100, tl1000, tl9999, tlm1, tlm9, tlm50, tl2147483647]; omega)) 600 i2 (0 : Int32) (by first | omega | assumption | (try simp only [tl0, tl1, tl2, tl3, tl4, tl5, tl6, tl8, tl9, tl10, tl50, tl81, tl100, tl1000, tl9999, tlm1, tlm9, tlm50, tl2147483647]; omega)) (by first | omega | assumption | (try simp only [tl0, tl1, tl2, tl3, tl4, tl5, tl6, tl8, tl9, tl10, tl50, tl81, tl100, tl1000, tl9999, tlm1, tlm9, tlm50, tl2147483647]; omega)) (by first | omega | assumption | (try simp only [tl0, tl1, tl2, tl3, tl4, tl5, tl6, tl8, tl9, tl10, tl50, tl81, tl100, tl1000, tl9999, tlm1, tlm9, tlm50, tl2147483647]; omega))) ?_
      intro z hz
      first | exact hz | (simp only [Sx] at *; omega) | (dsimp only at *; omega)
    · intro h
      have c897 : z16.1.toInt ≠ 0 := i32ne h
      exact Ok_some trivial
  · intro h
    have c898 : i2.toInt < 0 := i32nle h
    rw [wk13]
    show Ok ((fX8_isThrown_ (1 : Int32)).bind (fun z16 => if z16.1 = (0 : Int32) then ((fX8_leastNow i3 i6 i7 f12).bind (fun z17 => LX8_nthLeast_L28  i3 i6 i7 f12 z17 z16.2 600 i2 (0 : Int32) )) else (some ((0 : Int32), z16.2)))) _
    refine Ok_bind (ok_X8_isThrown_ (1 : Int32)) (fun z16 hz16 => ?_)
    try dsimp only at hz16
    try simp only [tl0, tl1, tl2, tl3, tl4, tl5, tl6, tl8, tl9, tl10, tl50, tl81, tl100, tl1000, tl9999, tlm1, tlm9, tlm50, tl2147483647] at hz16
    refine Ok_if ?_ ?_
    · intro h
      have c899 : z16.1.toInt = 0 := i32eq h
      refine Ok_bind (ok_X8_leastNow i3 i6 i7 f12 (by first | omega | assumption | (try simp only [tl0, tl1, tl2, tl3, tl4, tl5, tl6, tl8, tl9, tl10, tl50, tl81, tl100, tl1000, tl9999, tlm1, tlm9, tlm50, tl2147483647]; omega)) (by first | omega | assumption | (try simp only [tl0, tl1, tl2, tl3, tl4, tl5, tl6, tl8, tl9, tl10, tl50, tl81, tl100, tl1000, tl9999, tlm1, tlm9, tlm50, tl2147483647]; omega)) (by first | omega | assumption | (try simp only [tl0, tl1, tl2, tl3, tl4, tl5, tl6, tl8, tl9, tl10, tl50, tl81, tl100, tl1000, tl9999, tlm1, tlm9, tlm50, tl2147483647]; omega))) (fun z17 hz17 => ?_)
      try (have e900 := sh9 (x := i3) (by omega) (by omega))
      refine Ok_mono (okL_X8_nthLeast_L28 i3 i6 i7 f12 z17 z16.2 (by first | omega | assumption | (try simp only [tl0, tl1, tl2, tl3, tl4, tl5, tl6, tl8, tl9, tl10, tl50, tl81, tl100, tl1000, tl9999, tlm1, tlm9, tlm50, tl2147483647]; omega)) (by first | omega | assumption | (try simp only [tl0, tl1, tl2, tl3, tl4, tl5, tl6, tl8, tl9, tl10, tl50, tl81, tl100, tl1000, tl9999, tlm1, tlm9, tlm50, tl2147483647]; omega)) (by first | omega | assumption | (try simp only [tl0, tl1, tl2, tl3, tl4, tl5, tl6, tl8, tl9, tl10, tl50, tl81, tl100, tl1000, tl9999, tlm1, tlm9, tlm50, tl2147483647]; omega)) 600 i2 (0 : Int32) (by first | omega | assumption | (try simp only [tl0, tl1, tl2, tl3, tl4, tl5, tl6, tl8, tl9, tl10, tl50, tl81, tl100, tl1000, tl9999, tlm1, tlm9, tlm50, tl2147483647]; omega)) (by first | omega | assumption | (try simp only [tl0, tl1, tl2, tl3, tl4, tl5, tl6, tl8, tl9, tl10, tl50, tl81, tl100, tl1000, tl9999, tlm1, tlm9, tlm50, tl2147483647]; omega)) (by first | omega | assumption | (try simp only [tl0, tl1, tl2, tl3, tl4, tl5, tl6, tl8, tl9, tl10, tl50, tl81, tl100, tl1000, tl9999, tlm1, tlm9, tlm50, tl2147483647]; omega))) ?_
      intro z hz
      first | exact hz | (simp only [Sx] at *; omega) | (dsimp only at *; omega)
    · intro h
      have c901 : z16.1.toInt ≠ 0 := i32ne h
      exact Ok_some trivial
set_option maxRecDepth 4000 in
theorem ok_X8_end (i3 : Int32) (i6 : Int32) (i7 : Int32) (f12 : Nat → Int32) (i2 : Int32) (h0 : 2 ≤ i3.toInt ∧ i3.toInt ≤ 9) (h1 : 0 ≤ i6.toInt ∧ i6.toInt ≤ 8) (h2 : 0 ≤ i7.toInt ∧ i7.toInt ≤ 8) : Ok (fX8_end i3 i6 i7 f12 i2) (fun z => True) := by
  unfold fX8_end
  refine Ok_bind (ok_X8_endNow i3 i6 i7 f12 i2 (by first | omega | assumption | (try simp only [tl0, tl1, tl2, tl3, tl4, tl5, tl6, tl8, tl9, tl10, tl50, tl81, tl100, tl1000, tl9999, tlm1, tlm9, tlm50, tl2147483647]; omega)) (by first | omega | assumption | (try simp only [tl0, tl1, tl2, tl3, tl4, tl5, tl6, tl8, tl9, tl10, tl50, tl81, tl100, tl1000, tl9999, tlm1, tlm9, tlm50, tl2147483647]; omega)) (by first | omega | assumption | (try simp only [tl0, tl1, tl2, tl3, tl4, tl5, tl6, tl8, tl9, tl10, tl50, tl81, tl100, tl1000, tl9999, tlm1, tlm9, tlm50, tl2147483647]; omega))) (fun z13 hz13 => ?_)
  exact Ok_some trivial
set_option maxRecDepth 4000 in
theorem ok_X8_value (i2 : Int32) (i5 : Int32) (f11 : Nat → Int32) (h0 : 2 ≤ i2.toInt ∧ i2.toInt ≤ 9) (h1 : 0 ≤ i5.toInt ∧ i5.toInt ≤ 8) : Ok (fX8_value i2 i5 f11) (fun z => True) := by
  unfold fX8_value
  refine Ok_bind (ok_X8_valueNow i2 i5 f11 (by first | omega | assumption | (try simp only [tl0, tl1, tl2, tl3, tl4, tl5, tl6, tl8, tl9, tl10, tl50, tl81, tl100, tl1000, tl9999, tlm1, tlm9, tlm50, tl2147483647]; omega)) (by first | omega | assumption | (try simp only [tl0, tl1, tl2, tl3, tl4, tl5, tl6, tl8, tl9, tl10, tl50, tl81, tl100, tl1000, tl9999, tlm1, tlm9, tlm50, tl2147483647]; omega))) (fun z12 hz12 => ?_)
  exact Ok_some trivial
set_option maxRecDepth 4000 in
theorem ok_X8_most (i3 : Int32) (i6 : Int32) (i7 : Int32) (f12 : Nat → Int32) (i2 : Int32) (h0 : 2 ≤ i3.toInt ∧ i3.toInt ≤ 9) (h1 : 0 ≤ i6.toInt ∧ i6.toInt ≤ 8) (h2 : 0 ≤ i7.toInt ∧ i7.toInt ≤ 8) : Ok (fX8_most i3 i6 i7 f12 i2) (fun z => True) := by
  unfold fX8_most
  refine Ok_bind (ok_X8_isRule i2) (fun z13 hz13 => ?_)
  try dsimp only at hz13
  try simp only [tl0, tl1, tl2, tl3, tl4, tl5, tl6, tl8, tl9, tl10, tl50, tl81, tl100, tl1000, tl9999, tlm1, tlm9, tlm50, tl2147483647] at hz13
  refine Ok_jn (fun k14 wk14 => ?_)
  refine Ok_if ?_ ?_
  · intro h
    have c902 : z13.toInt = 0 := i32eq h
    rw [wk14]
    show Ok ((fX8_isThrown_ (1 : Int32)).bind (fun z17 => if z17.1 = (0 : Int32) then ((fX8_leastNow i3 i6 i7 f12).bind (fun z18 => some (z18, z17.2))) else (some ((0 : Int32), z17.2)))) _
    refine Ok_bind (ok_X8_isThrown_ (1 : Int32)) (fun z17 hz17 => ?_)
    try dsimp only at hz17
    try simp only [tl0, tl1, tl2, tl3, tl4, tl5, tl6, tl8, tl9, tl10, tl50, tl81, tl100, tl1000, tl9999, tlm1, tlm9, tlm50, tl2147483647] at hz17
    refine Ok_if ?_ ?_
    · intro h
      have c903 : z17.1.toInt = 0 := i32eq h
      refine Ok_bind (ok_X8_leastNow i3 i6 i7 f12 (by first | omega | assumption | (try simp only [tl0, tl1, tl2, tl3, tl4, tl5, tl6, tl8, tl9, tl10, tl50, tl81, tl100, tl1000, tl9999, tlm1, tlm9, tlm50, tl2147483647]; omega)) (by first | omega | assumption | (try simp only [tl0, tl1, tl2, tl3, tl4, tl5, tl6, tl8, tl9, tl10, tl50, tl81, tl100, tl1000, tl9999, tlm1, tlm9, tlm50, tl2147483647]; omega)) (by first | omega | assumption | (try simp only [tl0, tl1, tl2, tl3, tl4, tl5, tl6, tl8, tl9, tl10, tl50, tl81, tl100, tl1000, tl9999, tlm1, tlm9, tlm50, tl2147483647]; omega))) (fun z18 hz18 => ?_)
      exact Ok_some trivial
    · intro h
      have c904 : z17.1.toInt ≠ 0 := i32ne h
      exact Ok_some trivial
  · intro h
    have c905 : z13.toInt ≠ 0 := i32ne h
    rw [wk14]
    show Ok ((fX8_isThrown_ (0 : Int32)).bind (fun z17 => if z17.1 = (0 : Int32) then ((fX8_leastNow i3 i6 i7 f12).bind (fun z18 => some (z18, z17.2))) else (some ((0 : Int32), z17.2)))) _
    refine Ok_bind (ok_X8_isThrown_ (0 : Int32)) (fun z17 hz17 => ?_)
    try dsimp only at hz17
    try simp only [tl0, tl1, tl2, tl3, tl4, tl5, tl6, tl8, tl9, tl10, tl50, tl81, tl100, tl1000, tl9999, tlm1, tlm9, tlm50, tl2147483647] at hz17
    refine Ok_if ?_ ?_
    · intro h
      have c906 : z17.1.toInt = 0 := i32eq h
      refine Ok_bind (ok_X8_leastNow i3 i6 i7 f12 (by first | omega | assumption | (try simp only [tl0, tl1, tl2, tl3, tl4, tl5, tl6, tl8, tl9, tl10, tl50, tl81, tl100, tl1000, tl9999, tlm1, tlm9, tlm50, tl2147483647]; omega)) (by first | omega | assumption | (try simp only [tl0, tl1, tl2, tl3, tl4, tl5, tl6, tl8, tl9, tl10, tl50, tl81, tl100, tl1000, tl9999, tlm1, tlm9, tlm50, tl2147483647]; omega)) (by first | omega | assumption | (try simp only [tl0, tl1, tl2, tl3, tl4, tl5, tl6, tl8, tl9, tl10, tl50, tl81, tl100, tl1000, tl9999, tlm1, tlm9, tlm50, tl2147483647]; omega))) (fun z18 hz18 => ?_)
      exact Ok_some trivial
    · intro h
      have c907 : z17.1.toInt ≠ 0 := i32ne h
      exact Ok_some trivial
set_option maxRecDepth 4000 in
theorem ok_X8_isMost (i2 : Int32) (i5 : Int32) (i6 : Int32) (f11 : Nat → Int32) (f12 : Nat → Int32) (h0 : 2 ≤ i2.toInt ∧ i2.toInt ≤ 9) (h1 : 0 ≤ i5.toInt ∧ i5.toInt ≤ 8) (h2 : 0 ≤ i6.toInt ∧ i6.toInt ≤ 8) : Ok (fX8_isMost i2 i5 i6 f11 f12) (fun z => True) := by
  unfold fX8_isMost
  refine Ok_bind (ok_X8_valueNow i2 i5 f12 (by first | omega | assumption | (try simp only [tl0, tl1, tl2, tl3, tl4, tl5, tl6, tl8, tl9, tl10, tl50, tl81, tl100, tl1000, tl9999, tlm1, tlm9, tlm50, tl2147483647]; omega)) (by first | omega | assumption | (try simp only [tl0, tl1, tl2, tl3, tl4, tl5, tl6, tl8, tl9, tl10, tl50, tl81, tl100, tl1000, tl9999, tlm1, tlm9, tlm50, tl2147483647]; omega))) (fun z13 hz13 => ?_)
  refine Ok_bind (ok_X8_leastNow i2 i5 i6 f11 (by first | omega | assumption | (try simp only [tl0, tl1, tl2, tl3, tl4, tl5, tl6, tl8, tl9, tl10, tl50, tl81, tl100, tl1000, tl9999, tlm1, tlm9, tlm50, tl2147483647]; omega)) (by first | omega | assumption | (try simp only [tl0, tl1, tl2, tl3, tl4, tl5, tl6, tl8, tl9, tl10, tl50, tl81, tl100, tl1000, tl9999, tlm1, tlm9, tlm50, tl2147483647]; omega)) (by first | omega | assumption | (try simp only [tl0, tl1, tl2, tl3, tl4, tl5, tl6, tl8, tl9, tl10, tl50, tl81, tl100, tl1000, tl9999, tlm1, tlm9, tlm50, tl2147483647]; omega))) (fun z14 hz14 => ?_)
  refine Ok_if ?_ ?_
  · intro h
    have c908 : z13.toInt = z14.toInt := i32eq h
    exact Ok_some trivial
  · intro h
    have c909 : z13.toInt ≠ z14.toInt := i32ne h
    exact Ok_some trivial
set_option maxRecDepth 4000 in
theorem okL_X8_layerNow_L56 (i3 : Int32) (f12 : Nat → Int32) (f13 : Nat → Int32) (i166 : Int32) {P : (Int32) → Prop} {k1 : Int32 → Option (Int32)} (g0 : 2 ≤ i3.toInt ∧ i3.toInt ≤ 9) (g1 : 0 ≤ i166.toInt) (g2 : i166.toInt ≤ 8) (hk1 : ∀ (y1 : Int32), Ok (k1 y1) P) : ∀ (n : Nat) (i191 : Int32) (i192 : Int32), 0 ≤ i192.toInt → i3.toInt - i192.toInt < n → 0 < n → Ok (LX8_layerNow_L56 i3 f12 f13 i166 n i191 i192 k1) P := by
  intro n
  induction n with
  | zero => intro i191 i192 v0 hm h0; exact absurd h0 (Nat.lt_irrefl 0)
  | succ n ih =>
    intro i191 i192 v0 hm h0
    show Ok (BX8_layerNow_L56 i3 f12 f13 i166 i191 i192 (fun i191 i192 => LX8_layerNow_L56 i3 f12 f13 i166 n i191 i192 k1) k1) _
    unfold BX8_layerNow_L56
    refine Ok_if ?_ ?_
    · intro h
      have c918 : i3.toInt ≤ i192.toInt := i32le h
      exact hk1 i191
    · intro h
      have c919 : i192.toInt < i3.toInt := i32nle h
      refine Ok_bind (ok_X8_left f12 f13 i166 i192 (by first | omega | assumption | (try simp only [tl0, tl1, tl2, tl3, tl4, tl5, tl6, tl8, tl9, tl10, tl50, tl81, tl100, tl1000, tl9999, tlm1, tlm9, tlm50, tl2147483647]; omega)) (by first | omega | assumption | (try simp only [tl0, tl1, tl2, tl3, tl4, tl5, tl6, tl8, tl9, tl10, tl50, tl81, tl100, tl1000, tl9999, tlm1, tlm9, tlm50, tl2147483647]; omega)) (by first | omega | assumption | (try simp only [tl0, tl1, tl2, tl3, tl4, tl5, tl6, tl8, tl9, tl10, tl50, tl81, tl100, tl1000, tl9999, tlm1, tlm9, tlm50, tl2147483647]; omega)) (by first | omega | assumption | (try simp only [tl0, tl1, tl2, tl3, tl4, tl5, tl6, tl8, tl9, tl10, tl50, tl81, tl100, tl1000, tl9999, tlm1, tlm9, tlm50, tl2147483647]; omega))) (fun z193 hz193 => ?_)
      refine Ok_jn (fun k194 wk194 => ?_)
      refine Ok_if ?_ ?_
      · intro h
        have c920 : z193.toInt ≤ 0 := i32le h
        rw [wk194]
        show Ok ((fun i191 i192 => LX8_layerNow_L56 i3 f12 f13 i166 n i191 i192 k1) i191 (i192 + (1 : Int32))) _
        try (have e921 := inc_iv (x := i192) (by omega))
        exact ih i191 (i192 + (1 : Int32)) (by first | omega | assumption | (try simp only [tl0, tl1, tl2, tl3, tl4, tl5, tl6, tl8, tl9, tl10, tl50, tl81, tl100, tl1000, tl9999, tlm1, tlm9, tlm50, tl2147483647]; omega)) (by first | omega | assumption | (try simp only [tl0, tl1, tl2, tl3, tl4, tl5, tl6, tl8, tl9, tl10, tl50, tl81, tl100, tl1000, tl9999, tlm1, tlm9, tlm50, tl2147483647]; omega)) (by first | omega | assumption | (try simp only [tl0, tl1, tl2, tl3, tl4, tl5, tl6, tl8, tl9, tl10, tl50, tl81, tl100, tl1000, tl9999, tlm1, tlm9, tlm50, tl2147483647]; omega))
      · intro h
        have c922 : 0 < z193.toInt := i32nle h
        refine Ok_nm (fun i196 wi196 => ?_)
        have qi196 := i32eq wi196
        rw [wk194]
        show Ok ((fun i191 i192 => LX8_layerNow_L56 i3 f12 f13 i166 n i191 i192 k1) i196 (i192 + (1 : Int32))) _
        try (have e923 := inc_iv (x := i192) (by omega))
        exact ih i196 (i192 + (1 : Int32)) (by first | omega | assumption | (try simp only [tl0, tl1, tl2, tl3, tl4, tl5, tl6, tl8, tl9, tl10, tl50, tl81, tl100, tl1000, tl9999, tlm1, tlm9, tlm50, tl2147483647]; omega)) (by first | omega | assumption | (try simp only [tl0, tl1, tl2, tl3, tl4, tl5, tl6, tl8, tl9, tl10, tl50, tl81, tl100, tl1000, tl9999, tlm1, tlm9, tlm50, tl2147483647]; omega)) (by first | omega | assumption | (try simp only [tl0, tl1, tl2, tl3, tl4, tl5, tl6, tl8, tl9, tl10, tl50, tl81, tl100, tl1000, tl9999, tlm1, tlm9, tlm50, tl2147483647]; omega))
set_option maxRecDepth 4000 in
theorem okL_X8_layerNow_L34 (i3 : Int32) (f12 : Nat → Int32) (f13 : Nat → Int32) (i114 : Int32) {P : (Int32) → Prop} {k1 : Int32 → Option (Int32)} (g0 : 2 ≤ i3.toInt ∧ i3.toInt ≤ 9) (hk1 : ∀ (y1 : Int32), Ok (k1 y1) P) : ∀ (n : Nat) (i165 : Int32) (i166 : Int32), 0 ≤ i166.toInt → i3.toInt - i166.toInt < n → 0 < n → Ok (LX8_layerNow_L34 i3 f12 f13 i114 n i165 i166 k1) P := by
  intro n
  induction n with
  | zero => intro i165 i166 v0 hm h0; exact absurd h0 (Nat.lt_irrefl 0)
  | succ n ih =>
    intro i165 i166 v0 hm h0
    show Ok (BX8_layerNow_L34 i3 f12 f13 i114 i165 i166 (fun i165 i166 => LX8_layerNow_L34 i3 f12 f13 i114 n i165 i166 k1) k1) _
    unfold BX8_layerNow_L34
    refine Ok_if ?_ ?_
    · intro h
      have c915 : i3.toInt ≤ i166.toInt := i32le h
      exact hk1 i165
    · intro h
      have c916 : i166.toInt < i3.toInt := i32nle h
      refine Ok_jn (fun k167 wk167 => ?_)
      refine Ok_if ?_ ?_
      · intro h
        have c917 : ((i114 >>> (i166 &&& 31)) &&& (1 : Int32)).toInt = 1 := i32eq h
        refine okL_X8_layerNow_L56 i3 f12 f13 i166 (by first | omega | assumption | (try simp only [tl0, tl1, tl2, tl3, tl4, tl5, tl6, tl8, tl9, tl10, tl50, tl81, tl100, tl1000, tl9999, tlm1, tlm9, tlm50, tl2147483647]; omega)) (by first | omega | assumption | (try simp only [tl0, tl1, tl2, tl3, tl4, tl5, tl6, tl8, tl9, tl10, tl50, tl81, tl100, tl1000, tl9999, tlm1, tlm9, tlm50, tl2147483647]; omega)) (by first | omega | assumption | (try simp only [tl0, tl1, tl2, tl3, tl4, tl5, tl6, tl8, tl9, tl10, tl50, tl81, tl100, tl1000, tl9999, tlm1, tlm9, tlm50, tl2147483647]; omega)) ?_ 600 i165 (0 : Int32) (by first | omega | assumption | (try simp only [tl0, tl1, tl2, tl3, tl4, tl5, tl6, tl8, tl9, tl10, tl50, tl81, tl100, tl1000, tl9999, tlm1, tlm9, tlm50, tl2147483647]; omega)) (by first | omega | assumption | (try simp only [tl0, tl1, tl2, tl3, tl4, tl5, tl6, tl8, tl9, tl10, tl50, tl81, tl100, tl1000, tl9999, tlm1, tlm9, tlm50, tl2147483647]; omega)) (by first | omega | assumption | (try simp only [tl0, tl1, tl2, tl3, tl4, tl5, tl6, tl8, tl9, tl10, tl50, tl81, tl100, tl1000, tl9999, tlm1, tlm9, tlm50, tl2147483647]; omega))
        intro i198
        show Ok (k167 i198) _
        rw [wk167]
        show Ok ((fun i165 i166 => LX8_layerNow_L34 i3 f12 f13 i114 n i165 i166 k1) i198 (i166 + (1 : Int32))) _
        try (have e924 := inc_iv (x := i166) (by omega))
        exact ih i198 (i166 + (1 : Int32)) (by first | omega | assumption | (try simp only [tl0, tl1, tl2, tl3, tl4, tl5, tl6, tl8, tl9, tl10, tl50, tl81, tl100, tl1000, tl9999, tlm1, tlm9, tlm50, tl2147483647]; omega)) (by first | omega | assumption | (try simp only [tl0, tl1, tl2, tl3, tl4, tl5, tl6, tl8, tl9, tl10, tl50, tl81, tl100, tl1000, tl9999, tlm1, tlm9, tlm50, tl2147483647]; omega)) (by first | omega | assumption | (try simp only [tl0, tl1, tl2, tl3, tl4, tl5, tl6, tl8, tl9, tl10, tl50, tl81, tl100, tl1000, tl9999, tlm1, tlm9, tlm50, tl2147483647]; omega))
      · intro h
        have c925 : ((i114 >>> (i166 &&& 31)) &&& (1 : Int32)).toInt ≠ 1 := i32ne h
        rw [wk167]
        show Ok ((fun i165 i166 => LX8_layerNow_L34 i3 f12 f13 i114 n i165 i166 k1) i165 (i166 + (1 : Int32))) _
        try (have e926 := inc_iv (x := i166) (by omega))
        exact ih i165 (i166 + (1 : Int32)) (by first | omega | assumption | (try simp only [tl0, tl1, tl2, tl3, tl4, tl5, tl6, tl8, tl9, tl10, tl50, tl81, tl100, tl1000, tl9999, tlm1, tlm9, tlm50, tl2147483647]; omega)) (by first | omega | assumption | (try simp only [tl0, tl1, tl2, tl3, tl4, tl5, tl6, tl8, tl9, tl10, tl50, tl81, tl100, tl1000, tl9999, tlm1, tlm9, tlm50, tl2147483647]; omega)) (by first | omega | assumption | (try simp only [tl0, tl1, tl2, tl3, tl4, tl5, tl6, tl8, tl9, tl10, tl50, tl81, tl100, tl1000, tl9999, tlm1, tlm9, tlm50, tl2147483647]; omega))
set_option maxRecDepth 4000 in
theorem okL_X8_layerNow_L9 (i3 : Int32) (f12 : Nat → Int32) (f13 : Nat → Int32) (i2 : Int32)   (g0 : 2 ≤ i3.toInt ∧ i3.toInt ≤ 9)  : ∀ (n : Nat) (i114 : Int32) (i115 : Int32), 0 ≤ i115.toInt → i3.toInt - i115.toInt < n → 0 < n → Ok (LX8_layerNow_L9 i3 f12 f13 i2 n i114 i115 ) (fun z => True) := by
  intro n
  induction n with
  | zero => intro i114 i115 v0 hm h0; exact absurd h0 (Nat.lt_irrefl 0)
  | succ n ih =>
    intro i114 i115 v0 hm h0
    show Ok (BX8_layerNow_L9 i3 f12 f13 i2 i114 i115 (fun i114 i115 => LX8_layerNow_L9 i3 f12 f13 i2 n i114 i115 ) ) _
    unfold BX8_layerNow_L9
    refine Ok_if ?_ ?_
    · intro h
      have c911 : i3.toInt ≤ i115.toInt := i32le h
      exact Ok_some trivial
    · intro h
      have c912 : i115.toInt < i3.toInt := i32nle h
      refine Ok_if ?_ ?_
      · intro h
        have c913 : ((i114 >>> (i2 &&& 31)) &&& (1 : Int32)).toInt = 1 := i32eq h
        exact Ok_some trivial
      · intro h
        have c914 : ((i114 >>> (i2 &&& 31)) &&& (1 : Int32)).toInt ≠ 1 := i32ne h
        refine okL_X8_layerNow_L34 i3 f12 f13 i114 (by first | omega | assumption | (try simp only [tl0, tl1, tl2, tl3, tl4, tl5, tl6, tl8, tl9, tl10, tl50, tl81, tl100, tl1000, tl9999, tlm1, tlm9, tlm50, tl2147483647]; omega)) ?_ 600 i114 (0 : Int32) (by first | omega | assumption | (try simp only [tl0, tl1, tl2, tl3, tl4, tl5, tl6, tl8, tl9, tl10, tl50, tl81, tl100, tl1000, tl9999, tlm1, tlm9, tlm50, tl2147483647]; omega)) (by first | omega | assumption | (try simp only [tl0, tl1, tl2, tl3, tl4, tl5, tl6, tl8, tl9, tl10, tl50, tl81, tl100, tl1000, tl9999, tlm1, tlm9, tlm50, tl2147483647]; omega)) (by first | omega | assumption | (try simp only [tl0, tl1, tl2, tl3, tl4, tl5, tl6, tl8, tl9, tl10, tl50, tl81, tl100, tl1000, tl9999, tlm1, tlm9, tlm50, tl2147483647]; omega))
        intro i200
        show Ok ((fun i114 i115 => LX8_layerNow_L9 i3 f12 f13 i2 n i114 i115 ) i200 (i115 + (1 : Int32))) _
        try (have e927 := inc_iv (x := i115) (by omega))
        exact ih i200 (i115 + (1 : Int32)) (by first | omega | assumption | (try simp only [tl0, tl1, tl2, tl3, tl4, tl5, tl6, tl8, tl9, tl10, tl50, tl81, tl100, tl1000, tl9999, tlm1, tlm9, tlm50, tl2147483647]; omega)) (by first | omega | assumption | (try simp only [tl0, tl1, tl2, tl3, tl4, tl5, tl6, tl8, tl9, tl10, tl50, tl81, tl100, tl1000, tl9999, tlm1, tlm9, tlm50, tl2147483647]; omega)) (by first | omega | assumption | (try simp only [tl0, tl1, tl2, tl3, tl4, tl5, tl6, tl8, tl9, tl10, tl50, tl81, tl100, tl1000, tl9999, tlm1, tlm9, tlm50, tl2147483647]; omega))
set_option maxRecDepth 4000 in
theorem ok_X8_layerNow (i3 : Int32) (i6 : Int32) (f12 : Nat → Int32) (f13 : Nat → Int32) (i2 : Int32) (h0 : 2 ≤ i3.toInt ∧ i3.toInt ≤ 9) (h1 : 0 ≤ i6.toInt ∧ i6.toInt ≤ 8) : Ok (fX8_layerNow i3 i6 f12 f13 i2) (fun z => True) := by
  unfold fX8_layerNow
  try (have e910 := sh9 (x := i6) (by omega) (by omega))
  refine Ok_nm (fun i14 wi14 => ?_)
  have qi14 := i32eq wi14
  refine Ok_mono (okL_X8_layerNow_L9 i3 f12 f13 i2 (by first | omega | assumption | (try simp only [tl0, tl1, tl2, tl3, tl4, tl5, tl6, tl8, tl9, tl10, tl50, tl81, tl100, tl1000, tl9999, tlm1, tlm9, tlm50, tl2147483647]; omega)) 600 i14 (0 : Int32) (by first | omega | assumption | (try simp only [tl0, tl1, tl2, tl3, tl4, tl5, tl6, tl8, tl9, tl10, tl50, tl81, tl100, tl1000, tl9999, tlm1, tlm9, tlm50, tl2147483647]; omega)) (by first | omega | assumption | (try simp only [tl0, tl1, tl2, tl3, tl4, tl5, tl6, tl8, tl9, tl10, tl50, tl81, tl100, tl1000, tl9999, tlm1, tlm9, tlm50, tl2147483647]; omega)) (by first | omega | assumption | (try simp only [tl0, tl1, tl2, tl3, tl4, tl5, tl6, tl8, tl9, tl10, tl50, tl81, tl100, tl1000, tl9999, tlm1, tlm9, tlm50, tl2147483647]; omega))) ?_
  intro z hz
  first | exact hz | (simp only [Sx] at *; omega) | (dsimp only at *; omega)
set_option maxRecDepth 4000 in
theorem ok_X8_layer (i3 : Int32) (i6 : Int32) (f12 : Nat → Int32) (f13 : Nat → Int32) (i2 : Int32) (h0 : 2 ≤ i3.toInt ∧ i3.toInt ≤ 9) (h1 : 0 ≤ i6.toInt ∧ i6.toInt ≤ 8) : Ok (fX8_layer i3 i6 f12 f13 i2) (fun z => True) := by
  unfold fX8_layer
  refine Ok_bind (ok_X8_isPlace i3 i2 (by first | omega | assumption | (try simp only [tl0, tl1, tl2, tl3, tl4, tl5, tl6, tl8, tl9, tl10, tl50, tl81, tl100, tl1000, tl9999, tlm1, tlm9, tlm50, tl2147483647]; omega))) (fun z14 hz14 => ?_)
  try dsimp only at hz14
  try simp only [tl0, tl1, tl2, tl3, tl4, tl5, tl6, tl8, tl9, tl10, tl50, tl81, tl100, tl1000, tl9999, tlm1, tlm9, tlm50, tl2147483647] at hz14
  refine Ok_jn (fun k15 wk15 => ?_)
  refine Ok_if ?_ ?_
  · intro h
    have c928 : z14.toInt = 0 := i32eq h
    rw [wk15]
    show Ok ((fX8_isThrown_ (1 : Int32)).bind (fun z18 => if z18.1 = (0 : Int32) then ((fX8_layerNow i3 i6 f12 f13 i2).bind (fun z19 => some (z19, z18.2))) else (some ((0 : Int32), z18.2)))) _
    refine Ok_bind (ok_X8_isThrown_ (1 : Int32)) (fun z18 hz18 => ?_)
    try dsimp only at hz18
    try simp only [tl0, tl1, tl2, tl3, tl4, tl5, tl6, tl8, tl9, tl10, tl50, tl81, tl100, tl1000, tl9999, tlm1, tlm9, tlm50, tl2147483647] at hz18
    refine Ok_if ?_ ?_
    · intro h
      have c929 : z18.1.toInt = 0 := i32eq h
      refine Ok_bind (ok_X8_layerNow i3 i6 f12 f13 i2 (by first | omega | assumption | (try simp only [tl0, tl1, tl2, tl3, tl4, tl5, tl6, tl8, tl9, tl10, tl50, tl81, tl100, tl1000, tl9999, tlm1, tlm9, tlm50, tl2147483647]; omega)) (by first | omega | assumption | (try simp only [tl0, tl1, tl2, tl3, tl4, tl5, tl6, tl8, tl9, tl10, tl50, tl81, tl100, tl1000, tl9999, tlm1, tlm9, tlm50, tl2147483647]; omega))) (fun z19 hz19 => ?_)
      exact Ok_some trivial
    · intro h
      have c930 : z18.1.toInt ≠ 0 := i32ne h
      exact Ok_some trivial
  · intro h
    have c931 : z14.toInt ≠ 0 := i32ne h
    rw [wk15]
    show Ok ((fX8_isThrown_ (0 : Int32)).bind (fun z18 => if z18.1 = (0 : Int32) then ((fX8_layerNow i3 i6 f12 f13 i2).bind (fun z19 => some (z19, z18.2))) else (some ((0 : Int32), z18.2)))) _
    refine Ok_bind (ok_X8_isThrown_ (0 : Int32)) (fun z18 hz18 => ?_)
    try dsimp only at hz18
    try simp only [tl0, tl1, tl2, tl3, tl4, tl5, tl6, tl8, tl9, tl10, tl50, tl81, tl100, tl1000, tl9999, tlm1, tlm9, tlm50, tl2147483647] at hz18
    refine Ok_if ?_ ?_
    · intro h
      have c932 : z18.1.toInt = 0 := i32eq h
      refine Ok_bind (ok_X8_layerNow i3 i6 f12 f13 i2 (by first | omega | assumption | (try simp only [tl0, tl1, tl2, tl3, tl4, tl5, tl6, tl8, tl9, tl10, tl50, tl81, tl100, tl1000, tl9999, tlm1, tlm9, tlm50, tl2147483647]; omega)) (by first | omega | assumption | (try simp only [tl0, tl1, tl2, tl3, tl4, tl5, tl6, tl8, tl9, tl10, tl50, tl81, tl100, tl1000, tl9999, tlm1, tlm9, tlm50, tl2147483647]; omega))) (fun z19 hz19 => ?_)
      exact Ok_some trivial
    · intro h
      have c933 : z18.1.toInt ≠ 0 := i32ne h
      exact Ok_some trivial
set_option maxRecDepth 4000 in
theorem ok_X8_through_ (i3 : Int32) (i6 : Int32) (i7 : Int32) (f12 : Nat → Int32) (i2 : Int32) (h0 : 2 ≤ i3.toInt ∧ i3.toInt ≤ 9) (h1 : 0 ≤ i6.toInt ∧ i6.toInt ≤ 8) (h2 : 0 ≤ i7.toInt ∧ i7.toInt ≤ 8) : Ok (fX8_through_ i3 i6 i7 f12 i2) (fun z => True) := by
  unfold fX8_through_
  refine Ok_bind (ok_X8_isSet i3 i2 (by first | omega | assumption | (try simp only [tl0, tl1, tl2, tl3, tl4, tl5, tl6, tl8, tl9, tl10, tl50, tl81, tl100, tl1000, tl9999, tlm1, tlm9, tlm50, tl2147483647]; omega))) (fun z13 hz13 => ?_)
  refine Ok_jn (fun k14 wk14 => ?_)
  refine Ok_if ?_ ?_
  · intro h
    have c934 : z13.toInt = 0 := i32eq h
    rw [wk14]
    show Ok ((fX8_isThrown_ (1 : Int32)).bind (fun z17 => if z17.1 = (0 : Int32) then ((fX8_isCut i2 i6 i7).bind (fun z18 => if z18 = (0 : Int32) then (some ((-9 : Int32), z17.2)) else ((fX8_through i3 f12 i2).bind (fun z19 => some (z19, z17.2))))) else (some ((0 : Int32), z17.2)))) _
    refine Ok_bind (ok_X8_isThrown_ (1 : Int32)) (fun z17 hz17 => ?_)
    try dsimp only at hz17
    try simp only [tl0, tl1, tl2, tl3, tl4, tl5, tl6, tl8, tl9, tl10, tl50, tl81, tl100, tl1000, tl9999, tlm1, tlm9, tlm50, tl2147483647] at hz17
    refine Ok_if ?_ ?_
    · intro h
      have c935 : z17.1.toInt = 0 := i32eq h
      refine Ok_bind (ok_X8_isCut i2 i6 i7) (fun z18 hz18 => ?_)
      refine Ok_if ?_ ?_
      · intro h
        have c936 : z18.toInt = 0 := i32eq h
        exact Ok_some trivial
      · intro h
        have c937 : z18.toInt ≠ 0 := i32ne h
        refine Ok_bind (ok_X8_through i3 f12 i2 (by first | omega | assumption | (try simp only [tl0, tl1, tl2, tl3, tl4, tl5, tl6, tl8, tl9, tl10, tl50, tl81, tl100, tl1000, tl9999, tlm1, tlm9, tlm50, tl2147483647]; omega))) (fun z19 hz19 => ?_)
        exact Ok_some trivial
    · intro h
      have c938 : z17.1.toInt ≠ 0 := i32ne h
      exact Ok_some trivial
  · intro h
    have c939 : z13.toInt ≠ 0 := i32ne h
    rw [wk14]
    show Ok ((fX8_isThrown_ (0 : Int32)).bind (fun z17 => if z17.1 = (0 : Int32) then ((fX8_isCut i2 i6 i7).bind (fun z18 => if z18 = (0 : Int32) then (some ((-9 : Int32), z17.2)) else ((fX8_through i3 f12 i2).bind (fun z19 => some (z19, z17.2))))) else (some ((0 : Int32), z17.2)))) _
    refine Ok_bind (ok_X8_isThrown_ (0 : Int32)) (fun z17 hz17 => ?_)
    try dsimp only at hz17
    try simp only [tl0, tl1, tl2, tl3, tl4, tl5, tl6, tl8, tl9, tl10, tl50, tl81, tl100, tl1000, tl9999, tlm1, tlm9, tlm50, tl2147483647] at hz17
    refine Ok_if ?_ ?_
    · intro h
      have c940 : z17.1.toInt = 0 := i32eq h
      refine Ok_bind (ok_X8_isCut i2 i6 i7) (fun z18 hz18 => ?_)
      refine Ok_if ?_ ?_
      · intro h
        have c941 : z18.toInt = 0 := i32eq h
        exact Ok_some trivial
      · intro h
        have c942 : z18.toInt ≠ 0 := i32ne h
        refine Ok_bind (ok_X8_through i3 f12 i2 (by first | omega | assumption | (try simp only [tl0, tl1, tl2, tl3, tl4, tl5, tl6, tl8, tl9, tl10, tl50, tl81, tl100, tl1000, tl9999, tlm1, tlm9, tlm50, tl2147483647]; omega))) (fun z19 hz19 => ?_)
        exact Ok_some trivial
    · intro h
      have c943 : z17.1.toInt ≠ 0 := i32ne h
      exact Ok_some trivial
set_option maxRecDepth 4000 in
theorem ok_X8_would (i5 : Int32) (i8 : Int32) (i9 : Int32) (f14 : Nat → Int32) (i2 : Int32) (i3 : Int32) (i4 : Int32) (h0 : 2 ≤ i5.toInt ∧ i5.toInt ≤ 9) (h1 : 0 ≤ i8.toInt ∧ i8.toInt ≤ 8) (h2 : 0 ≤ i9.toInt ∧ i9.toInt ≤ 8) : Ok (fX8_would i5 i8 i9 f14 i2 i3 i4) (fun z => True) := by
  unfold fX8_would
  refine Ok_bind (ok_X8_isPlace i5 i2 (by first | omega | assumption | (try simp only [tl0, tl1, tl2, tl3, tl4, tl5, tl6, tl8, tl9, tl10, tl50, tl81, tl100, tl1000, tl9999, tlm1, tlm9, tlm50, tl2147483647]; omega))) (fun z15 hz15 => ?_)
  try dsimp only at hz15
  try simp only [tl0, tl1, tl2, tl3, tl4, tl5, tl6, tl8, tl9, tl10, tl50, tl81, tl100, tl1000, tl9999, tlm1, tlm9, tlm50, tl2147483647] at hz15
  refine Ok_jn (fun k16 wk16 => ?_)
  refine Ok_jn (fun k18 wk18 => ?_)
  refine Ok_if ?_ ?_
  · intro h
    have c944 : z15.toInt = 0 := i32eq h
    rw [wk18]
    show Ok (k16 (1 : Int32)) _
    rw [wk16]
    show Ok (jn (fun (i26 : Int32) => (fX8_isThrown (1 : Int32) i26).bind (fun z27 => if z27.1 = (0 : Int32) then ((fX8_room f14 i2 i3).bind (fun z28 => if (0 : Int32) ≤ (z28 + i4) then (inB ((i2 * (9 : Int32)) + i3) 81 (inB ((i2 * (9 : Int32)) + i3) 81 ((fX8_leastNow i5 i8 i9 (upd f14 ((i2 * (9 : Int32)) + i3).toNatClampNeg ((f14 ((i2 * (9 : Int32)) + i3).toNatClampNeg) + i4))).bind (fun z29 => inB ((i2 * (9 : Int32)) + i3) 81 (inB ((i2 * (9 : Int32)) + i3) 81 (some (z29, z27.2, upd (upd f14 ((i2 * (9 : Int32)) + i3).toNatClampNeg ((f14 ((i2 * (9 : Int32)) + i3).toNatClampNeg) + i4)) ((i2 * (9 : Int32)) + i3).toNatClampNeg (((upd f14 ((i2 * (9 : Int32)) + i3).toNatClampNeg ((f14 ((i2 * (9 : Int32)) + i3).toNatClampNeg) + i4)) ((i2 * (9 : Int32)) + i3).toNatClampNeg) - i4)))))))) else (some ((-9 : Int32), z27.2, f14)))) else (some ((0 : Int32), z27.2, f14)))) (fun (k22 : Int32 → Option (Int32 × Int32 × (Nat → Int32))) => jn (fun (_ : Unit) => k22 (1 : Int32)) (fun (k24 : Unit → Option (Int32 × Int32 × (Nat → Int32))) => if i2 = i3 then (k24 ()) else (if i4 < (-1 : Int32) then (k24 ()) else (if i4 ≤ (1 : Int32) then (k22 (0 : Int32)) else (k24 ())))))) _
    refine Ok_jn (fun k22 wk22 => ?_)
    refine Ok_jn (fun k24 wk24 => ?_)
    refine Ok_if ?_ ?_
    · intro h
      have c945 : i2.toInt = i3.toInt := i32eq h
      rw [wk24]
      show Ok (k22 (1 : Int32)) _
      rw [wk22]
      show Ok ((fX8_isThrown (1 : Int32) (1 : Int32)).bind (fun z27 => if z27.1 = (0 : Int32) then ((fX8_room f14 i2 i3).bind (fun z28 => if (0 : Int32) ≤ (z28 + i4) then (inB ((i2 * (9 : Int32)) + i3) 81 (inB ((i2 * (9 : Int32)) + i3) 81 ((fX8_leastNow i5 i8 i9 (upd f14 ((i2 * (9 : Int32)) + i3).toNatClampNeg ((f14 ((i2 * (9 : Int32)) + i3).toNatClampNeg) + i4))).bind (fun z29 => inB ((i2 * (9 : Int32)) + i3) 81 (inB ((i2 * (9 : Int32)) + i3) 81 (some (z29, z27.2, upd (upd f14 ((i2 * (9 : Int32)) + i3).toNatClampNeg ((f14 ((i2 * (9 : Int32)) + i3).toNatClampNeg) + i4)) ((i2 * (9 : Int32)) + i3).toNatClampNeg (((upd f14 ((i2 * (9 : Int32)) + i3).toNatClampNeg ((f14 ((i2 * (9 : Int32)) + i3).toNatClampNeg) + i4)) ((i2 * (9 : Int32)) + i3).toNatClampNeg) - i4)))))))) else (some ((-9 : Int32), z27.2, f14)))) else (some ((0 : Int32), z27.2, f14)))) _
      refine Ok_bind (ok_X8_isThrown (1 : Int32) (1 : Int32)) (fun z27 hz27 => ?_)
      try dsimp only at hz27
      try simp only [tl0, tl1, tl2, tl3, tl4, tl5, tl6, tl8, tl9, tl10, tl50, tl81, tl100, tl1000, tl9999, tlm1, tlm9, tlm50, tl2147483647] at hz27
      refine Ok_if ?_ ?_
      · intro h
        have c946 : z27.1.toInt = 0 := i32eq h
        refine Ok_bind (ok_X8_room f14 i2 i3 (by first | omega | assumption | (try simp only [tl0, tl1, tl2, tl3, tl4, tl5, tl6, tl8, tl9, tl10, tl50, tl81, tl100, tl1000, tl9999, tlm1, tlm9, tlm50, tl2147483647]; omega)) (by first | omega | assumption | (try simp only [tl0, tl1, tl2, tl3, tl4, tl5, tl6, tl8, tl9, tl10, tl50, tl81, tl100, tl1000, tl9999, tlm1, tlm9, tlm50, tl2147483647]; omega)) (by first | omega | assumption | (try simp only [tl0, tl1, tl2, tl3, tl4, tl5, tl6, tl8, tl9, tl10, tl50, tl81, tl100, tl1000, tl9999, tlm1, tlm9, tlm50, tl2147483647]; omega)) (by first | omega | assumption | (try simp only [tl0, tl1, tl2, tl3, tl4, tl5, tl6, tl8, tl9, tl10, tl50, tl81, tl100, tl1000, tl9999, tlm1, tlm9, tlm50, tl2147483647]; omega))) (fun z28 hz28 => ?_)
        refine Ok_if ?_ ?_
        · intro h
          have c947 : 0 ≤ (z28 + i4).toInt := i32le h
          try (have e948 := idx_iv (x := i2) (y := i3) (by omega) (by omega) (by omega) (by omega))
          refine Ok_inB (vp_of (by first | omega | assumption | (try simp only [tl0, tl1, tl2, tl3, tl4, tl5, tl6, tl8, tl9, tl10, tl50, tl81, tl100, tl1000, tl9999, tlm1, tlm9, tlm50, tl2147483647]; omega)) (by first | omega | assumption | (try simp only [tl0, tl1, tl2, tl3, tl4, tl5, tl6, tl8, tl9, tl10, tl50, tl81, tl100, tl1000, tl9999, tlm1, tlm9, tlm50, tl2147483647]; omega))) ?_
          refine Ok_inB (vp_of (by first | omega | assumption | (try simp only [tl0, tl1, tl2, tl3, tl4, tl5, tl6, tl8, tl9, tl10, tl50, tl81, tl100, tl1000, tl9999, tlm1, tlm9, tlm50, tl2147483647]; omega)) (by first | omega | assumption | (try simp only [tl0, tl1, tl2, tl3, tl4, tl5, tl6, tl8, tl9, tl10, tl50, tl81, tl100, tl1000, tl9999, tlm1, tlm9, tlm50, tl2147483647]; omega))) ?_
          refine Ok_bind (ok_X8_leastNow i5 i8 i9 (upd f14 ((i2 * (9 : Int32)) + i3).toNatClampNeg ((f14 ((i2 * (9 : Int32)) + i3).toNatClampNeg) + i4)) (by first | omega | assumption | (try simp only [tl0, tl1, tl2, tl3, tl4, tl5, tl6, tl8, tl9, tl10, tl50, tl81, tl100, tl1000, tl9999, tlm1, tlm9, tlm50, tl2147483647]; omega)) (by first | omega | assumption | (try simp only [tl0, tl1, tl2, tl3, tl4, tl5, tl6, tl8, tl9, tl10, tl50, tl81, tl100, tl1000, tl9999, tlm1, tlm9, tlm50, tl2147483647]; omega)) (by first | omega | assumption | (try simp only [tl0, tl1, tl2, tl3, tl4, tl5, tl6, tl8, tl9, tl10, tl50, tl81, tl100, tl1000, tl9999, tlm1, tlm9, tlm50, tl2147483647]; omega))) (fun z29 hz29 => ?_)
          refine Ok_inB (vp_of (by first | omega | assumption | (try simp only [tl0, tl1, tl2, tl3, tl4, tl5, tl6, tl8, tl9, tl10, tl50, tl81, tl100, tl1000, tl9999, tlm1, tlm9, tlm50, tl2147483647]; omega)) (by first | omega | assumption | (try simp only [tl0, tl1, tl2, tl3, tl4, tl5, tl6, tl8, tl9, tl10, tl50, tl81, tl100, tl1000, tl9999, tlm1, tlm9, tlm50, tl2147483647]; omega))) ?_
          refine Ok_inB (vp_of (by first | omega | assumption | (try simp only [tl0, tl1, tl2, tl3, tl4, tl5, tl6, tl8, tl9, tl10, tl50, tl81, tl100, tl1000, tl9999, tlm1, tlm9, tlm50, tl2147483647]; omega)) (by first | omega | assumption | (try simp only [tl0, tl1, tl2, tl3, tl4, tl5, tl6, tl8, tl9, tl10, tl50, tl81, tl100, tl1000, tl9999, tlm1, tlm9, tlm50, tl2147483647]; omega))) ?_
          exact Ok_some trivial
        · intro h
          have c949 : (z28 + i4).toInt < 0 := i32nle h
          exact Ok_some trivial
      · intro h
        have c950 : z27.1.toInt ≠ 0 := i32ne h
        exact Ok_some trivial
    · intro h
      have c951 : i2.toInt ≠ i3.toInt := i32ne h
      refine Ok_if ?_ ?_
      · intro h
        have c952 : i4.toInt < (-1) := i32lt h
        rw [wk24]
        show Ok (k22 (1 : Int32)) _
        rw [wk22]
        show Ok ((fX8_isThrown (1 : Int32) (1 : Int32)).bind (fun z27 => if z27.1 = (0 : Int32) then ((fX8_room f14 i2 i3).bind (fun z28 => if (0 : Int32) ≤ (z28 + i4) then (inB ((i2 * (9 : Int32)) + i3) 81 (inB ((i2 * (9 : Int32)) + i3) 81 ((fX8_leastNow i5 i8 i9 (upd f14 ((i2 * (9 : Int32)) + i3).toNatClampNeg ((f14 ((i2 * (9 : Int32)) + i3).toNatClampNeg) + i4))).bind (fun z29 => inB ((i2 * (9 : Int32)) + i3) 81 (inB ((i2 * (9 : Int32)) + i3) 81 (some (z29, z27.2, upd (upd f14 ((i2 * (9 : Int32)) + i3).toNatClampNeg ((f14 ((i2 * (9 : Int32)) + i3).toNatClampNeg) + i4)) ((i2 * (9 : Int32)) + i3).toNatClampNeg (((upd f14 ((i2 * (9 : Int32)) + i3).toNatClampNeg ((f14 ((i2 * (9 : Int32)) + i3).toNatClampNeg) + i4)) ((i2 * (9 : Int32)) + i3).toNatClampNeg) - i4)))))))) else (some ((-9 : Int32), z27.2, f14)))) else (some ((0 : Int32), z27.2, f14)))) _
        refine Ok_bind (ok_X8_isThrown (1 : Int32) (1 : Int32)) (fun z27 hz27 => ?_)
        try dsimp only at hz27
        try simp only [tl0, tl1, tl2, tl3, tl4, tl5, tl6, tl8, tl9, tl10, tl50, tl81, tl100, tl1000, tl9999, tlm1, tlm9, tlm50, tl2147483647] at hz27
        refine Ok_if ?_ ?_
        · intro h
          have c953 : z27.1.toInt = 0 := i32eq h
          refine Ok_bind (ok_X8_room f14 i2 i3 (by first | omega | assumption | (try simp only [tl0, tl1, tl2, tl3, tl4, tl5, tl6, tl8, tl9, tl10, tl50, tl81, tl100, tl1000, tl9999, tlm1, tlm9, tlm50, tl2147483647]; omega)) (by first | omega | assumption | (try simp only [tl0, tl1, tl2, tl3, tl4, tl5, tl6, tl8, tl9, tl10, tl50, tl81, tl100, tl1000, tl9999, tlm1, tlm9, tlm50, tl2147483647]; omega)) (by first | omega | assumption | (try simp only [tl0, tl1, tl2, tl3, tl4, tl5, tl6, tl8, tl9, tl10, tl50, tl81, tl100, tl1000, tl9999, tlm1, tlm9, tlm50, tl2147483647]; omega)) (by first | omega | assumption | (try simp only [tl0, tl1, tl2, tl3, tl4, tl5, tl6, tl8, tl9, tl10, tl50, tl81, tl100, tl1000, tl9999, tlm1, tlm9, tlm50, tl2147483647]; omega))) (fun z28 hz28 => ?_)
          refine Ok_if ?_ ?_
          · intro h
            have c954 : 0 ≤ (z28 + i4).toInt := i32le h
            try (have e955 := idx_iv (x := i2) (y := i3) (by omega) (by omega) (by omega) (by omega))
            refine Ok_inB (vp_of (by first | omega | assumption | (try simp only [tl0, tl1, tl2, tl3, tl4, tl5, tl6, tl8, tl9, tl10, tl50, tl81, tl100, tl1000, tl9999, tlm1, tlm9, tlm50, tl2147483647]; omega)) (by first | omega | assumption | (try simp only [tl0, tl1, tl2, tl3, tl4, tl5, tl6, tl8, tl9, tl10, tl50, tl81, tl100, tl1000, tl9999, tlm1, tlm9, tlm50, tl2147483647]; omega))) ?_
            refine Ok_inB (vp_of (by first | omega | assumption | (try simp only [tl0, tl1, tl2, tl3, tl4, tl5, tl6, tl8, tl9, tl10, tl50, tl81, tl100, tl1000, tl9999, tlm1, tlm9, tlm50, tl2147483647]; omega)) (by first | omega | assumption | (try simp only [tl0, tl1, tl2, tl3, tl4, tl5, tl6, tl8, tl9, tl10, tl50, tl81, tl100, tl1000, tl9999, tlm1, tlm9, tlm50, tl2147483647]; omega))) ?_
            refine Ok_bind (ok_X8_leastNow i5 i8 i9 (upd f14 ((i2 * (9 : Int32)) + i3).toNatClampNeg ((f14 ((i2 * (9 : Int32)) + i3).toNatClampNeg) + i4)) (by first | omega | assumption | (try simp only [tl0, tl1, tl2, tl3, tl4, tl5, tl6, tl8, tl9, tl10, tl50, tl81, tl100, tl1000, tl9999, tlm1, tlm9, tlm50, tl2147483647]; omega)) (by first | omega | assumption | (try simp only [tl0, tl1, tl2, tl3, tl4, tl5, tl6, tl8, tl9, tl10, tl50, tl81, tl100, tl1000, tl9999, tlm1, tlm9, tlm50, tl2147483647]; omega)) (by first | omega | assumption | (try simp only [tl0, tl1, tl2, tl3, tl4, tl5, tl6, tl8, tl9, tl10, tl50, tl81, tl100, tl1000, tl9999, tlm1, tlm9, tlm50, tl2147483647]; omega))) (fun z29 hz29 => ?_)
            refine Ok_inB (vp_of (by first | omega | assumption | (try simp only [tl0, tl1, tl2, tl3, tl4, tl5, tl6, tl8, tl9, tl10, tl50, tl81, tl100, tl1000, tl9999, tlm1, tlm9, tlm50, tl2147483647]; omega)) (by first | omega | assumption | (try simp only [tl0, tl1, tl2, tl3, tl4, tl5, tl6, tl8, tl9, tl10, tl50, tl81, tl100, tl1000, tl9999, tlm1, tlm9, tlm50, tl2147483647]; omega))) ?_
            refine Ok_inB (vp_of (by first | omega | assumption | (try simp only [tl0, tl1, tl2, tl3, tl4, tl5, tl6, tl8, tl9, tl10, tl50, tl81, tl100, tl1000, tl9999, tlm1, tlm9, tlm50, tl2147483647]; omega)) (by first | omega | assumption | (try simp only [tl0, tl1, tl2, tl3, tl4, tl5, tl6, tl8, tl9, tl10, tl50, tl81, tl100, tl1000, tl9999, tlm1, tlm9, tlm50, tl2147483647]; omega))) ?_
            exact Ok_some trivial
          · intro h
            have c956 : (z28 + i4).toInt < 0 := i32nle h
            exact Ok_some trivial
        · intro h
          have c957 : z27.1.toInt ≠ 0 := i32ne h
          exact Ok_some trivial
      · intro h
        have c958 : (-1) ≤ i4.toInt := i32nlt h
        refine Ok_if ?_ ?_
        · intro h
          have c959 : i4.toInt ≤ 1 := i32le h
          rw [wk22]
          show Ok ((fX8_isThrown (1 : Int32) (0 : Int32)).bind (fun z27 => if z27.1 = (0 : Int32) then ((fX8_room f14 i2 i3).bind (fun z28 => if (0 : Int32) ≤ (z28 + i4) then (inB ((i2 * (9 : Int32)) + i3) 81 (inB ((i2 * (9 : Int32)) + i3) 81 ((fX8_leastNow i5 i8 i9 (upd f14 ((i2 * (9 : Int32)) + i3).toNatClampNeg ((f14 ((i2 * (9 : Int32)) + i3).toNatClampNeg) + i4))).bind (fun z29 => inB ((i2 * (9 : Int32)) + i3) 81 (inB ((i2 * (9 : Int32)) + i3) 81 (some (z29, z27.2, upd (upd f14 ((i2 * (9 : Int32)) + i3).toNatClampNeg ((f14 ((i2 * (9 : Int32)) + i3).toNatClampNeg) + i4)) ((i2 * (9 : Int32)) + i3).toNatClampNeg (((upd f14 ((i2 * (9 : Int32)) + i3).toNatClampNeg ((f14 ((i2 * (9 : Int32)) + i3).toNatClampNeg) + i4)) ((i2 * (9 : Int32)) + i3).toNatClampNeg) - i4)))))))) else (some ((-9 : Int32), z27.2, f14)))) else (some ((0 : Int32), z27.2, f14)))) _
          refine Ok_bind (ok_X8_isThrown (1 : Int32) (0 : Int32)) (fun z27 hz27 => ?_)
          try dsimp only at hz27
          try simp only [tl0, tl1, tl2, tl3, tl4, tl5, tl6, tl8, tl9, tl10, tl50, tl81, tl100, tl1000, tl9999, tlm1, tlm9, tlm50, tl2147483647] at hz27
          refine Ok_if ?_ ?_
          · intro h
            have c960 : z27.1.toInt = 0 := i32eq h
            refine Ok_bind (ok_X8_room f14 i2 i3 (by first | omega | assumption | (try simp only [tl0, tl1, tl2, tl3, tl4, tl5, tl6, tl8, tl9, tl10, tl50, tl81, tl100, tl1000, tl9999, tlm1, tlm9, tlm50, tl2147483647]; omega)) (by first | omega | assumption | (try simp only [tl0, tl1, tl2, tl3, tl4, tl5, tl6, tl8, tl9, tl10, tl50, tl81, tl100, tl1000, tl9999, tlm1, tlm9, tlm50, tl2147483647]; omega)) (by first | omega | assumption | (try simp only [tl0, tl1, tl2, tl3, tl4, tl5, tl6, tl8, tl9, tl10, tl50, tl81, tl100, tl1000, tl9999, tlm1, tlm9, tlm50, tl2147483647]; omega)) (by first | omega | assumption | (try simp only [tl0, tl1, tl2, tl3, tl4, tl5, tl6, tl8, tl9, tl10, tl50, tl81, tl100, tl1000, tl9999, tlm1, tlm9, tlm50, tl2147483647]; omega))) (fun z28 hz28 => ?_)
            refine Ok_if ?_ ?_
            · intro h
              have c961 : 0 ≤ (z28 + i4).toInt := i32le h
              try (have e962 := idx_iv (x := i2) (y := i3) (by omega) (by omega) (by omega) (by omega))
              refine Ok_inB (vp_of (by first | omega | assumption | (try simp only [tl0, tl1, tl2, tl3, tl4, tl5, tl6, tl8, tl9, tl10, tl50, tl81, tl100, tl1000, tl9999, tlm1, tlm9, tlm50, tl2147483647]; omega)) (by first | omega | assumption | (try simp only [tl0, tl1, tl2, tl3, tl4, tl5, tl6, tl8, tl9, tl10, tl50, tl81, tl100, tl1000, tl9999, tlm1, tlm9, tlm50, tl2147483647]; omega))) ?_
              refine Ok_inB (vp_of (by first | omega | assumption | (try simp only [tl0, tl1, tl2, tl3, tl4, tl5, tl6, tl8, tl9, tl10, tl50, tl81, tl100, tl1000, tl9999, tlm1, tlm9, tlm50, tl2147483647]; omega)) (by first | omega | assumption | (try simp only [tl0, tl1, tl2, tl3, tl4, tl5, tl6, tl8, tl9, tl10, tl50, tl81, tl100, tl1000, tl9999, tlm1, tlm9, tlm50, tl2147483647]; omega))) ?_
              refine Ok_bind (ok_X8_leastNow i5 i8 i9 (upd f14 ((i2 * (9 : Int32)) + i3).toNatClampNeg ((f14 ((i2 * (9 : Int32)) + i3).toNatClampNeg) + i4)) (by first | omega | assumption | (try simp only [tl0, tl1, tl2, tl3, tl4, tl5, tl6, tl8, tl9, tl10, tl50, tl81, tl100, tl1000, tl9999, tlm1, tlm9, tlm50, tl2147483647]; omega)) (by first | omega | assumption | (try simp only [tl0, tl1, tl2, tl3, tl4, tl5, tl6, tl8, tl9, tl10, tl50, tl81, tl100, tl1000, tl9999, tlm1, tlm9, tlm50, tl2147483647]; omega)) (by first | omega | assumption | (try simp only [tl0, tl1, tl2, tl3, tl4, tl5, tl6, tl8, tl9, tl10, tl50, tl81, tl100, tl1000, tl9999, tlm1, tlm9, tlm50, tl2147483647]; omega))) (fun z29 hz29 => ?_)
              refine Ok_inB (vp_of (by first | omega | assumption | (try simp only [tl0, tl1, tl2, tl3, tl4, tl5, tl6, tl8, tl9, tl10, tl50, tl81, tl100, tl1000, tl9999, tlm1, tlm9, tlm50, tl2147483647]; omega)) (by first | omega | assumption | (try simp only [tl0, tl1, tl2, tl3, tl4, tl5, tl6, tl8, tl9, tl10, tl50, tl81, tl100, tl1000, tl9999, tlm1, tlm9, tlm50, tl2147483647]; omega))) ?_
              refine Ok_inB (vp_of (by first | omega | assumption | (try simp only [tl0, tl1, tl2, tl3, tl4, tl5, tl6, tl8, tl9, tl10, tl50, tl81, tl100, tl1000, tl9999, tlm1, tlm9, tlm50, tl2147483647]; omega)) (by first | omega | assumption | (try simp only [tl0, tl1, tl2, tl3, tl4, tl5, tl6, tl8, tl9, tl10, tl50, tl81, tl100, tl1000, tl9999, tlm1, tlm9, tlm50, tl2147483647]; omega))) ?_
              exact Ok_some trivial
            · intro h
              have c963 : (z28 + i4).toInt < 0 := i32nle h
              exact Ok_some trivial
          · intro h
            have c964 : z27.1.toInt ≠ 0 := i32ne h
            exact Ok_some trivial
        · intro h
          have c965 : 1 < i4.toInt := i32nle h
          rw [wk24]
          show Ok (k22 (1 : Int32)) _
          rw [wk22]
          show Ok ((fX8_isThrown (1 : Int32) (1 : Int32)).bind (fun z27 => if z27.1 = (0 : Int32) then ((fX8_room f14 i2 i3).bind (fun z28 => if (0 : Int32) ≤ (z28 + i4) then (inB ((i2 * (9 : Int32)) + i3) 81 (inB ((i2 * (9 : Int32)) + i3) 81 ((fX8_leastNow i5 i8 i9 (upd f14 ((i2 * (9 : Int32)) + i3).toNatClampNeg ((f14 ((i2 * (9 : Int32)) + i3).toNatClampNeg) + i4))).bind (fun z29 => inB ((i2 * (9 : Int32)) + i3) 81 (inB ((i2 * (9 : Int32)) + i3) 81 (some (z29, z27.2, upd (upd f14 ((i2 * (9 : Int32)) + i3).toNatClampNeg ((f14 ((i2 * (9 : Int32)) + i3).toNatClampNeg) + i4)) ((i2 * (9 : Int32)) + i3).toNatClampNeg (((upd f14 ((i2 * (9 : Int32)) + i3).toNatClampNeg ((f14 ((i2 * (9 : Int32)) + i3).toNatClampNeg) + i4)) ((i2 * (9 : Int32)) + i3).toNatClampNeg) - i4)))))))) else (some ((-9 : Int32), z27.2, f14)))) else (some ((0 : Int32), z27.2, f14)))) _
          refine Ok_bind (ok_X8_isThrown (1 : Int32) (1 : Int32)) (fun z27 hz27 => ?_)
          try dsimp only at hz27
          try simp only [tl0, tl1, tl2, tl3, tl4, tl5, tl6, tl8, tl9, tl10, tl50, tl81, tl100, tl1000, tl9999, tlm1, tlm9, tlm50, tl2147483647] at hz27
          refine Ok_if ?_ ?_
          · intro h
            have c966 : z27.1.toInt = 0 := i32eq h
            refine Ok_bind (ok_X8_room f14 i2 i3 (by first | omega | assumption | (try simp only [tl0, tl1, tl2, tl3, tl4, tl5, tl6, tl8, tl9, tl10, tl50, tl81, tl100, tl1000, tl9999, tlm1, tlm9, tlm50, tl2147483647]; omega)) (by first | omega | assumption | (try simp only [tl0, tl1, tl2, tl3, tl4, tl5, tl6, tl8, tl9, tl10, tl50, tl81, tl100, tl1000, tl9999, tlm1, tlm9, tlm50, tl2147483647]; omega)) (by first | omega | assumption | (try simp only [tl0, tl1, tl2, tl3, tl4, tl5, tl6, tl8, tl9, tl10, tl50, tl81, tl100, tl1000, tl9999, tlm1, tlm9, tlm50, tl2147483647]; omega)) (by first | omega | assumption | (try simp only [tl0, tl1, tl2, tl3, tl4, tl5, tl6, tl8, tl9, tl10, tl50, tl81, tl100, tl1000, tl9999, tlm1, tlm9, tlm50, tl2147483647]; omega))) (fun z28 hz28 => ?_)
            refine Ok_if ?_ ?_
            · intro h
              have c967 : 0 ≤ (z28 + i4).toInt := i32le h
              try (have e968 := idx_iv (x := i2) (y := i3) (by omega) (by omega) (by omega) (by omega))
              refine Ok_inB (vp_of (by first | omega | assumption | (try simp only [tl0, tl1, tl2, tl3, tl4, tl5, tl6, tl8, tl9, tl10, tl50, tl81, tl100, tl1000, tl9999, tlm1, tlm9, tlm50, tl2147483647]; omega)) (by first | omega | assumption | (try simp only [tl0, tl1, tl2, tl3, tl4, tl5, tl6, tl8, tl9, tl10, tl50, tl81, tl100, tl1000, tl9999, tlm1, tlm9, tlm50, tl2147483647]; omega))) ?_
              refine Ok_inB (vp_of (by first | omega | assumption | (try simp only [tl0, tl1, tl2, tl3, tl4, tl5, tl6, tl8, tl9, tl10, tl50, tl81, tl100, tl1000, tl9999, tlm1, tlm9, tlm50, tl2147483647]; omega)) (by first | omega | assumption | (try simp only [tl0, tl1, tl2, tl3, tl4, tl5, tl6, tl8, tl9, tl10, tl50, tl81, tl100, tl1000, tl9999, tlm1, tlm9, tlm50, tl2147483647]; omega))) ?_
              refine Ok_bind (ok_X8_leastNow i5 i8 i9 (upd f14 ((i2 * (9 : Int32)) + i3).toNatClampNeg ((f14 ((i2 * (9 : Int32)) + i3).toNatClampNeg) + i4)) (by first | omega | assumption | (try simp only [tl0, tl1, tl2, tl3, tl4, tl5, tl6, tl8, tl9, tl10, tl50, tl81, tl100, tl1000, tl9999, tlm1, tlm9, tlm50, tl2147483647]; omega)) (by first | omega | assumption | (try simp only [tl0, tl1, tl2, tl3, tl4, tl5, tl6, tl8, tl9, tl10, tl50, tl81, tl100, tl1000, tl9999, tlm1, tlm9, tlm50, tl2147483647]; omega)) (by first | omega | assumption | (try simp only [tl0, tl1, tl2, tl3, tl4, tl5, tl6, tl8, tl9, tl10, tl50, tl81, tl100, tl1000, tl9999, tlm1, tlm9, tlm50, tl2147483647]; omega))) (fun z29 hz29 => ?_)
              refine Ok_inB (vp_of (by first | omega | assumption | (try simp only [tl0, tl1, tl2, tl3, tl4, tl5, tl6, tl8, tl9, tl10, tl50, tl81, tl100, tl1000, tl9999, tlm1, tlm9, tlm50, tl2147483647]; omega)) (by first | omega | assumption | (try simp only [tl0, tl1, tl2, tl3, tl4, tl5, tl6, tl8, tl9, tl10, tl50, tl81, tl100, tl1000, tl9999, tlm1, tlm9, tlm50, tl2147483647]; omega))) ?_
              refine Ok_inB (vp_of (by first | omega | assumption | (try simp only [tl0, tl1, tl2, tl3, tl4, tl5, tl6, tl8, tl9, tl10, tl50, tl81, tl100, tl1000, tl9999, tlm1, tlm9, tlm50, tl2147483647]; omega)) (by first | omega | assumption | (try simp only [tl0, tl1, tl2, tl3, tl4, tl5, tl6, tl8, tl9, tl10, tl50, tl81, tl100, tl1000, tl9999, tlm1, tlm9, tlm50, tl2147483647]; omega))) ?_
              exact Ok_some trivial
            · intro h
              have c969 : (z28 + i4).toInt < 0 := i32nle h
              exact Ok_some trivial
          · intro h
            have c970 : z27.1.toInt ≠ 0 := i32ne h
            exact Ok_some trivial
  · intro h
    have c971 : z15.toInt ≠ 0 := i32ne h
    refine Ok_bind (ok_X8_isPlace i5 i3 (by first | omega | assumption | (try simp only [tl0, tl1, tl2, tl3, tl4, tl5, tl6, tl8, tl9, tl10, tl50, tl81, tl100, tl1000, tl9999, tlm1, tlm9, tlm50, tl2147483647]; omega))) (fun z20 hz20 => ?_)
    try dsimp only at hz20
    try simp only [tl0, tl1, tl2, tl3, tl4, tl5, tl6, tl8, tl9, tl10, tl50, tl81, tl100, tl1000, tl9999, tlm1, tlm9, tlm50, tl2147483647] at hz20
    refine Ok_if ?_ ?_
    · intro h
      have c972 : z20.toInt = 0 := i32eq h
      rw [wk18]
      show Ok (k16 (1 : Int32)) _
      rw [wk16]
      show Ok (jn (fun (i26 : Int32) => (fX8_isThrown (1 : Int32) i26).bind (fun z27 => if z27.1 = (0 : Int32) then ((fX8_room f14 i2 i3).bind (fun z28 => if (0 : Int32) ≤ (z28 + i4) then (inB ((i2 * (9 : Int32)) + i3) 81 (inB ((i2 * (9 : Int32)) + i3) 81 ((fX8_leastNow i5 i8 i9 (upd f14 ((i2 * (9 : Int32)) + i3).toNatClampNeg ((f14 ((i2 * (9 : Int32)) + i3).toNatClampNeg) + i4))).bind (fun z29 => inB ((i2 * (9 : Int32)) + i3) 81 (inB ((i2 * (9 : Int32)) + i3) 81 (some (z29, z27.2, upd (upd f14 ((i2 * (9 : Int32)) + i3).toNatClampNeg ((f14 ((i2 * (9 : Int32)) + i3).toNatClampNeg) + i4)) ((i2 * (9 : Int32)) + i3).toNatClampNeg (((upd f14 ((i2 * (9 : Int32)) + i3).toNatClampNeg ((f14 ((i2 * (9 : Int32)) + i3).toNatClampNeg) + i4)) ((i2 * (9 : Int32)) + i3).toNatClampNeg) - i4)))))))) else (some ((-9 : Int32), z27.2, f14)))) else (some ((0 : Int32), z27.2, f14)))) (fun (k22 : Int32 → Option (Int32 × Int32 × (Nat → Int32))) => jn (fun (_ : Unit) => k22 (1 : Int32)) (fun (k24 : Unit → Option (Int32 × Int32 × (Nat → Int32))) => if i2 = i3 then (k24 ()) else (if i4 < (-1 : Int32) then (k24 ()) else (if i4 ≤ (1 : Int32) then (k22 (0 : Int32)) else (k24 ())))))) _
      refine Ok_jn (fun k22 wk22 => ?_)
      refine Ok_jn (fun k24 wk24 => ?_)
      refine Ok_if ?_ ?_
      · intro h
        have c973 : i2.toInt = i3.toInt := i32eq h
        rw [wk24]
        show Ok (k22 (1 : Int32)) _
        rw [wk22]
        show Ok ((fX8_isThrown (1 : Int32) (1 : Int32)).bind (fun z27 => if z27.1 = (0 : Int32) then ((fX8_room f14 i2 i3).bind (fun z28 => if (0 : Int32) ≤ (z28 + i4) then (inB ((i2 * (9 : Int32)) + i3) 81 (inB ((i2 * (9 : Int32)) + i3) 81 ((fX8_leastNow i5 i8 i9 (upd f14 ((i2 * (9 : Int32)) + i3).toNatClampNeg ((f14 ((i2 * (9 : Int32)) + i3).toNatClampNeg) + i4))).bind (fun z29 => inB ((i2 * (9 : Int32)) + i3) 81 (inB ((i2 * (9 : Int32)) + i3) 81 (some (z29, z27.2, upd (upd f14 ((i2 * (9 : Int32)) + i3).toNatClampNeg ((f14 ((i2 * (9 : Int32)) + i3).toNatClampNeg) + i4)) ((i2 * (9 : Int32)) + i3).toNatClampNeg (((upd f14 ((i2 * (9 : Int32)) + i3).toNatClampNeg ((f14 ((i2 * (9 : Int32)) + i3).toNatClampNeg) + i4)) ((i2 * (9 : Int32)) + i3).toNatClampNeg) - i4)))))))) else (some ((-9 : Int32), z27.2, f14)))) else (some ((0 : Int32), z27.2, f14)))) _
        refine Ok_bind (ok_X8_isThrown (1 : Int32) (1 : Int32)) (fun z27 hz27 => ?_)
        try dsimp only at hz27
        try simp only [tl0, tl1, tl2, tl3, tl4, tl5, tl6, tl8, tl9, tl10, tl50, tl81, tl100, tl1000, tl9999, tlm1, tlm9, tlm50, tl2147483647] at hz27
        refine Ok_if ?_ ?_
        · intro h
          have c974 : z27.1.toInt = 0 := i32eq h
          refine Ok_bind (ok_X8_room f14 i2 i3 (by first | omega | assumption | (try simp only [tl0, tl1, tl2, tl3, tl4, tl5, tl6, tl8, tl9, tl10, tl50, tl81, tl100, tl1000, tl9999, tlm1, tlm9, tlm50, tl2147483647]; omega)) (by first | omega | assumption | (try simp only [tl0, tl1, tl2, tl3, tl4, tl5, tl6, tl8, tl9, tl10, tl50, tl81, tl100, tl1000, tl9999, tlm1, tlm9, tlm50, tl2147483647]; omega)) (by first | omega | assumption | (try simp only [tl0, tl1, tl2, tl3, tl4, tl5, tl6, tl8, tl9, tl10, tl50, tl81, tl100, tl1000, tl9999, tlm1, tlm9, tlm50, tl2147483647]; omega)) (by first | omega | assumption | (try simp only [tl0, tl1, tl2, tl3, tl4, tl5, tl6, tl8, tl9, tl10, tl50, tl81, tl100, tl1000, tl9999, tlm1, tlm9, tlm50, tl2147483647]; omega))) (fun z28 hz28 => ?_)
          refine Ok_if ?_ ?_
          · intro h
            have c975 : 0 ≤ (z28 + i4).toInt := i32le h
            try (have e976 := idx_iv (x := i2) (y := i3) (by omega) (by omega) (by omega) (by omega))
            refine Ok_inB (vp_of (by first | omega | assumption | (try simp only [tl0, tl1, tl2, tl3, tl4, tl5, tl6, tl8, tl9, tl10, tl50, tl81, tl100, tl1000, tl9999, tlm1, tlm9, tlm50, tl2147483647]; omega)) (by first | omega | assumption | (try simp only [tl0, tl1, tl2, tl3, tl4, tl5, tl6, tl8, tl9, tl10, tl50, tl81, tl100, tl1000, tl9999, tlm1, tlm9, tlm50, tl2147483647]; omega))) ?_
            refine Ok_inB (vp_of (by first | omega | assumption | (try simp only [tl0, tl1, tl2, tl3, tl4, tl5, tl6, tl8, tl9, tl10, tl50, tl81, tl100, tl1000, tl9999, tlm1, tlm9, tlm50, tl2147483647]; omega)) (by first | omega | assumption | (try simp only [tl0, tl1, tl2, tl3, tl4, tl5, tl6, tl8, tl9, tl10, tl50, tl81, tl100, tl1000, tl9999, tlm1, tlm9, tlm50, tl2147483647]; omega))) ?_
            refine Ok_bind (ok_X8_leastNow i5 i8 i9 (upd f14 ((i2 * (9 : Int32)) + i3).toNatClampNeg ((f14 ((i2 * (9 : Int32)) + i3).toNatClampNeg) + i4)) (by first | omega | assumption | (try simp only [tl0, tl1, tl2, tl3, tl4, tl5, tl6, tl8, tl9, tl10, tl50, tl81, tl100, tl1000, tl9999, tlm1, tlm9, tlm50, tl2147483647]; omega)) (by first | omega | assumption | (try simp only [tl0, tl1, tl2, tl3, tl4, tl5, tl6, tl8, tl9, tl10, tl50, tl81, tl100, tl1000, tl9999, tlm1, tlm9, tlm50, tl2147483647]; omega)) (by first | omega | assumption | (try simp only [tl0, tl1, tl2, tl3, tl4, tl5, tl6, tl8, tl9, tl10, tl50, tl81, tl100, tl1000, tl9999, tlm1, tlm9, tlm50, tl2147483647]; omega))) (fun z29 hz29 => ?_)
            refine Ok_inB (vp_of (by first | omega | assumption | (try simp only [tl0, tl1, tl2, tl3, tl4, tl5, tl6, tl8, tl9, tl10, tl50, tl81, tl100, tl1000, tl9999, tlm1, tlm9, tlm50, tl2147483647]; omega)) (by first | omega | assumption | (try simp only [tl0, tl1, tl2, tl3, tl4, tl5, tl6, tl8, tl9, tl10, tl50, tl81, tl100, tl1000, tl9999, tlm1, tlm9, tlm50, tl2147483647]; omega))) ?_
            refine Ok_inB (vp_of (by first | omega | assumption | (try simp only [tl0, tl1, tl2, tl3, tl4, tl5, tl6, tl8, tl9, tl10, tl50, tl81, tl100, tl1000, tl9999, tlm1, tlm9, tlm50, tl2147483647]; omega)) (by first | omega | assumption | (try simp only [tl0, tl1, tl2, tl3, tl4, tl5, tl6, tl8, tl9, tl10, tl50, tl81, tl100, tl1000, tl9999, tlm1, tlm9, tlm50, tl2147483647]; omega))) ?_
            exact Ok_some trivial
          · intro h
            have c977 : (z28 + i4).toInt < 0 := i32nle h
            exact Ok_some trivial
        · intro h
          have c978 : z27.1.toInt ≠ 0 := i32ne h
          exact Ok_some trivial
      · intro h
        have c979 : i2.toInt ≠ i3.toInt := i32ne h
        refine Ok_if ?_ ?_
        · intro h
          have c980 : i4.toInt < (-1) := i32lt h
          rw [wk24]
          show Ok (k22 (1 : Int32)) _
          rw [wk22]
          show Ok ((fX8_isThrown (1 : Int32) (1 : Int32)).bind (fun z27 => if z27.1 = (0 : Int32) then ((fX8_room f14 i2 i3).bind (fun z28 => if (0 : Int32) ≤ (z28 + i4) then (inB ((i2 * (9 : Int32)) + i3) 81 (inB ((i2 * (9 : Int32)) + i3) 81 ((fX8_leastNow i5 i8 i9 (upd f14 ((i2 * (9 : Int32)) + i3).toNatClampNeg ((f14 ((i2 * (9 : Int32)) + i3).toNatClampNeg) + i4))).bind (fun z29 => inB ((i2 * (9 : Int32)) + i3) 81 (inB ((i2 * (9 : Int32)) + i3) 81 (some (z29, z27.2, upd (upd f14 ((i2 * (9 : Int32)) + i3).toNatClampNeg ((f14 ((i2 * (9 : Int32)) + i3).toNatClampNeg) + i4)) ((i2 * (9 : Int32)) + i3).toNatClampNeg (((upd f14 ((i2 * (9 : Int32)) + i3).toNatClampNeg ((f14 ((i2 * (9 : Int32)) + i3).toNatClampNeg) + i4)) ((i2 * (9 : Int32)) + i3).toNatClampNeg) - i4)))))))) else (some ((-9 : Int32), z27.2, f14)))) else (some ((0 : Int32), z27.2, f14)))) _
          refine Ok_bind (ok_X8_isThrown (1 : Int32) (1 : Int32)) (fun z27 hz27 => ?_)
          try dsimp only at hz27
          try simp only [tl0, tl1, tl2, tl3, tl4, tl5, tl6, tl8, tl9, tl10, tl50, tl81, tl100, tl1000, tl9999, tlm1, tlm9, tlm50, tl2147483647] at hz27
          refine Ok_if ?_ ?_
          · intro h
            have c981 : z27.1.toInt = 0 := i32eq h
            refine Ok_bind (ok_X8_room f14 i2 i3 (by first | omega | assumption | (try simp only [tl0, tl1, tl2, tl3, tl4, tl5, tl6, tl8, tl9, tl10, tl50, tl81, tl100, tl1000, tl9999, tlm1, tlm9, tlm50, tl2147483647]; omega)) (by first | omega | assumption | (try simp only [tl0, tl1, tl2, tl3, tl4, tl5, tl6, tl8, tl9, tl10, tl50, tl81, tl100, tl1000, tl9999, tlm1, tlm9, tlm50, tl2147483647]; omega)) (by first | omega | assumption | (try simp only [tl0, tl1, tl2, tl3, tl4, tl5, tl6, tl8, tl9, tl10, tl50, tl81, tl100, tl1000, tl9999, tlm1, tlm9, tlm50, tl2147483647]; omega)) (by first | omega | assumption | (try simp only [tl0, tl1, tl2, tl3, tl4, tl5, tl6, tl8, tl9, tl10, tl50, tl81, tl100, tl1000, tl9999, tlm1, tlm9, tlm50, tl2147483647]; omega))) (fun z28 hz28 => ?_)
            refine Ok_if ?_ ?_
            · intro h
              have c982 : 0 ≤ (z28 + i4).toInt := i32le h
              try (have e983 := idx_iv (x := i2) (y := i3) (by omega) (by omega) (by omega) (by omega))
              refine Ok_inB (vp_of (by first | omega | assumption | (try simp only [tl0, tl1, tl2, tl3, tl4, tl5, tl6, tl8, tl9, tl10, tl50, tl81, tl100, tl1000, tl9999, tlm1, tlm9, tlm50, tl2147483647]; omega)) (by first | omega | assumption | (try simp only [tl0, tl1, tl2, tl3, tl4, tl5, tl6, tl8, tl9, tl10, tl50, tl81, tl100, tl1000, tl9999, tlm1, tlm9, tlm50, tl2147483647]; omega))) ?_
              refine Ok_inB (vp_of (by first | omega | assumption | (try simp only [tl0, tl1, tl2, tl3, tl4, tl5, tl6, tl8, tl9, tl10, tl50, tl81, tl100, tl1000, tl9999, tlm1, tlm9, tlm50, tl2147483647]; omega)) (by first | omega | assumption | (try simp only [tl0, tl1, tl2, tl3, tl4, tl5, tl6, tl8, tl9, tl10, tl50, tl81, tl100, tl1000, tl9999, tlm1, tlm9, tlm50, tl2147483647]; omega))) ?_
              refine Ok_bind (ok_X8_leastNow i5 i8 i9 (upd f14 ((i2 * (9 : Int32)) + i3).toNatClampNeg ((f14 ((i2 * (9 : Int32)) + i3).toNatClampNeg) + i4)) (by first | omega | assumption | (try simp only [tl0, tl1, tl2, tl3, tl4, tl5, tl6, tl8, tl9, tl10, tl50, tl81, tl100, tl1000, tl9999, tlm1, tlm9, tlm50, tl2147483647]; omega)) (by first | omega | assumption | (try simp only [tl0, tl1, tl2, tl3, tl4, tl5, tl6, tl8, tl9, tl10, tl50, tl81, tl100, tl1000, tl9999, tlm1, tlm9, tlm50, tl2147483647]; omega)) (by first | omega | assumption | (try simp only [tl0, tl1, tl2, tl3, tl4, tl5, tl6, tl8, tl9, tl10, tl50, tl81, tl100, tl1000, tl9999, tlm1, tlm9, tlm50, tl2147483647]; omega))) (fun z29 hz29 => ?_)
              refine Ok_inB (vp_of (by first | omega | assumption | (try simp only [tl0, tl1, tl2, tl3, tl4, tl5, tl6, tl8, tl9, tl10, tl50, tl81, tl100, tl1000, tl9999, tlm1, tlm9, tlm50, tl2147483647]; omega)) (by first | omega | assumption | (try simp only [tl0, tl1, tl2, tl3, tl4, tl5, tl6, tl8, tl9, tl10, tl50, tl81, tl100, tl1000, tl9999, tlm1, tlm9, tlm50, tl2147483647]; omega))) ?_
              refine Ok_inB (vp_of (by first | omega | assumption | (try simp only [tl0, tl1, tl2, tl3, tl4, tl5, tl6, tl8, tl9, tl10, tl50, tl81, tl100, tl1000, tl9999, tlm1, tlm9, tlm50, tl2147483647]; omega)) (by first | omega | assumption | (try simp only [tl0, tl1, tl2, tl3, tl4, tl5, tl6, tl8, tl9, tl10, tl50, tl81, tl100, tl1000, tl9999, tlm1, tlm9, tlm50, tl2147483647]; omega))) ?_
              exact Ok_some trivial
            · intro h
              have c984 : (z28 + i4).toInt < 0 := i32nle h
              exact Ok_some trivial
          · intro h
            have c985 : z27.1.toInt ≠ 0 := i32ne h
            exact Ok_some trivial
        · intro h
          have c986 : (-1) ≤ i4.toInt := i32nlt h
          refine Ok_if ?_ ?_
          · intro h
            have c987 : i4.toInt ≤ 1 := i32le h
            rw [wk22]
            show Ok ((fX8_isThrown (1 : Int32) (0 : Int32)).bind (fun z27 => if z27.1 = (0 : Int32) then ((fX8_room f14 i2 i3).bind (fun z28 => if (0 : Int32) ≤ (z28 + i4) then (inB ((i2 * (9 : Int32)) + i3) 81 (inB ((i2 * (9 : Int32)) + i3) 81 ((fX8_leastNow i5 i8 i9 (upd f14 ((i2 * (9 : Int32)) + i3).toNatClampNeg ((f14 ((i2 * (9 : Int32)) + i3).toNatClampNeg) + i4))).bind (fun z29 => inB ((i2 * (9 : Int32)) + i3) 81 (inB ((i2 * (9 : Int32)) + i3) 81 (some (z29, z27.2, upd (upd f14 ((i2 * (9 : Int32)) + i3).toNatClampNeg ((f14 ((i2 * (9 : Int32)) + i3).toNatClampNeg) + i4)) ((i2 * (9 : Int32)) + i3).toNatClampNeg (((upd f14 ((i2 * (9 : Int32)) + i3).toNatClampNeg ((f14 ((i2 * (9 : Int32)) + i3).toNatClampNeg) + i4)) ((i2 * (9 : Int32)) + i3).toNatClampNeg) - i4)))))))) else (some ((-9 : Int32), z27.2, f14)))) else (some ((0 : Int32), z27.2, f14)))) _
            refine Ok_bind (ok_X8_isThrown (1 : Int32) (0 : Int32)) (fun z27 hz27 => ?_)
            try dsimp only at hz27
            try simp only [tl0, tl1, tl2, tl3, tl4, tl5, tl6, tl8, tl9, tl10, tl50, tl81, tl100, tl1000, tl9999, tlm1, tlm9, tlm50, tl2147483647] at hz27
            refine Ok_if ?_ ?_
            · intro h
              have c988 : z27.1.toInt = 0 := i32eq h
              refine Ok_bind (ok_X8_room f14 i2 i3 (by first | omega | assumption | (try simp only [tl0, tl1, tl2, tl3, tl4, tl5, tl6, tl8, tl9, tl10, tl50, tl81, tl100, tl1000, tl9999, tlm1, tlm9, tlm50, tl2147483647]; omega)) (by first | omega | assumption | (try simp only [tl0, tl1, tl2, tl3, tl4, tl5, tl6, tl8, tl9, tl10, tl50, tl81, tl100, tl1000, tl9999, tlm1, tlm9, tlm50, tl2147483647]; omega)) (by first | omega | assumption | (try simp only [tl0, tl1, tl2, tl3, tl4, tl5, tl6, tl8, tl9, tl10, tl50, tl81, tl100, tl1000, tl9999, tlm1, tlm9, tlm50, tl2147483647]; omega)) (by first | omega | assumption | (try simp only [tl0, tl1, tl2, tl3, tl4, tl5, tl6, tl8, tl9, tl10, tl50, tl81, tl100, tl1000, tl9999, tlm1, tlm9, tlm50, tl2147483647]; omega))) (fun z28 hz28 => ?_)
              refine Ok_if ?_ ?_
              · intro h
                have c989 : 0 ≤ (z28 + i4).toInt := i32le h
                try (have e990 := idx_iv (x := i2) (y := i3) (by omega) (by omega) (by omega) (by omega))
                refine Ok_inB (vp_of (by first | omega | assumption | (try simp only [tl0, tl1, tl2, tl3, tl4, tl5, tl6, tl8, tl9, tl10, tl50, tl81, tl100, tl1000, tl9999, tlm1, tlm9, tlm50, tl2147483647]; omega)) (by first | omega | assumption | (try simp only [tl0, tl1, tl2, tl3, tl4, tl5, tl6, tl8, tl9, tl10, tl50, tl81, tl100, tl1000, tl9999, tlm1, tlm9, tlm50, tl2147483647]; omega))) ?_
                refine Ok_inB (vp_of (by first | omega | assumption | (try simp only [tl0, tl1, tl2, tl3, tl4, tl5, tl6, tl8, tl9, tl10, tl50, tl81, tl100, tl1000, tl9999, tlm1, tlm9, tlm50, tl2147483647]; omega)) (by first | omega | assumption | (try simp only [tl0, tl1, tl2, tl3, tl4, tl5, tl6, tl8, tl9, tl10, tl50, tl81, tl100, tl1000, tl9999, tlm1, tlm9, tlm50, tl2147483647]; omega))) ?_
                refine Ok_bind (ok_X8_leastNow i5 i8 i9 (upd f14 ((i2 * (9 : Int32)) + i3).toNatClampNeg ((f14 ((i2 * (9 : Int32)) + i3).toNatClampNeg) + i4)) (by first | omega | assumption | (try simp only [tl0, tl1, tl2, tl3, tl4, tl5, tl6, tl8, tl9, tl10, tl50, tl81, tl100, tl1000, tl9999, tlm1, tlm9, tlm50, tl2147483647]; omega)) (by first | omega | assumption | (try simp only [tl0, tl1, tl2, tl3, tl4, tl5, tl6, tl8, tl9, tl10, tl50, tl81, tl100, tl1000, tl9999, tlm1, tlm9, tlm50, tl2147483647]; omega)) (by first | omega | assumption | (try simp only [tl0, tl1, tl2, tl3, tl4, tl5, tl6, tl8, tl9, tl10, tl50, tl81, tl100, tl1000, tl9999, tlm1, tlm9, tlm50, tl2147483647]; omega))) (fun z29 hz29 => ?_)
                refine Ok_inB (vp_of (by first | omega | assumption | (try simp only [tl0, tl1, tl2, tl3, tl4, tl5, tl6, tl8, tl9, tl10, tl50, tl81, tl100, tl1000, tl9999, tlm1, tlm9, tlm50, tl2147483647]; omega)) (by first | omega | assumption | (try simp only [tl0, tl1, tl2, tl3, tl4, tl5, tl6, tl8, tl9, tl10, tl50, tl81, tl100, tl1000, tl9999, tlm1, tlm9, tlm50, tl2147483647]; omega))) ?_
                refine Ok_inB (vp_of (by first | omega | assumption | (try simp only [tl0, tl1, tl2, tl3, tl4, tl5, tl6, tl8, tl9, tl10, tl50, tl81, tl100, tl1000, tl9999, tlm1, tlm9, tlm50, tl2147483647]; omega)) (by first | omega | assumption | (try simp only [tl0, tl1, tl2, tl3, tl4, tl5, tl6, tl8, tl9, tl10, tl50, tl81, tl100, tl1000, tl9999, tlm1, tlm9, tlm50, tl2147483647]; omega))) ?_
                exact Ok_some trivial
              · intro h
                have c991 : (z28 + i4).toInt < 0 := i32nle h
                exact Ok_some trivial
            · intro h
              have c992 : z27.1.toInt ≠ 0 := i32ne h
              exact Ok_some trivial
          · intro h
            have c993 : 1 < i4.toInt := i32nle h
            rw [wk24]
            show Ok (k22 (1 : Int32)) _
            rw [wk22]
            show Ok ((fX8_isThrown (1 : Int32) (1 : Int32)).bind (fun z27 => if z27.1 = (0 : Int32) then ((fX8_room f14 i2 i3).bind (fun z28 => if (0 : Int32) ≤ (z28 + i4) then (inB ((i2 * (9 : Int32)) + i3) 81 (inB ((i2 * (9 : Int32)) + i3) 81 ((fX8_leastNow i5 i8 i9 (upd f14 ((i2 * (9 : Int32)) + i3).toNatClampNeg ((f14 ((i2 * (9 : Int32)) + i3).toNatClampNeg) + i4))).bind (fun z29 => inB ((i2 * (9 : Int32)) + i3) 81 (inB ((i2 * (9 : Int32)) + i3) 81 (some (z29, z27.2, upd (upd f14 ((i2 * (9 : Int32)) + i3).toNatClampNeg ((f14 ((i2 * (9 : Int32)) + i3).toNatClampNeg) + i4)) ((i2 * (9 : Int32)) + i3).toNatClampNeg (((upd f14 ((i2 * (9 : Int32)) + i3).toNatClampNeg ((f14 ((i2 * (9 : Int32)) + i3).toNatClampNeg) + i4)) ((i2 * (9 : Int32)) + i3).toNatClampNeg) - i4)))))))) else (some ((-9 : Int32), z27.2, f14)))) else (some ((0 : Int32), z27.2, f14)))) _
            refine Ok_bind (ok_X8_isThrown (1 : Int32) (1 : Int32)) (fun z27 hz27 => ?_)
            try dsimp only at hz27
            try simp only [tl0, tl1, tl2, tl3, tl4, tl5, tl6, tl8, tl9, tl10, tl50, tl81, tl100, tl1000, tl9999, tlm1, tlm9, tlm50, tl2147483647] at hz27
            refine Ok_if ?_ ?_
            · intro h
              have c994 : z27.1.toInt = 0 := i32eq h
              refine Ok_bind (ok_X8_room f14 i2 i3 (by first | omega | assumption | (try simp only [tl0, tl1, tl2, tl3, tl4, tl5, tl6, tl8, tl9, tl10, tl50, tl81, tl100, tl1000, tl9999, tlm1, tlm9, tlm50, tl2147483647]; omega)) (by first | omega | assumption | (try simp only [tl0, tl1, tl2, tl3, tl4, tl5, tl6, tl8, tl9, tl10, tl50, tl81, tl100, tl1000, tl9999, tlm1, tlm9, tlm50, tl2147483647]; omega)) (by first | omega | assumption | (try simp only [tl0, tl1, tl2, tl3, tl4, tl5, tl6, tl8, tl9, tl10, tl50, tl81, tl100, tl1000, tl9999, tlm1, tlm9, tlm50, tl2147483647]; omega)) (by first | omega | assumption | (try simp only [tl0, tl1, tl2, tl3, tl4, tl5, tl6, tl8, tl9, tl10, tl50, tl81, tl100, tl1000, tl9999, tlm1, tlm9, tlm50, tl2147483647]; omega))) (fun z28 hz28 => ?_)
              refine Ok_if ?_ ?_
              · intro h
                have c995 : 0 ≤ (z28 + i4).toInt := i32le h
                try (have e996 := idx_iv (x := i2) (y := i3) (by omega) (by omega) (by omega) (by omega))
                refine Ok_inB (vp_of (by first | omega | assumption | (try simp only [tl0, tl1, tl2, tl3, tl4, tl5, tl6, tl8, tl9, tl10, tl50, tl81, tl100, tl1000, tl9999, tlm1, tlm9, tlm50, tl2147483647]; omega)) (by first | omega | assumption | (try simp only [tl0, tl1, tl2, tl3, tl4, tl5, tl6, tl8, tl9, tl10, tl50, tl81, tl100, tl1000, tl9999, tlm1, tlm9, tlm50, tl2147483647]; omega))) ?_
                refine Ok_inB (vp_of (by first | omega | assumption | (try simp only [tl0, tl1, tl2, tl3, tl4, tl5, tl6, tl8, tl9, tl10, tl50, tl81, tl100, tl1000, tl9999, tlm1, tlm9, tlm50, tl2147483647]; omega)) (by first | omega | assumption | (try simp only [tl0, tl1, tl2, tl3, tl4, tl5, tl6, tl8, tl9, tl10, tl50, tl81, tl100, tl1000, tl9999, tlm1, tlm9, tlm50, tl2147483647]; omega))) ?_
                refine Ok_bind (ok_X8_leastNow i5 i8 i9 (upd f14 ((i2 * (9 : Int32)) + i3).toNatClampNeg ((f14 ((i2 * (9 : Int32)) + i3).toNatClampNeg) + i4)) (by first | omega | assumption | (try simp only [tl0, tl1, tl2, tl3, tl4, tl5, tl6, tl8, tl9, tl10, tl50, tl81, tl100, tl1000, tl9999, tlm1, tlm9, tlm50, tl2147483647]; omega)) (by first | omega | assumption | (try simp only [tl0, tl1, tl2, tl3, tl4, tl5, tl6, tl8, tl9, tl10, tl50, tl81, tl100, tl1000, tl9999, tlm1, tlm9, tlm50, tl2147483647]; omega)) (by first | omega | assumption | (try simp only [tl0, tl1, tl2, tl3, tl4, tl5, tl6, tl8, tl9, tl10, tl50, tl81, tl100, tl1000, tl9999, tlm1, tlm9, tlm50, tl2147483647]; omega))) (fun z29 hz29 => ?_)
                refine Ok_inB (vp_of (by first | omega | assumption | (try simp only [tl0, tl1, tl2, tl3, tl4, tl5, tl6, tl8, tl9, tl10, tl50, tl81, tl100, tl1000, tl9999, tlm1, tlm9, tlm50, tl2147483647]; omega)) (by first | omega | assumption | (try simp only [tl0, tl1, tl2, tl3, tl4, tl5, tl6, tl8, tl9, tl10, tl50, tl81, tl100, tl1000, tl9999, tlm1, tlm9, tlm50, tl2147483647]; omega))) ?_
                refine Ok_inB (vp_of (by first | omega | assumption | (try simp only [tl0, tl1, tl2, tl3, tl4, tl5, tl6, tl8, tl9, tl10, tl50, tl81, tl100, tl1000, tl9999, tlm1, tlm9, tlm50, tl2147483647]; omega)) (by first | omega | assumption | (try simp only [tl0, tl1, tl2, tl3, tl4, tl5, tl6, tl8, tl9, tl10, tl50, tl81, tl100, tl1000, tl9999, tlm1, tlm9, tlm50, tl2147483647]; omega))) ?_
                exact Ok_some trivial
              · intro h
                have c997 : (z28 + i4).toInt < 0 := i32nle h
                exact Ok_some trivial
            · intro h
              have c998 : z27.1.toInt ≠ 0 := i32ne h
              exact Ok_some trivial
    · intro h
      have c999 : z20.toInt ≠ 0 := i32ne h
      rw [wk16]
      show Ok (jn (fun (i26 : Int32) => (fX8_isThrown (0 : Int32) i26).bind (fun z27 => if z27.1 = (0 : Int32) then ((fX8_room f14 i2 i3).bind (fun z28 => if (0 : Int32) ≤ (z28 + i4) then (inB ((i2 * (9 : Int32)) + i3) 81 (inB ((i2 * (9 : Int32)) + i3) 81 ((fX8_leastNow i5 i8 i9 (upd f14 ((i2 * (9 : Int32)) + i3).toNatClampNeg ((f14 ((i2 * (9 : Int32)) + i3).toNatClampNeg) + i4))).bind (fun z29 => inB ((i2 * (9 : Int32)) + i3) 81 (inB ((i2 * (9 : Int32)) + i3) 81 (some (z29, z27.2, upd (upd f14 ((i2 * (9 : Int32)) + i3).toNatClampNeg ((f14 ((i2 * (9 : Int32)) + i3).toNatClampNeg) + i4)) ((i2 * (9 : Int32)) + i3).toNatClampNeg (((upd f14 ((i2 * (9 : Int32)) + i3).toNatClampNeg ((f14 ((i2 * (9 : Int32)) + i3).toNatClampNeg) + i4)) ((i2 * (9 : Int32)) + i3).toNatClampNeg) - i4)))))))) else (some ((-9 : Int32), z27.2, f14)))) else (some ((0 : Int32), z27.2, f14)))) (fun (k22 : Int32 → Option (Int32 × Int32 × (Nat → Int32))) => jn (fun (_ : Unit) => k22 (1 : Int32)) (fun (k24 : Unit → Option (Int32 × Int32 × (Nat → Int32))) => if i2 = i3 then (k24 ()) else (if i4 < (-1 : Int32) then (k24 ()) else (if i4 ≤ (1 : Int32) then (k22 (0 : Int32)) else (k24 ())))))) _
      refine Ok_jn (fun k22 wk22 => ?_)
      refine Ok_jn (fun k24 wk24 => ?_)
      refine Ok_if ?_ ?_
      · intro h
        have c1000 : i2.toInt = i3.toInt := i32eq h
        rw [wk24]
        show Ok (k22 (1 : Int32)) _
        rw [wk22]
        show Ok ((fX8_isThrown (0 : Int32) (1 : Int32)).bind (fun z27 => if z27.1 = (0 : Int32) then ((fX8_room f14 i2 i3).bind (fun z28 => if (0 : Int32) ≤ (z28 + i4) then (inB ((i2 * (9 : Int32)) + i3) 81 (inB ((i2 * (9 : Int32)) + i3) 81 ((fX8_leastNow i5 i8 i9 (upd f14 ((i2 * (9 : Int32)) + i3).toNatClampNeg ((f14 ((i2 * (9 : Int32)) + i3).toNatClampNeg) + i4))).bind (fun z29 => inB ((i2 * (9 : Int32)) + i3) 81 (inB ((i2 * (9 : Int32)) + i3) 81 (some (z29, z27.2, upd (upd f14 ((i2 * (9 : Int32)) + i3).toNatClampNeg ((f14 ((i2 * (9 : Int32)) + i3).toNatClampNeg) + i4)) ((i2 * (9 : Int32)) + i3).toNatClampNeg (((upd f14 ((i2 * (9 : Int32)) + i3).toNatClampNeg ((f14 ((i2 * (9 : Int32)) + i3).toNatClampNeg) + i4)) ((i2 * (9 : Int32)) + i3).toNatClampNeg) - i4)))))))) else (some ((-9 : Int32), z27.2, f14)))) else (some ((0 : Int32), z27.2, f14)))) _
        refine Ok_bind (ok_X8_isThrown (0 : Int32) (1 : Int32)) (fun z27 hz27 => ?_)
        try dsimp only at hz27
        try simp only [tl0, tl1, tl2, tl3, tl4, tl5, tl6, tl8, tl9, tl10, tl50, tl81, tl100, tl1000, tl9999, tlm1, tlm9, tlm50, tl2147483647] at hz27
        refine Ok_if ?_ ?_
        · intro h
          have c1001 : z27.1.toInt = 0 := i32eq h
          refine Ok_bind (ok_X8_room f14 i2 i3 (by first | omega | assumption | (try simp only [tl0, tl1, tl2, tl3, tl4, tl5, tl6, tl8, tl9, tl10, tl50, tl81, tl100, tl1000, tl9999, tlm1, tlm9, tlm50, tl2147483647]; omega)) (by first | omega | assumption | (try simp only [tl0, tl1, tl2, tl3, tl4, tl5, tl6, tl8, tl9, tl10, tl50, tl81, tl100, tl1000, tl9999, tlm1, tlm9, tlm50, tl2147483647]; omega)) (by first | omega | assumption | (try simp only [tl0, tl1, tl2, tl3, tl4, tl5, tl6, tl8, tl9, tl10, tl50, tl81, tl100, tl1000, tl9999, tlm1, tlm9, tlm50, tl2147483647]; omega)) (by first | omega | assumption | (try simp only [tl0, tl1, tl2, tl3, tl4, tl5, tl6, tl8, tl9, tl10, tl50, tl81, tl100, tl1000, tl9999, tlm1, tlm9, tlm50, tl2147483647]; omega))) (fun z28 hz28 => ?_)
          refine Ok_if ?_ ?_
          · intro h
            have c1002 : 0 ≤ (z28 + i4).toInt := i32le h
            try (have e1003 := idx_iv (x := i2) (y := i3) (by omega) (by omega) (by omega) (by omega))
            refine Ok_inB (vp_of (by first | omega | assumption | (try simp only [tl0, tl1, tl2, tl3, tl4, tl5, tl6, tl8, tl9, tl10, tl50, tl81, tl100, tl1000, tl9999, tlm1, tlm9, tlm50, tl2147483647]; omega)) (by first | omega | assumption | (try simp only [tl0, tl1, tl2, tl3, tl4, tl5, tl6, tl8, tl9, tl10, tl50, tl81, tl100, tl1000, tl9999, tlm1, tlm9, tlm50, tl2147483647]; omega))) ?_
            refine Ok_inB (vp_of (by first | omega | assumption | (try simp only [tl0, tl1, tl2, tl3, tl4, tl5, tl6, tl8, tl9, tl10, tl50, tl81, tl100, tl1000, tl9999, tlm1, tlm9, tlm50, tl2147483647]; omega)) (by first | omega | assumption | (try simp only [tl0, tl1, tl2, tl3, tl4, tl5, tl6, tl8, tl9, tl10, tl50, tl81, tl100, tl1000, tl9999, tlm1, tlm9, tlm50, tl2147483647]; omega))) ?_
            refine Ok_bind (ok_X8_leastNow i5 i8 i9 (upd f14 ((i2 * (9 : Int32)) + i3).toNatClampNeg ((f14 ((i2 * (9 : Int32)) + i3).toNatClampNeg) + i4)) (by first | omega | assumption | (try simp only [tl0, tl1, tl2, tl3, tl4, tl5, tl6, tl8, tl9, tl10, tl50, tl81, tl100, tl1000, tl9999, tlm1, tlm9, tlm50, tl2147483647]; omega)) (by first | omega | assumption | (try simp only [tl0, tl1, tl2, tl3, tl4, tl5, tl6, tl8, tl9, tl10, tl50, tl81, tl100, tl1000, tl9999, tlm1, tlm9, tlm50, tl2147483647]; omega)) (by first | omega | assumption | (try simp only [tl0, tl1, tl2, tl3, tl4, tl5, tl6, tl8, tl9, tl10, tl50, tl81, tl100, tl1000, tl9999, tlm1, tlm9, tlm50, tl2147483647]; omega))) (fun z29 hz29 => ?_)
            refine Ok_inB (vp_of (by first | omega | assumption | (try simp only [tl0, tl1, tl2, tl3, tl4, tl5, tl6, tl8, tl9, tl10, tl50, tl81, tl100, tl1000, tl9999, tlm1, tlm9, tlm50, tl2147483647]; omega)) (by first | omega | assumption | (try simp only [tl0, tl1, tl2, tl3, tl4, tl5, tl6, tl8, tl9, tl10, tl50, tl81, tl100, tl1000, tl9999, tlm1, tlm9, tlm50, tl2147483647]; omega))) ?_
            refine Ok_inB (vp_of (by first | omega | assumption | (try simp only [tl0, tl1, tl2, tl3, tl4, tl5, tl6, tl8, tl9, tl10, tl50, tl81, tl100, tl1000, tl9999, tlm1, tlm9, tlm50, tl2147483647]; omega)) (by first | omega | assumption | (try simp only [tl0, tl1, tl2, tl3, tl4, tl5, tl6, tl8, tl9, tl10, tl50, tl81, tl100, tl1000, tl9999, tlm1, tlm9, tlm50, tl2147483647]; omega))) ?_
            exact Ok_some trivial
          · intro h
            have c1004 : (z28 + i4).toInt < 0 := i32nle h
            exact Ok_some trivial
        · intro h
          have c1005 : z27.1.toInt ≠ 0 := i32ne h
          exact Ok_some trivial
      · intro h
        have c1006 : i2.toInt ≠ i3.toInt := i32ne h
        refine Ok_if ?_ ?_
        · intro h
          have c1007 : i4.toInt < (-1) := i32lt h
          rw [wk24]
          show Ok (k22 (1 : Int32)) _
          rw [wk22]
          show Ok ((fX8_isThrown (0 : Int32) (1 : Int32)).bind (fun z27 => if z27.1 = (0 : Int32) then ((fX8_room f14 i2 i3).bind (fun z28 => if (0 : Int32) ≤ (z28 + i4) then (inB ((i2 * (9 : Int32)) + i3) 81 (inB ((i2 * (9 : Int32)) + i3) 81 ((fX8_leastNow i5 i8 i9 (upd f14 ((i2 * (9 : Int32)) + i3).toNatClampNeg ((f14 ((i2 * (9 : Int32)) + i3).toNatClampNeg) + i4))).bind (fun z29 => inB ((i2 * (9 : Int32)) + i3) 81 (inB ((i2 * (9 : Int32)) + i3) 81 (some (z29, z27.2, upd (upd f14 ((i2 * (9 : Int32)) + i3).toNatClampNeg ((f14 ((i2 * (9 : Int32)) + i3).toNatClampNeg) + i4)) ((i2 * (9 : Int32)) + i3).toNatClampNeg (((upd f14 ((i2 * (9 : Int32)) + i3).toNatClampNeg ((f14 ((i2 * (9 : Int32)) + i3).toNatClampNeg) + i4)) ((i2 * (9 : Int32)) + i3).toNatClampNeg) - i4)))))))) else (some ((-9 : Int32), z27.2, f14)))) else (some ((0 : Int32), z27.2, f14)))) _
          refine Ok_bind (ok_X8_isThrown (0 : Int32) (1 : Int32)) (fun z27 hz27 => ?_)
          try dsimp only at hz27
          try simp only [tl0, tl1, tl2, tl3, tl4, tl5, tl6, tl8, tl9, tl10, tl50, tl81, tl100, tl1000, tl9999, tlm1, tlm9, tlm50, tl2147483647] at hz27
          refine Ok_if ?_ ?_
          · intro h
            have c1008 : z27.1.toInt = 0 := i32eq h
            refine Ok_bind (ok_X8_room f14 i2 i3 (by first | omega | assumption | (try simp only [tl0, tl1, tl2, tl3, tl4, tl5, tl6, tl8, tl9, tl10, tl50, tl81, tl100, tl1000, tl9999, tlm1, tlm9, tlm50, tl2147483647]; omega)) (by first | omega | assumption | (try simp only [tl0, tl1, tl2, tl3, tl4, tl5, tl6, tl8, tl9, tl10, tl50, tl81, tl100, tl1000, tl9999, tlm1, tlm9, tlm50, tl2147483647]; omega)) (by first | omega | assumption | (try simp only [tl0, tl1, tl2, tl3, tl4, tl5, tl6, tl8, tl9, tl10, tl50, tl81, tl100, tl1000, tl9999, tlm1, tlm9, tlm50, tl2147483647]; omega)) (by first | omega | assumption | (try simp only [tl0, tl1, tl2, tl3, tl4, tl5, tl6, tl8, tl9, tl10, tl50, tl81, tl100, tl1000, tl9999, tlm1, tlm9, tlm50, tl2147483647]; omega))) (fun z28 hz28 => ?_)
            refine Ok_if ?_ ?_
            · intro h
              have c1009 : 0 ≤ (z28 + i4).toInt := i32le h
              try (have e1010 := idx_iv (x := i2) (y := i3) (by omega) (by omega) (by omega) (by omega))
              refine Ok_inB (vp_of (by first | omega | assumption | (try simp only [tl0, tl1, tl2, tl3, tl4, tl5, tl6, tl8, tl9, tl10, tl50, tl81, tl100, tl1000, tl9999, tlm1, tlm9, tlm50, tl2147483647]; omega)) (by first | omega | assumption | (try simp only [tl0, tl1, tl2, tl3, tl4, tl5, tl6, tl8, tl9, tl10, tl50, tl81, tl100, tl1000, tl9999, tlm1, tlm9, tlm50, tl2147483647]; omega))) ?_
              refine Ok_inB (vp_of (by first | omega | assumption | (try simp only [tl0, tl1, tl2, tl3, tl4, tl5, tl6, tl8, tl9, tl10, tl50, tl81, tl100, tl1000, tl9999, tlm1, tlm9, tlm50, tl2147483647]; omega)) (by first | omega | assumption | (try simp only [tl0, tl1, tl2, tl3, tl4, tl5, tl6, tl8, tl9, tl10, tl50, tl81, tl100, tl1000, tl9999, tlm1, tlm9, tlm50, tl2147483647]; omega))) ?_
              refine Ok_bind (ok_X8_leastNow i5 i8 i9 (upd f14 ((i2 * (9 : Int32)) + i3).toNatClampNeg ((f14 ((i2 * (9 : Int32)) + i3).toNatClampNeg) + i4)) (by first | omega | assumption | (try simp only [tl0, tl1, tl2, tl3, tl4, tl5, tl6, tl8, tl9, tl10, tl50, tl81, tl100, tl1000, tl9999, tlm1, tlm9, tlm50, tl2147483647]; omega)) (by first | omega | assumption | (try simp only [tl0, tl1, tl2, tl3, tl4, tl5, tl6, tl8, tl9, tl10, tl50, tl81, tl100, tl1000, tl9999, tlm1, tlm9, tlm50, tl2147483647]; omega)) (by first | omega | assumption | (try simp only [tl0, tl1, tl2, tl3, tl4, tl5, tl6, tl8, tl9, tl10, tl50, tl81, tl100, tl1000, tl9999, tlm1, tlm9, tlm50, tl2147483647]; omega))) (fun z29 hz29 => ?_)
              refine Ok_inB (vp_of (by first | omega | assumption | (try simp only [tl0, tl1, tl2, tl3, tl4, tl5, tl6, tl8, tl9, tl10, tl50, tl81, tl100, tl1000, tl9999, tlm1, tlm9, tlm50, tl2147483647]; omega)) (by first | omega | assumption | (try simp only [tl0, tl1, tl2, tl3, tl4, tl5, tl6, tl8, tl9, tl10, tl50, tl81, tl100, tl1000, tl9999, tlm1, tlm9, tlm50, tl2147483647]; omega))) ?_
              refine Ok_inB (vp_of (by first | omega | assumption | (try simp only [tl0, tl1, tl2, tl3, tl4, tl5, tl6, tl8, tl9, tl10, tl50, tl81, tl100, tl1000, tl9999, tlm1, tlm9, tlm50, tl2147483647]; omega)) (by first | omega | assumption | (try simp only [tl0, tl1, tl2, tl3, tl4, tl5, tl6, tl8, tl9, tl10, tl50, tl81, tl100, tl1000, tl9999, tlm1, tlm9, tlm50, tl2147483647]; omega))) ?_
              exact Ok_some trivial
            · intro h
              have c1011 : (z28 + i4).toInt < 0 := i32nle h
              exact Ok_some trivial
          · intro h
            have c1012 : z27.1.toInt ≠ 0 := i32ne h
            exact Ok_some trivial
        · intro h
          have c1013 : (-1) ≤ i4.toInt := i32nlt h
          refine Ok_if ?_ ?_
          · intro h
            have c1014 : i4.toInt ≤ 1 := i32le h
            rw [wk22]
            show Ok ((fX8_isThrown (0 : Int32) (0 : Int32)).bind (fun z27 => if z27.1 = (0 : Int32) then ((fX8_room f14 i2 i3).bind (fun z28 => if (0 : Int32) ≤ (z28 + i4) then (inB ((i2 * (9 : Int32)) + i3) 81 (inB ((i2 * (9 : Int32)) + i3) 81 ((fX8_leastNow i5 i8 i9 (upd f14 ((i2 * (9 : Int32)) + i3).toNatClampNeg ((f14 ((i2 * (9 : Int32)) + i3).toNatClampNeg) + i4))).bind (fun z29 => inB ((i2 * (9 : Int32)) + i3) 81 (inB ((i2 * (9 : Int32)) + i3) 81 (some (z29, z27.2, upd (upd f14 ((i2 * (9 : Int32)) + i3).toNatClampNeg ((f14 ((i2 * (9 : Int32)) + i3).toNatClampNeg) + i4)) ((i2 * (9 : Int32)) + i3).toNatClampNeg (((upd f14 ((i2 * (9 : Int32)) + i3).toNatClampNeg ((f14 ((i2 * (9 : Int32)) + i3).toNatClampNeg) + i4)) ((i2 * (9 : Int32)) + i3).toNatClampNeg) - i4)))))))) else (some ((-9 : Int32), z27.2, f14)))) else (some ((0 : Int32), z27.2, f14)))) _
            refine Ok_bind (ok_X8_isThrown (0 : Int32) (0 : Int32)) (fun z27 hz27 => ?_)
            try dsimp only at hz27
            try simp only [tl0, tl1, tl2, tl3, tl4, tl5, tl6, tl8, tl9, tl10, tl50, tl81, tl100, tl1000, tl9999, tlm1, tlm9, tlm50, tl2147483647] at hz27
            refine Ok_if ?_ ?_
            · intro h
              have c1015 : z27.1.toInt = 0 := i32eq h
              refine Ok_bind (ok_X8_room f14 i2 i3 (by first | omega | assumption | (try simp only [tl0, tl1, tl2, tl3, tl4, tl5, tl6, tl8, tl9, tl10, tl50, tl81, tl100, tl1000, tl9999, tlm1, tlm9, tlm50, tl2147483647]; omega)) (by first | omega | assumption | (try simp only [tl0, tl1, tl2, tl3, tl4, tl5, tl6, tl8, tl9, tl10, tl50, tl81, tl100, tl1000, tl9999, tlm1, tlm9, tlm50, tl2147483647]; omega)) (by first | omega | assumption | (try simp only [tl0, tl1, tl2, tl3, tl4, tl5, tl6, tl8, tl9, tl10, tl50, tl81, tl100, tl1000, tl9999, tlm1, tlm9, tlm50, tl2147483647]; omega)) (by first | omega | assumption | (try simp only [tl0, tl1, tl2, tl3, tl4, tl5, tl6, tl8, tl9, tl10, tl50, tl81, tl100, tl1000, tl9999, tlm1, tlm9, tlm50, tl2147483647]; omega))) (fun z28 hz28 => ?_)
              refine Ok_if ?_ ?_
              · intro h
                have c1016 : 0 ≤ (z28 + i4).toInt := i32le h
                try (have e1017 := idx_iv (x := i2) (y := i3) (by omega) (by omega) (by omega) (by omega))
                refine Ok_inB (vp_of (by first | omega | assumption | (try simp only [tl0, tl1, tl2, tl3, tl4, tl5, tl6, tl8, tl9, tl10, tl50, tl81, tl100, tl1000, tl9999, tlm1, tlm9, tlm50, tl2147483647]; omega)) (by first | omega | assumption | (try simp only [tl0, tl1, tl2, tl3, tl4, tl5, tl6, tl8, tl9, tl10, tl50, tl81, tl100, tl1000, tl9999, tlm1, tlm9, tlm50, tl2147483647]; omega))) ?_
                refine Ok_inB (vp_of (by first | omega | assumption | (try simp only [tl0, tl1, tl2, tl3, tl4, tl5, tl6, tl8, tl9, tl10, tl50, tl81, tl100, tl1000, tl9999, tlm1, tlm9, tlm50, tl2147483647]; omega)) (by first | omega | assumption | (try simp only [tl0, tl1, tl2, tl3, tl4, tl5, tl6, tl8, tl9, tl10, tl50, tl81, tl100, tl1000, tl9999, tlm1, tlm9, tlm50, tl2147483647]; omega))) ?_
                refine Ok_bind (ok_X8_leastNow i5 i8 i9 (upd f14 ((i2 * (9 : Int32)) + i3).toNatClampNeg ((f14 ((i2 * (9 : Int32)) + i3).toNatClampNeg) + i4)) (by first | omega | assumption | (try simp only [tl0, tl1, tl2, tl3, tl4, tl5, tl6, tl8, tl9, tl10, tl50, tl81, tl100, tl1000, tl9999, tlm1, tlm9, tlm50, tl2147483647]; omega)) (by first | omega | assumption | (try simp only [tl0, tl1, tl2, tl3, tl4, tl5, tl6, tl8, tl9, tl10, tl50, tl81, tl100, tl1000, tl9999, tlm1, tlm9, tlm50, tl2147483647]; omega)) (by first | omega | assumption | (try simp only [tl0, tl1, tl2, tl3, tl4, tl5, tl6, tl8, tl9, tl10, tl50, tl81, tl100, tl1000, tl9999, tlm1, tlm9, tlm50, tl2147483647]; omega))) (fun z29 hz29 => ?_)
                refine Ok_inB (vp_of (by first | omega | assumption | (try simp only [tl0, tl1, tl2, tl3, tl4, tl5, tl6, tl8, tl9, tl10, tl50, tl81, tl100, tl1000, tl9999, tlm1, tlm9, tlm50, tl2147483647]; omega)) (by first | omega | assumption | (try simp only [tl0, tl1, tl2, tl3, tl4, tl5, tl6, tl8, tl9, tl10, tl50, tl81, tl100, tl1000, tl9999, tlm1, tlm9, tlm50, tl2147483647]; omega))) ?_
                refine Ok_inB (vp_of (by first | omega | assumption | (try simp only [tl0, tl1, tl2, tl3, tl4, tl5, tl6, tl8, tl9, tl10, tl50, tl81, tl100, tl1000, tl9999, tlm1, tlm9, tlm50, tl2147483647]; omega)) (by first | omega | assumption | (try simp only [tl0, tl1, tl2, tl3, tl4, tl5, tl6, tl8, tl9, tl10, tl50, tl81, tl100, tl1000, tl9999, tlm1, tlm9, tlm50, tl2147483647]; omega))) ?_
                exact Ok_some trivial
              · intro h
                have c1018 : (z28 + i4).toInt < 0 := i32nle h
                exact Ok_some trivial
            · intro h
              have c1019 : z27.1.toInt ≠ 0 := i32ne h
              exact Ok_some trivial
          · intro h
            have c1020 : 1 < i4.toInt := i32nle h
            rw [wk24]
            show Ok (k22 (1 : Int32)) _
            rw [wk22]
            show Ok ((fX8_isThrown (0 : Int32) (1 : Int32)).bind (fun z27 => if z27.1 = (0 : Int32) then ((fX8_room f14 i2 i3).bind (fun z28 => if (0 : Int32) ≤ (z28 + i4) then (inB ((i2 * (9 : Int32)) + i3) 81 (inB ((i2 * (9 : Int32)) + i3) 81 ((fX8_leastNow i5 i8 i9 (upd f14 ((i2 * (9 : Int32)) + i3).toNatClampNeg ((f14 ((i2 * (9 : Int32)) + i3).toNatClampNeg) + i4))).bind (fun z29 => inB ((i2 * (9 : Int32)) + i3) 81 (inB ((i2 * (9 : Int32)) + i3) 81 (some (z29, z27.2, upd (upd f14 ((i2 * (9 : Int32)) + i3).toNatClampNeg ((f14 ((i2 * (9 : Int32)) + i3).toNatClampNeg) + i4)) ((i2 * (9 : Int32)) + i3).toNatClampNeg (((upd f14 ((i2 * (9 : Int32)) + i3).toNatClampNeg ((f14 ((i2 * (9 : Int32)) + i3).toNatClampNeg) + i4)) ((i2 * (9 : Int32)) + i3).toNatClampNeg) - i4)))))))) else (some ((-9 : Int32), z27.2, f14)))) else (some ((0 : Int32), z27.2, f14)))) _
            refine Ok_bind (ok_X8_isThrown (0 : Int32) (1 : Int32)) (fun z27 hz27 => ?_)
            try dsimp only at hz27
            try simp only [tl0, tl1, tl2, tl3, tl4, tl5, tl6, tl8, tl9, tl10, tl50, tl81, tl100, tl1000, tl9999, tlm1, tlm9, tlm50, tl2147483647] at hz27
            refine Ok_if ?_ ?_
            · intro h
              have c1021 : z27.1.toInt = 0 := i32eq h
              refine Ok_bind (ok_X8_room f14 i2 i3 (by first | omega | assumption | (try simp only [tl0, tl1, tl2, tl3, tl4, tl5, tl6, tl8, tl9, tl10, tl50, tl81, tl100, tl1000, tl9999, tlm1, tlm9, tlm50, tl2147483647]; omega)) (by first | omega | assumption | (try simp only [tl0, tl1, tl2, tl3, tl4, tl5, tl6, tl8, tl9, tl10, tl50, tl81, tl100, tl1000, tl9999, tlm1, tlm9, tlm50, tl2147483647]; omega)) (by first | omega | assumption | (try simp only [tl0, tl1, tl2, tl3, tl4, tl5, tl6, tl8, tl9, tl10, tl50, tl81, tl100, tl1000, tl9999, tlm1, tlm9, tlm50, tl2147483647]; omega)) (by first | omega | assumption | (try simp only [tl0, tl1, tl2, tl3, tl4, tl5, tl6, tl8, tl9, tl10, tl50, tl81, tl100, tl1000, tl9999, tlm1, tlm9, tlm50, tl2147483647]; omega))) (fun z28 hz28 => ?_)
              refine Ok_if ?_ ?_
              · intro h
                have c1022 : 0 ≤ (z28 + i4).toInt := i32le h
                try (have e1023 := idx_iv (x := i2) (y := i3) (by omega) (by omega) (by omega) (by omega))
                refine Ok_inB (vp_of (by first | omega | assumption | (try simp only [tl0, tl1, tl2, tl3, tl4, tl5, tl6, tl8, tl9, tl10, tl50, tl81, tl100, tl1000, tl9999, tlm1, tlm9, tlm50, tl2147483647]; omega)) (by first | omega | assumption | (try simp only [tl0, tl1, tl2, tl3, tl4, tl5, tl6, tl8, tl9, tl10, tl50, tl81, tl100, tl1000, tl9999, tlm1, tlm9, tlm50, tl2147483647]; omega))) ?_
                refine Ok_inB (vp_of (by first | omega | assumption | (try simp only [tl0, tl1, tl2, tl3, tl4, tl5, tl6, tl8, tl9, tl10, tl50, tl81, tl100, tl1000, tl9999, tlm1, tlm9, tlm50, tl2147483647]; omega)) (by first | omega | assumption | (try simp only [tl0, tl1, tl2, tl3, tl4, tl5, tl6, tl8, tl9, tl10, tl50, tl81, tl100, tl1000, tl9999, tlm1, tlm9, tlm50, tl2147483647]; omega))) ?_
                refine Ok_bind (ok_X8_leastNow i5 i8 i9 (upd f14 ((i2 * (9 : Int32)) + i3).toNatClampNeg ((f14 ((i2 * (9 : Int32)) + i3).toNatClampNeg) + i4)) (by first | omega | assumption | (try simp only [tl0, tl1, tl2, tl3, tl4, tl5, tl6, tl8, tl9, tl10, tl50, tl81, tl100, tl1000, tl9999, tlm1, tlm9, tlm50, tl2147483647]; omega)) (by first | omega | assumption | (try simp only [tl0, tl1, tl2, tl3, tl4, tl5, tl6, tl8, tl9, tl10, tl50, tl81, tl100, tl1000, tl9999, tlm1, tlm9, tlm50, tl2147483647]; omega)) (by first | omega | assumption | (try simp only [tl0, tl1, tl2, tl3, tl4, tl5, tl6, tl8, tl9, tl10, tl50, tl81, tl100, tl1000, tl9999, tlm1, tlm9, tlm50, tl2147483647]; omega))) (fun z29 hz29 => ?_)
                refine Ok_inB (vp_of (by first | omega | assumption | (try simp only [tl0, tl1, tl2, tl3, tl4, tl5, tl6, tl8, tl9, tl10, tl50, tl81, tl100, tl1000, tl9999, tlm1, tlm9, tlm50, tl2147483647]; omega)) (by first | omega | assumption | (try simp only [tl0, tl1, tl2, tl3, tl4, tl5, tl6, tl8, tl9, tl10, tl50, tl81, tl100, tl1000, tl9999, tlm1, tlm9, tlm50, tl2147483647]; omega))) ?_
                refine Ok_inB (vp_of (by first | omega | assumption | (try simp only [tl0, tl1, tl2, tl3, tl4, tl5, tl6, tl8, tl9, tl10, tl50, tl81, tl100, tl1000, tl9999, tlm1, tlm9, tlm50, tl2147483647]; omega)) (by first | omega | assumption | (try simp only [tl0, tl1, tl2, tl3, tl4, tl5, tl6, tl8, tl9, tl10, tl50, tl81, tl100, tl1000, tl9999, tlm1, tlm9, tlm50, tl2147483647]; omega))) ?_
                exact Ok_some trivial
              · intro h
                have c1024 : (z28 + i4).toInt < 0 := i32nle h
                exact Ok_some trivial
            · intro h
              have c1025 : z27.1.toInt ≠ 0 := i32ne h
              exact Ok_some trivial
set_option maxRecDepth 4000 in
theorem ok_X8_between (i4 : Int32) (f13 : Nat → Int32) (i2 : Int32) (i3 : Int32) (h0 : 2 ≤ i4.toInt ∧ i4.toInt ≤ 9) : Ok (fX8_between i4 f13 i2 i3) (fun z => True) := by
  unfold fX8_between
  refine Ok_bind (ok_X8_isPlace i4 i2 (by first | omega | assumption | (try simp only [tl0, tl1, tl2, tl3, tl4, tl5, tl6, tl8, tl9, tl10, tl50, tl81, tl100, tl1000, tl9999, tlm1, tlm9, tlm50, tl2147483647]; omega))) (fun z14 hz14 => ?_)
  try dsimp only at hz14
  try simp only [tl0, tl1, tl2, tl3, tl4, tl5, tl6, tl8, tl9, tl10, tl50, tl81, tl100, tl1000, tl9999, tlm1, tlm9, tlm50, tl2147483647] at hz14
  refine Ok_jn (fun k15 wk15 => ?_)
  refine Ok_jn (fun k17 wk17 => ?_)
  refine Ok_if ?_ ?_
  · intro h
    have c1026 : z14.toInt = 0 := i32eq h
    rw [wk17]
    show Ok (k15 (1 : Int32)) _
    rw [wk15]
    show Ok (jn (fun (i23 : Int32) => (fX8_isThrown (1 : Int32) i23).bind (fun z24 => if z24.1 = (0 : Int32) then ((fX8_least i4 f13 i2 i3).bind (fun z25 => some (z25, z24.2))) else (some ((0 : Int32), z24.2)))) (fun (k21 : Int32 → Option (Int32 × Int32)) => if i2 = i3 then (k21 (1 : Int32)) else (k21 (0 : Int32)))) _
    refine Ok_jn (fun k21 wk21 => ?_)
    refine Ok_if ?_ ?_
    · intro h
      have c1027 : i2.toInt = i3.toInt := i32eq h
      rw [wk21]
      show Ok ((fX8_isThrown (1 : Int32) (1 : Int32)).bind (fun z24 => if z24.1 = (0 : Int32) then ((fX8_least i4 f13 i2 i3).bind (fun z25 => some (z25, z24.2))) else (some ((0 : Int32), z24.2)))) _
      refine Ok_bind (ok_X8_isThrown (1 : Int32) (1 : Int32)) (fun z24 hz24 => ?_)
      try dsimp only at hz24
      try simp only [tl0, tl1, tl2, tl3, tl4, tl5, tl6, tl8, tl9, tl10, tl50, tl81, tl100, tl1000, tl9999, tlm1, tlm9, tlm50, tl2147483647] at hz24
      refine Ok_if ?_ ?_
      · intro h
        have c1028 : z24.1.toInt = 0 := i32eq h
        refine Ok_bind (ok_X8_least i4 f13 i2 i3 (by first | omega | assumption | (try simp only [tl0, tl1, tl2, tl3, tl4, tl5, tl6, tl8, tl9, tl10, tl50, tl81, tl100, tl1000, tl9999, tlm1, tlm9, tlm50, tl2147483647]; omega))) (fun z25 hz25 => ?_)
        exact Ok_some trivial
      · intro h
        have c1029 : z24.1.toInt ≠ 0 := i32ne h
        exact Ok_some trivial
    · intro h
      have c1030 : i2.toInt ≠ i3.toInt := i32ne h
      rw [wk21]
      show Ok ((fX8_isThrown (1 : Int32) (0 : Int32)).bind (fun z24 => if z24.1 = (0 : Int32) then ((fX8_least i4 f13 i2 i3).bind (fun z25 => some (z25, z24.2))) else (some ((0 : Int32), z24.2)))) _
      refine Ok_bind (ok_X8_isThrown (1 : Int32) (0 : Int32)) (fun z24 hz24 => ?_)
      try dsimp only at hz24
      try simp only [tl0, tl1, tl2, tl3, tl4, tl5, tl6, tl8, tl9, tl10, tl50, tl81, tl100, tl1000, tl9999, tlm1, tlm9, tlm50, tl2147483647] at hz24
      refine Ok_if ?_ ?_
      · intro h
        have c1031 : z24.1.toInt = 0 := i32eq h
        refine Ok_bind (ok_X8_least i4 f13 i2 i3 (by first | omega | assumption | (try simp only [tl0, tl1, tl2, tl3, tl4, tl5, tl6, tl8, tl9, tl10, tl50, tl81, tl100, tl1000, tl9999, tlm1, tlm9, tlm50, tl2147483647]; omega))) (fun z25 hz25 => ?_)
        exact Ok_some trivial
      · intro h
        have c1032 : z24.1.toInt ≠ 0 := i32ne h
        exact Ok_some trivial
  · intro h
    have c1033 : z14.toInt ≠ 0 := i32ne h
    refine Ok_bind (ok_X8_isPlace i4 i3 (by first | omega | assumption | (try simp only [tl0, tl1, tl2, tl3, tl4, tl5, tl6, tl8, tl9, tl10, tl50, tl81, tl100, tl1000, tl9999, tlm1, tlm9, tlm50, tl2147483647]; omega))) (fun z19 hz19 => ?_)
    try dsimp only at hz19
    try simp only [tl0, tl1, tl2, tl3, tl4, tl5, tl6, tl8, tl9, tl10, tl50, tl81, tl100, tl1000, tl9999, tlm1, tlm9, tlm50, tl2147483647] at hz19
    refine Ok_if ?_ ?_
    · intro h
      have c1034 : z19.toInt = 0 := i32eq h
      rw [wk17]
      show Ok (k15 (1 : Int32)) _
      rw [wk15]
      show Ok (jn (fun (i23 : Int32) => (fX8_isThrown (1 : Int32) i23).bind (fun z24 => if z24.1 = (0 : Int32) then ((fX8_least i4 f13 i2 i3).bind (fun z25 => some (z25, z24.2))) else (some ((0 : Int32), z24.2)))) (fun (k21 : Int32 → Option (Int32 × Int32)) => if i2 = i3 then (k21 (1 : Int32)) else (k21 (0 : Int32)))) _
      refine Ok_jn (fun k21 wk21 => ?_)
      refine Ok_if ?_ ?_
      · intro h
        have c1035 : i2.toInt = i3.toInt := i32eq h
        rw [wk21]
        show Ok ((fX8_isThrown (1 : Int32) (1 : Int32)).bind (fun z24 => if z24.1 = (0 : Int32) then ((fX8_least i4 f13 i2 i3).bind (fun z25 => some (z25, z24.2))) else (some ((0 : Int32), z24.2)))) _
        refine Ok_bind (ok_X8_isThrown (1 : Int32) (1 : Int32)) (fun z24 hz24 => ?_)
        try dsimp only at hz24
        try simp only [tl0, tl1, tl2, tl3, tl4, tl5, tl6, tl8, tl9, tl10, tl50, tl81, tl100, tl1000, tl9999, tlm1, tlm9, tlm50, tl2147483647] at hz24
        refine Ok_if ?_ ?_
        · intro h
          have c1036 : z24.1.toInt = 0 := i32eq h
          refine Ok_bind (ok_X8_least i4 f13 i2 i3 (by first | omega | assumption | (try simp only [tl0, tl1, tl2, tl3, tl4, tl5, tl6, tl8, tl9, tl10, tl50, tl81, tl100, tl1000, tl9999, tlm1, tlm9, tlm50, tl2147483647]; omega))) (fun z25 hz25 => ?_)
          exact Ok_some trivial
        · intro h
          have c1037 : z24.1.toInt ≠ 0 := i32ne h
          exact Ok_some trivial
      · intro h
        have c1038 : i2.toInt ≠ i3.toInt := i32ne h
        rw [wk21]
        show Ok ((fX8_isThrown (1 : Int32) (0 : Int32)).bind (fun z24 => if z24.1 = (0 : Int32) then ((fX8_least i4 f13 i2 i3).bind (fun z25 => some (z25, z24.2))) else (some ((0 : Int32), z24.2)))) _
        refine Ok_bind (ok_X8_isThrown (1 : Int32) (0 : Int32)) (fun z24 hz24 => ?_)
        try dsimp only at hz24
        try simp only [tl0, tl1, tl2, tl3, tl4, tl5, tl6, tl8, tl9, tl10, tl50, tl81, tl100, tl1000, tl9999, tlm1, tlm9, tlm50, tl2147483647] at hz24
        refine Ok_if ?_ ?_
        · intro h
          have c1039 : z24.1.toInt = 0 := i32eq h
          refine Ok_bind (ok_X8_least i4 f13 i2 i3 (by first | omega | assumption | (try simp only [tl0, tl1, tl2, tl3, tl4, tl5, tl6, tl8, tl9, tl10, tl50, tl81, tl100, tl1000, tl9999, tlm1, tlm9, tlm50, tl2147483647]; omega))) (fun z25 hz25 => ?_)
          exact Ok_some trivial
        · intro h
          have c1040 : z24.1.toInt ≠ 0 := i32ne h
          exact Ok_some trivial
    · intro h
      have c1041 : z19.toInt ≠ 0 := i32ne h
      rw [wk15]
      show Ok (jn (fun (i23 : Int32) => (fX8_isThrown (0 : Int32) i23).bind (fun z24 => if z24.1 = (0 : Int32) then ((fX8_least i4 f13 i2 i3).bind (fun z25 => some (z25, z24.2))) else (some ((0 : Int32), z24.2)))) (fun (k21 : Int32 → Option (Int32 × Int32)) => if i2 = i3 then (k21 (1 : Int32)) else (k21 (0 : Int32)))) _
      refine Ok_jn (fun k21 wk21 => ?_)
      refine Ok_if ?_ ?_
      · intro h
        have c1042 : i2.toInt = i3.toInt := i32eq h
        rw [wk21]
        show Ok ((fX8_isThrown (0 : Int32) (1 : Int32)).bind (fun z24 => if z24.1 = (0 : Int32) then ((fX8_least i4 f13 i2 i3).bind (fun z25 => some (z25, z24.2))) else (some ((0 : Int32), z24.2)))) _
        refine Ok_bind (ok_X8_isThrown (0 : Int32) (1 : Int32)) (fun z24 hz24 => ?_)
        try dsimp only at hz24
        try simp only [tl0, tl1, tl2, tl3, tl4, tl5, tl6, tl8, tl9, tl10, tl50, tl81, tl100, tl1000, tl9999, tlm1, tlm9, tlm50, tl2147483647] at hz24
        refine Ok_if ?_ ?_
        · intro h
          have c1043 : z24.1.toInt = 0 := i32eq h
          refine Ok_bind (ok_X8_least i4 f13 i2 i3 (by first | omega | assumption | (try simp only [tl0, tl1, tl2, tl3, tl4, tl5, tl6, tl8, tl9, tl10, tl50, tl81, tl100, tl1000, tl9999, tlm1, tlm9, tlm50, tl2147483647]; omega))) (fun z25 hz25 => ?_)
          exact Ok_some trivial
        · intro h
          have c1044 : z24.1.toInt ≠ 0 := i32ne h
          exact Ok_some trivial
      · intro h
        have c1045 : i2.toInt ≠ i3.toInt := i32ne h
        rw [wk21]
        show Ok ((fX8_isThrown (0 : Int32) (0 : Int32)).bind (fun z24 => if z24.1 = (0 : Int32) then ((fX8_least i4 f13 i2 i3).bind (fun z25 => some (z25, z24.2))) else (some ((0 : Int32), z24.2)))) _
        refine Ok_bind (ok_X8_isThrown (0 : Int32) (0 : Int32)) (fun z24 hz24 => ?_)
        try dsimp only at hz24
        try simp only [tl0, tl1, tl2, tl3, tl4, tl5, tl6, tl8, tl9, tl10, tl50, tl81, tl100, tl1000, tl9999, tlm1, tlm9, tlm50, tl2147483647] at hz24
        refine Ok_if ?_ ?_
        · intro h
          have c1046 : z24.1.toInt = 0 := i32eq h
          refine Ok_bind (ok_X8_least i4 f13 i2 i3 (by first | omega | assumption | (try simp only [tl0, tl1, tl2, tl3, tl4, tl5, tl6, tl8, tl9, tl10, tl50, tl81, tl100, tl1000, tl9999, tlm1, tlm9, tlm50, tl2147483647]; omega))) (fun z25 hz25 => ?_)
          exact Ok_some trivial
        · intro h
          have c1047 : z24.1.toInt ≠ 0 := i32ne h
          exact Ok_some trivial
set_option maxRecDepth 4000 in
theorem ok_X8_about (i2 : Int32) (i5 : Int32) (i6 : Int32) (f11 : Nat → Int32) (h0 : 2 ≤ i2.toInt ∧ i2.toInt ≤ 9) (h1 : 0 ≤ i5.toInt ∧ i5.toInt ≤ 8) (h2 : 0 ≤ i6.toInt ∧ i6.toInt ≤ 8) : Ok (fX8_about i2 i5 i6 f11) (fun z => True) := by
  unfold fX8_about
  refine Ok_bind (ok_X8_leastNow i2 i5 i6 f11 (by first | omega | assumption | (try simp only [tl0, tl1, tl2, tl3, tl4, tl5, tl6, tl8, tl9, tl10, tl50, tl81, tl100, tl1000, tl9999, tlm1, tlm9, tlm50, tl2147483647]; omega)) (by first | omega | assumption | (try simp only [tl0, tl1, tl2, tl3, tl4, tl5, tl6, tl8, tl9, tl10, tl50, tl81, tl100, tl1000, tl9999, tlm1, tlm9, tlm50, tl2147483647]; omega)) (by first | omega | assumption | (try simp only [tl0, tl1, tl2, tl3, tl4, tl5, tl6, tl8, tl9, tl10, tl50, tl81, tl100, tl1000, tl9999, tlm1, tlm9, tlm50, tl2147483647]; omega))) (fun z12 hz12 => ?_)
  exact Ok_some trivial
set_option maxRecDepth 4000 in
theorem okL_X8_apartNow_L10 (f11 : Nat → Int32) {P : (Int32) → Prop} {k1 : (Nat → Int32) → Option (Int32)}  (hk1 : ∀ (y1 : (Nat → Int32)), Ok (k1 y1) P) : ∀ (n : Nat) (i29 : Int32) (f30 : Nat → Int32), 0 ≤ i29.toInt → 81 - i29.toInt < n → 0 < n → Ok (LX8_apartNow_L10 f11 n i29 f30 k1) P := by
  intro n
  induction n with
  | zero => intro i29 f30 v0 hm h0; exact absurd h0 (Nat.lt_irrefl 0)
  | succ n ih =>
    intro i29 f30 v0 hm h0
    show Ok (BX8_apartNow_L10 f11 i29 f30 (fun i29 f30 => LX8_apartNow_L10 f11 n i29 f30 k1) k1) _
    unfold BX8_apartNow_L10
    refine Ok_if ?_ ?_
    · intro h
      have c1048 : 81 ≤ i29.toInt := i32le h
      exact hk1 f30
    · intro h
      have c1049 : i29.toInt < 81 := i32nle h
      refine Ok_inB (vp_of (by first | omega | assumption | (try simp only [tl0, tl1, tl2, tl3, tl4, tl5, tl6, tl8, tl9, tl10, tl50, tl81, tl100, tl1000, tl9999, tlm1, tlm9, tlm50, tl2147483647]; omega)) (by first | omega | assumption | (try simp only [tl0, tl1, tl2, tl3, tl4, tl5, tl6, tl8, tl9, tl10, tl50, tl81, tl100, tl1000, tl9999, tlm1, tlm9, tlm50, tl2147483647]; omega))) ?_
      refine Ok_jn (fun k31 wk31 => ?_)
      refine Ok_if ?_ ?_
      · intro h
        have c1050 : (f11 i29.toNatClampNeg).toInt ≤ 0 := i32le h
        rw [wk31]
        show Ok (inB i29 81 ((fun i29 f30 => LX8_apartNow_L10 f11 n i29 f30 k1) (i29 + (1 : Int32)) (upd f30 i29.toNatClampNeg (0 : Int32)))) _
        refine Ok_inB (vp_of (by first | omega | assumption | (try simp only [tl0, tl1, tl2, tl3, tl4, tl5, tl6, tl8, tl9, tl10, tl50, tl81, tl100, tl1000, tl9999, tlm1, tlm9, tlm50, tl2147483647]; omega)) (by first | omega | assumption | (try simp only [tl0, tl1, tl2, tl3, tl4, tl5, tl6, tl8, tl9, tl10, tl50, tl81, tl100, tl1000, tl9999, tlm1, tlm9, tlm50, tl2147483647]; omega))) ?_
        try (have e1051 := inc_iv (x := i29) (by omega))
        exact ih (i29 + (1 : Int32)) (upd f30 i29.toNatClampNeg (0 : Int32)) (by first | omega | assumption | (try simp only [tl0, tl1, tl2, tl3, tl4, tl5, tl6, tl8, tl9, tl10, tl50, tl81, tl100, tl1000, tl9999, tlm1, tlm9, tlm50, tl2147483647]; omega)) (by first | omega | assumption | (try simp only [tl0, tl1, tl2, tl3, tl4, tl5, tl6, tl8, tl9, tl10, tl50, tl81, tl100, tl1000, tl9999, tlm1, tlm9, tlm50, tl2147483647]; omega)) (by first | omega | assumption | (try simp only [tl0, tl1, tl2, tl3, tl4, tl5, tl6, tl8, tl9, tl10, tl50, tl81, tl100, tl1000, tl9999, tlm1, tlm9, tlm50, tl2147483647]; omega))
      · intro h
        have c1052 : 0 < (f11 i29.toNatClampNeg).toInt := i32nle h
        rw [wk31]
        show Ok (inB i29 81 ((fun i29 f30 => LX8_apartNow_L10 f11 n i29 f30 k1) (i29 + (1 : Int32)) (upd f30 i29.toNatClampNeg (1 : Int32)))) _
        refine Ok_inB (vp_of (by first | omega | assumption | (try simp only [tl0, tl1, tl2, tl3, tl4, tl5, tl6, tl8, tl9, tl10, tl50, tl81, tl100, tl1000, tl9999, tlm1, tlm9, tlm50, tl2147483647]; omega)) (by first | omega | assumption | (try simp only [tl0, tl1, tl2, tl3, tl4, tl5, tl6, tl8, tl9, tl10, tl50, tl81, tl100, tl1000, tl9999, tlm1, tlm9, tlm50, tl2147483647]; omega))) ?_
        try (have e1053 := inc_iv (x := i29) (by omega))
        exact ih (i29 + (1 : Int32)) (upd f30 i29.toNatClampNeg (1 : Int32)) (by first | omega | assumption | (try simp only [tl0, tl1, tl2, tl3, tl4, tl5, tl6, tl8, tl9, tl10, tl50, tl81, tl100, tl1000, tl9999, tlm1, tlm9, tlm50, tl2147483647]; omega)) (by first | omega | assumption | (try simp only [tl0, tl1, tl2, tl3, tl4, tl5, tl6, tl8, tl9, tl10, tl50, tl81, tl100, tl1000, tl9999, tlm1, tlm9, tlm50, tl2147483647]; omega)) (by first | omega | assumption | (try simp only [tl0, tl1, tl2, tl3, tl4, tl5, tl6, tl8, tl9, tl10, tl50, tl81, tl100, tl1000, tl9999, tlm1, tlm9, tlm50, tl2147483647]; omega))
set_option maxRecDepth 4000 in
theorem ok_X8_apartNow (i2 : Int32) (i5 : Int32) (i6 : Int32) (f11 : Nat → Int32) (h0 : 2 ≤ i2.toInt ∧ i2.toInt ≤ 9) (h1 : 0 ≤ i5.toInt ∧ i5.toInt ≤ 8) (h2 : 0 ≤ i6.toInt ∧ i6.toInt ≤ 8) : Ok (fX8_apartNow i2 i5 i6 f11) (fun z => True) := by
  unfold fX8_apartNow
  refine okL_X8_apartNow_L10 f11 ?_ 600 (0 : Int32) (fun _ => 0) (by first | omega | assumption | (try simp only [tl0, tl1, tl2, tl3, tl4, tl5, tl6, tl8, tl9, tl10, tl50, tl81, tl100, tl1000, tl9999, tlm1, tlm9, tlm50, tl2147483647]; omega)) (by first | omega | assumption | (try simp only [tl0, tl1, tl2, tl3, tl4, tl5, tl6, tl8, tl9, tl10, tl50, tl81, tl100, tl1000, tl9999, tlm1, tlm9, tlm50, tl2147483647]; omega)) (by first | omega | assumption | (try simp only [tl0, tl1, tl2, tl3, tl4, tl5, tl6, tl8, tl9, tl10, tl50, tl81, tl100, tl1000, tl9999, tlm1, tlm9, tlm50, tl2147483647]; omega))
  intro f34
  show Ok ((fX8_least i2 f34 i5 i6).bind (fun z35 => some z35)) _
  refine Ok_bind (ok_X8_least i2 f34 i5 i6 (by first | omega | assumption | (try simp only [tl0, tl1, tl2, tl3, tl4, tl5, tl6, tl8, tl9, tl10, tl50, tl81, tl100, tl1000, tl9999, tlm1, tlm9, tlm50, tl2147483647]; omega))) (fun z35 hz35 => ?_)
  exact Ok_some trivial
set_option maxRecDepth 4000 in
theorem ok_X8_apart (i3 : Int32) (i6 : Int32) (i7 : Int32) (f12 : Nat → Int32) (i2 : Int32) (h0 : 2 ≤ i3.toInt ∧ i3.toInt ≤ 9) (h1 : 0 ≤ i6.toInt ∧ i6.toInt ≤ 8) (h2 : 0 ≤ i7.toInt ∧ i7.toInt ≤ 8) : Ok (fX8_apart i3 i6 i7 f12 i2) (fun z => True) := by
  unfold fX8_apart
  refine Ok_jn (fun k13 wk13 => ?_)
  refine Ok_jn (fun k15 wk15 => ?_)
  refine Ok_if ?_ ?_
  · intro h
    have c1054 : i2.toInt < 0 := i32lt h
    rw [wk15]
    show Ok (k13 (1 : Int32)) _
    rw [wk13]
    show Ok ((fX8_isThrown_ (1 : Int32)).bind (fun z18 => if z18.1 = (0 : Int32) then ((fX8_apartNow i3 i6 i7 f12).bind (fun z19 => some (z19, z18.2))) else (some ((0 : Int32), z18.2)))) _
    refine Ok_bind (ok_X8_isThrown_ (1 : Int32)) (fun z18 hz18 => ?_)
    try dsimp only at hz18
    try simp only [tl0, tl1, tl2, tl3, tl4, tl5, tl6, tl8, tl9, tl10, tl50, tl81, tl100, tl1000, tl9999, tlm1, tlm9, tlm50, tl2147483647] at hz18
    refine Ok_if ?_ ?_
    · intro h
      have c1055 : z18.1.toInt = 0 := i32eq h
      refine Ok_bind (ok_X8_apartNow i3 i6 i7 f12 (by first | omega | assumption | (try simp only [tl0, tl1, tl2, tl3, tl4, tl5, tl6, tl8, tl9, tl10, tl50, tl81, tl100, tl1000, tl9999, tlm1, tlm9, tlm50, tl2147483647]; omega)) (by first | omega | assumption | (try simp only [tl0, tl1, tl2, tl3, tl4, tl5, tl6, tl8, tl9, tl10, tl50, tl81, tl100, tl1000, tl9999, tlm1, tlm9, tlm50, tl2147483647]; omega)) (by first | omega | assumption | (try simp only [tl0, tl1, tl2, tl3, tl4, tl5, tl6, tl8, tl9, tl10, tl50, tl81, tl100, tl1000, tl9999, tlm1, tlm9, tlm50, tl2147483647]; omega))) (fun z19 hz19 => ?_)
      exact Ok_some trivial
    · intro h
      have c1056 : z18.1.toInt ≠ 0 := i32ne h
      exact Ok_some trivial
  · intro h
    have c1057 : 0 ≤ i2.toInt := i32nlt h
    refine Ok_if ?_ ?_
    · intro h
      have c1058 : i2.toInt ≤ 1 := i32le h
      rw [wk13]
      show Ok ((fX8_isThrown_ (0 : Int32)).bind (fun z18 => if z18.1 = (0 : Int32) then ((fX8_apartNow i3 i6 i7 f12).bind (fun z19 => some (z19, z18.2))) else (some ((0 : Int32), z18.2)))) _
      refine Ok_bind (ok_X8_isThrown_ (0 : Int32)) (fun z18 hz18 => ?_)
      try dsimp only at hz18
      try simp only [tl0, tl1, tl2, tl3, tl4, tl5, tl6, tl8, tl9, tl10, tl50, tl81, tl100, tl1000, tl9999, tlm1, tlm9, tlm50, tl2147483647] at hz18
      refine Ok_if ?_ ?_
      · intro h
        have c1059 : z18.1.toInt = 0 := i32eq h
        refine Ok_bind (ok_X8_apartNow i3 i6 i7 f12 (by first | omega | assumption | (try simp only [tl0, tl1, tl2, tl3, tl4, tl5, tl6, tl8, tl9, tl10, tl50, tl81, tl100, tl1000, tl9999, tlm1, tlm9, tlm50, tl2147483647]; omega)) (by first | omega | assumption | (try simp only [tl0, tl1, tl2, tl3, tl4, tl5, tl6, tl8, tl9, tl10, tl50, tl81, tl100, tl1000, tl9999, tlm1, tlm9, tlm50, tl2147483647]; omega)) (by first | omega | assumption | (try simp only [tl0, tl1, tl2, tl3, tl4, tl5, tl6, tl8, tl9, tl10, tl50, tl81, tl100, tl1000, tl9999, tlm1, tlm9, tlm50, tl2147483647]; omega))) (fun z19 hz19 => ?_)
        exact Ok_some trivial
      · intro h
        have c1060 : z18.1.toInt ≠ 0 := i32ne h
        exact Ok_some trivial
    · intro h
      have c1061 : 1 < i2.toInt := i32nle h
      rw [wk15]
      show Ok (k13 (1 : Int32)) _
      rw [wk13]
      show Ok ((fX8_isThrown_ (1 : Int32)).bind (fun z18 => if z18.1 = (0 : Int32) then ((fX8_apartNow i3 i6 i7 f12).bind (fun z19 => some (z19, z18.2))) else (some ((0 : Int32), z18.2)))) _
      refine Ok_bind (ok_X8_isThrown_ (1 : Int32)) (fun z18 hz18 => ?_)
      try dsimp only at hz18
      try simp only [tl0, tl1, tl2, tl3, tl4, tl5, tl6, tl8, tl9, tl10, tl50, tl81, tl100, tl1000, tl9999, tlm1, tlm9, tlm50, tl2147483647] at hz18
      refine Ok_if ?_ ?_
      · intro h
        have c1062 : z18.1.toInt = 0 := i32eq h
        refine Ok_bind (ok_X8_apartNow i3 i6 i7 f12 (by first | omega | assumption | (try simp only [tl0, tl1, tl2, tl3, tl4, tl5, tl6, tl8, tl9, tl10, tl50, tl81, tl100, tl1000, tl9999, tlm1, tlm9, tlm50, tl2147483647]; omega)) (by first | omega | assumption | (try simp only [tl0, tl1, tl2, tl3, tl4, tl5, tl6, tl8, tl9, tl10, tl50, tl81, tl100, tl1000, tl9999, tlm1, tlm9, tlm50, tl2147483647]; omega)) (by first | omega | assumption | (try simp only [tl0, tl1, tl2, tl3, tl4, tl5, tl6, tl8, tl9, tl10, tl50, tl81, tl100, tl1000, tl9999, tlm1, tlm9, tlm50, tl2147483647]; omega))) (fun z19 hz19 => ?_)
        exact Ok_some trivial
      · intro h
        have c1063 : z18.1.toInt ≠ 0 := i32ne h
        exact Ok_some trivial
set_option maxRecDepth 4000 in
theorem ok_X8_houseNow (i8 : Int32) (i9 : Int32) (i10 : Int32) (i2 : Int32)  : Ok (fX8_houseNow i8 i9 i10 i2) (fun z => True) := by
  unfold fX8_houseNow
  refine Ok_if ?_ ?_
  · intro h
    have c1064 : i2.toInt = 0 := i32eq h
    exact Ok_some trivial
  · intro h
    have c1065 : i2.toInt ≠ 0 := i32ne h
    refine Ok_if ?_ ?_
    · intro h
      have c1066 : i2.toInt = 1 := i32eq h
      exact Ok_some trivial
    · intro h
      have c1067 : i2.toInt ≠ 1 := i32ne h
      exact Ok_some trivial
set_option maxRecDepth 4000 in
theorem ok_X8_house (i8 : Int32) (i9 : Int32) (i10 : Int32) (i2 : Int32)  : Ok (fX8_house i8 i9 i10 i2) (fun z => True) := by
  unfold fX8_house
  refine Ok_jn (fun k12 wk12 => ?_)
  refine Ok_jn (fun k14 wk14 => ?_)
  refine Ok_if ?_ ?_
  · intro h
    have c1068 : i2.toInt < 0 := i32lt h
    rw [wk14]
    show Ok (k12 (1 : Int32)) _
    rw [wk12]
    show Ok ((fX8_isThrown_ (1 : Int32)).bind (fun z17 => if z17.1 = (0 : Int32) then ((fX8_houseNow i8 i9 i10 i2).bind (fun z18 => some (z18, z17.2))) else (some ((0 : Int32), z17.2)))) _
    refine Ok_bind (ok_X8_isThrown_ (1 : Int32)) (fun z17 hz17 => ?_)
    try dsimp only at hz17
    try simp only [tl0, tl1, tl2, tl3, tl4, tl5, tl6, tl8, tl9, tl10, tl50, tl81, tl100, tl1000, tl9999, tlm1, tlm9, tlm50, tl2147483647] at hz17
    refine Ok_if ?_ ?_
    · intro h
      have c1069 : z17.1.toInt = 0 := i32eq h
      refine Ok_bind (ok_X8_houseNow i8 i9 i10 i2) (fun z18 hz18 => ?_)
      exact Ok_some trivial
    · intro h
      have c1070 : z17.1.toInt ≠ 0 := i32ne h
      exact Ok_some trivial
  · intro h
    have c1071 : 0 ≤ i2.toInt := i32nlt h
    refine Ok_if ?_ ?_
    · intro h
      have c1072 : i2.toInt ≤ 2 := i32le h
      rw [wk12]
      show Ok ((fX8_isThrown_ (0 : Int32)).bind (fun z17 => if z17.1 = (0 : Int32) then ((fX8_houseNow i8 i9 i10 i2).bind (fun z18 => some (z18, z17.2))) else (some ((0 : Int32), z17.2)))) _
      refine Ok_bind (ok_X8_isThrown_ (0 : Int32)) (fun z17 hz17 => ?_)
      try dsimp only at hz17
      try simp only [tl0, tl1, tl2, tl3, tl4, tl5, tl6, tl8, tl9, tl10, tl50, tl81, tl100, tl1000, tl9999, tlm1, tlm9, tlm50, tl2147483647] at hz17
      refine Ok_if ?_ ?_
      · intro h
        have c1073 : z17.1.toInt = 0 := i32eq h
        refine Ok_bind (ok_X8_houseNow i8 i9 i10 i2) (fun z18 hz18 => ?_)
        exact Ok_some trivial
      · intro h
        have c1074 : z17.1.toInt ≠ 0 := i32ne h
        exact Ok_some trivial
    · intro h
      have c1075 : 2 < i2.toInt := i32nle h
      rw [wk14]
      show Ok (k12 (1 : Int32)) _
      rw [wk12]
      show Ok ((fX8_isThrown_ (1 : Int32)).bind (fun z17 => if z17.1 = (0 : Int32) then ((fX8_houseNow i8 i9 i10 i2).bind (fun z18 => some (z18, z17.2))) else (some ((0 : Int32), z17.2)))) _
      refine Ok_bind (ok_X8_isThrown_ (1 : Int32)) (fun z17 hz17 => ?_)
      try dsimp only at hz17
      try simp only [tl0, tl1, tl2, tl3, tl4, tl5, tl6, tl8, tl9, tl10, tl50, tl81, tl100, tl1000, tl9999, tlm1, tlm9, tlm50, tl2147483647] at hz17
      refine Ok_if ?_ ?_
      · intro h
        have c1076 : z17.1.toInt = 0 := i32eq h
        refine Ok_bind (ok_X8_houseNow i8 i9 i10 i2) (fun z18 hz18 => ?_)
        exact Ok_some trivial
      · intro h
        have c1077 : z17.1.toInt ≠ 0 := i32ne h
        exact Ok_some trivial
set_option maxRecDepth 4000 in
theorem ok_X8_knock (i9 : Int32)  : Ok (fX8_knock i9) (fun z => True) := by
  unfold fX8_knock
  try (have e1078 := inc_iv (x := i9) (by omega))
  exact Ok_some trivial
