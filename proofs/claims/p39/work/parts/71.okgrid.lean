/-! by program: what the class's functions give -/
set_option maxRecDepth 4000 in
theorem ok_X1_init   : Ok (fX1_init ) (fun z => True) := by
  unfold fX1_init
  exact Ok_some trivial
set_option maxRecDepth 4000 in
theorem ok_X1_at (f5 : Nat → Int32) (i2 : Int32) (i3 : Int32)  : Ok (fX1_at f5 i2 i3) (fun z => True) := by
  unfold fX1_at
  refine Ok_if ?_ ?_
  · intro h
    have c1 : i2.toInt < 0 := i32lt h
    exact Ok_some trivial
  · intro h
    have c2 : 0 ≤ i2.toInt := i32nlt h
    refine Ok_if ?_ ?_
    · intro h
      have c3 : 9 ≤ i2.toInt := i32le h
      exact Ok_some trivial
    · intro h
      have c4 : i2.toInt < 9 := i32nle h
      refine Ok_if ?_ ?_
      · intro h
        have c5 : i3.toInt < 0 := i32lt h
        exact Ok_some trivial
      · intro h
        have c6 : 0 ≤ i3.toInt := i32nlt h
        refine Ok_if ?_ ?_
        · intro h
          have c7 : i3.toInt < 9 := i32lt h
          try (have e8 := idx_iv (x := i2) (y := i3) (by omega) (by omega) (by omega) (by omega))
          refine Ok_inB (vp_of (by first | omega | assumption | (try simp only [tl0, tl1, tl2, tl3, tl4, tl5, tl6, tl8, tl9, tl10, tl50, tl81, tl100, tl1000, tl9999, tlm1, tlm9, tlm50, tl2147483647]; omega)) (by first | omega | assumption | (try simp only [tl0, tl1, tl2, tl3, tl4, tl5, tl6, tl8, tl9, tl10, tl50, tl81, tl100, tl1000, tl9999, tlm1, tlm9, tlm50, tl2147483647]; omega))) ?_
          exact Ok_some trivial
        · intro h
          have c9 : 9 ≤ i3.toInt := i32nlt h
          exact Ok_some trivial
set_option maxRecDepth 4000 in
theorem ok_X1_put (f6 : Nat → Int32) (i2 : Int32) (i3 : Int32) (i4 : Int32)  : Ok (fX1_put f6 i2 i3 i4) (fun z => True) := by
  unfold fX1_put
  refine Ok_if ?_ ?_
  · intro h
    have c10 : i2.toInt < 0 := i32lt h
    exact Ok_some trivial
  · intro h
    have c11 : 0 ≤ i2.toInt := i32nlt h
    refine Ok_if ?_ ?_
    · intro h
      have c12 : 9 ≤ i2.toInt := i32le h
      exact Ok_some trivial
    · intro h
      have c13 : i2.toInt < 9 := i32nle h
      refine Ok_if ?_ ?_
      · intro h
        have c14 : i3.toInt < 0 := i32lt h
        exact Ok_some trivial
      · intro h
        have c15 : 0 ≤ i3.toInt := i32nlt h
        refine Ok_if ?_ ?_
        · intro h
          have c16 : 9 ≤ i3.toInt := i32le h
          exact Ok_some trivial
        · intro h
          have c17 : i3.toInt < 9 := i32nle h
          try (have e18 := idx_iv (x := i2) (y := i3) (by omega) (by omega) (by omega) (by omega))
          refine Ok_inB (vp_of (by first | omega | assumption | (try simp only [tl0, tl1, tl2, tl3, tl4, tl5, tl6, tl8, tl9, tl10, tl50, tl81, tl100, tl1000, tl9999, tlm1, tlm9, tlm50, tl2147483647]; omega)) (by first | omega | assumption | (try simp only [tl0, tl1, tl2, tl3, tl4, tl5, tl6, tl8, tl9, tl10, tl50, tl81, tl100, tl1000, tl9999, tlm1, tlm9, tlm50, tl2147483647]; omega))) ?_
          exact Ok_some trivial
set_option maxRecDepth 4000 in
theorem okL_X1_clear_L2      : ∀ (n : Nat) (i7 : Int32) (f8 : Nat → Int32), 0 ≤ i7.toInt → 81 - i7.toInt < n → 0 < n → Ok (LX1_clear_L2  n i7 f8 ) (fun z => True) := by
  intro n
  induction n with
  | zero => intro i7 f8 v0 hm h0; exact absurd h0 (Nat.lt_irrefl 0)
  | succ n ih =>
    intro i7 f8 v0 hm h0
    show Ok (BX1_clear_L2  i7 f8 (fun i7 f8 => LX1_clear_L2  n i7 f8 ) ) _
    unfold BX1_clear_L2
    refine Ok_if ?_ ?_
    · intro h
      have c19 : 81 ≤ i7.toInt := i32le h
      exact Ok_some trivial
    · intro h
      have c20 : i7.toInt < 81 := i32nle h
      refine Ok_inB (vp_of (by first | omega | assumption | (try simp only [tl0, tl1, tl2, tl3, tl4, tl5, tl6, tl8, tl9, tl10, tl50, tl81, tl100, tl1000, tl9999, tlm1, tlm9, tlm50, tl2147483647]; omega)) (by first | omega | assumption | (try simp only [tl0, tl1, tl2, tl3, tl4, tl5, tl6, tl8, tl9, tl10, tl50, tl81, tl100, tl1000, tl9999, tlm1, tlm9, tlm50, tl2147483647]; omega))) ?_
      try (have e21 := inc_iv (x := i7) (by omega))
      exact ih (i7 + (1 : Int32)) (upd f8 i7.toNatClampNeg (0 : Int32)) (by first | omega | assumption | (try simp only [tl0, tl1, tl2, tl3, tl4, tl5, tl6, tl8, tl9, tl10, tl50, tl81, tl100, tl1000, tl9999, tlm1, tlm9, tlm50, tl2147483647]; omega)) (by first | omega | assumption | (try simp only [tl0, tl1, tl2, tl3, tl4, tl5, tl6, tl8, tl9, tl10, tl50, tl81, tl100, tl1000, tl9999, tlm1, tlm9, tlm50, tl2147483647]; omega)) (by first | omega | assumption | (try simp only [tl0, tl1, tl2, tl3, tl4, tl5, tl6, tl8, tl9, tl10, tl50, tl81, tl100, tl1000, tl9999, tlm1, tlm9, tlm50, tl2147483647]; omega))
set_option maxRecDepth 4000 in
theorem ok_X1_clear (f3 : Nat → Int32)  : Ok (fX1_clear f3) (fun z => True) := by
  unfold fX1_clear
  refine Ok_mono (okL_X1_clear_L2  90 (0 : Int32) f3 (by first | omega | assumption | (try simp only [tl0, tl1, tl2, tl3, tl4, tl5, tl6, tl8, tl9, tl10, tl50, tl81, tl100, tl1000, tl9999, tlm1, tlm9, tlm50, tl2147483647]; omega)) (by first | omega | assumption | (try simp only [tl0, tl1, tl2, tl3, tl4, tl5, tl6, tl8, tl9, tl10, tl50, tl81, tl100, tl1000, tl9999, tlm1, tlm9, tlm50, tl2147483647]; omega)) (by first | omega | assumption | (try simp only [tl0, tl1, tl2, tl3, tl4, tl5, tl6, tl8, tl9, tl10, tl50, tl81, tl100, tl1000, tl9999, tlm1, tlm9, tlm50, tl2147483647]; omega))) ?_
  intro z hz
  first | exact hz | (simp only [Sx] at *; omega) | (dsimp only at *; omega)
set_option maxRecDepth 4000 in
theorem okL_X1_become_L2 (f6 : Nat → Int32)     : ∀ (n : Nat) (i12 : Int32) (f13 : Nat → Int32), 0 ≤ i12.toInt → 81 - i12.toInt < n → 0 < n → Ok (LX1_become_L2 f6 n i12 f13 ) (fun z => True) := by
  intro n
  induction n with
  | zero => intro i12 f13 v0 hm h0; exact absurd h0 (Nat.lt_irrefl 0)
  | succ n ih =>
    intro i12 f13 v0 hm h0
    show Ok (BX1_become_L2 f6 i12 f13 (fun i12 f13 => LX1_become_L2 f6 n i12 f13 ) ) _
    unfold BX1_become_L2
    refine Ok_if ?_ ?_
    · intro h
      have c22 : 81 ≤ i12.toInt := i32le h
      exact Ok_some trivial
    · intro h
      have c23 : i12.toInt < 81 := i32nle h
      refine Ok_if ?_ ?_
      · intro h
        have c24 : 81 ≤ i12.toInt := i32le h
        exact Ok_some trivial
      · intro h
        have c25 : i12.toInt < 81 := i32nle h
        refine Ok_inB (vp_of (by first | omega | assumption | (try simp only [tl0, tl1, tl2, tl3, tl4, tl5, tl6, tl8, tl9, tl10, tl50, tl81, tl100, tl1000, tl9999, tlm1, tlm9, tlm50, tl2147483647]; omega)) (by first | omega | assumption | (try simp only [tl0, tl1, tl2, tl3, tl4, tl5, tl6, tl8, tl9, tl10, tl50, tl81, tl100, tl1000, tl9999, tlm1, tlm9, tlm50, tl2147483647]; omega))) ?_
        refine Ok_inB (vp_of (by first | omega | assumption | (try simp only [tl0, tl1, tl2, tl3, tl4, tl5, tl6, tl8, tl9, tl10, tl50, tl81, tl100, tl1000, tl9999, tlm1, tlm9, tlm50, tl2147483647]; omega)) (by first | omega | assumption | (try simp only [tl0, tl1, tl2, tl3, tl4, tl5, tl6, tl8, tl9, tl10, tl50, tl81, tl100, tl1000, tl9999, tlm1, tlm9, tlm50, tl2147483647]; omega))) ?_
        try (have e26 := inc_iv (x := i12) (by omega))
        exact ih (i12 + (1 : Int32)) (upd f13 i12.toNatClampNeg (f6 i12.toNatClampNeg)) (by first | omega | assumption | (try simp only [tl0, tl1, tl2, tl3, tl4, tl5, tl6, tl8, tl9, tl10, tl50, tl81, tl100, tl1000, tl9999, tlm1, tlm9, tlm50, tl2147483647]; omega)) (by first | omega | assumption | (try simp only [tl0, tl1, tl2, tl3, tl4, tl5, tl6, tl8, tl9, tl10, tl50, tl81, tl100, tl1000, tl9999, tlm1, tlm9, tlm50, tl2147483647]; omega)) (by first | omega | assumption | (try simp only [tl0, tl1, tl2, tl3, tl4, tl5, tl6, tl8, tl9, tl10, tl50, tl81, tl100, tl1000, tl9999, tlm1, tlm9, tlm50, tl2147483647]; omega))
set_option maxRecDepth 4000 in
theorem ok_X1_become (f4 : Nat → Int32) (f6 : Nat → Int32)  : Ok (fX1_become f4 f6) (fun z => True) := by
  unfold fX1_become
  refine Ok_mono (okL_X1_become_L2 f6 90 (0 : Int32) f4 (by first | omega | assumption | (try simp only [tl0, tl1, tl2, tl3, tl4, tl5, tl6, tl8, tl9, tl10, tl50, tl81, tl100, tl1000, tl9999, tlm1, tlm9, tlm50, tl2147483647]; omega)) (by first | omega | assumption | (try simp only [tl0, tl1, tl2, tl3, tl4, tl5, tl6, tl8, tl9, tl10, tl50, tl81, tl100, tl1000, tl9999, tlm1, tlm9, tlm50, tl2147483647]; omega)) (by first | omega | assumption | (try simp only [tl0, tl1, tl2, tl3, tl4, tl5, tl6, tl8, tl9, tl10, tl50, tl81, tl100, tl1000, tl9999, tlm1, tlm9, tlm50, tl2147483647]; omega))) ?_
  intro z hz
  first | exact hz | (simp only [Sx] at *; omega) | (dsimp only at *; omega)
set_option maxRecDepth 4000 in
theorem okL_X1_sumFrom_L5 (f5 : Nat → Int32) (i2 : Int32) (i3 : Int32)   (g0 : i3.toInt ≤ 9)  : ∀ (n : Nat) (i14 : Int32) (i15 : Int32), 0 ≤ i15.toInt → i3.toInt - i15.toInt < n → 0 < n → Ok (LX1_sumFrom_L5 f5 i2 i3 n i14 i15 ) (fun z => True) := by
  intro n
  induction n with
  | zero => intro i14 i15 v0 hm h0; exact absurd h0 (Nat.lt_irrefl 0)
  | succ n ih =>
    intro i14 i15 v0 hm h0
    show Ok (BX1_sumFrom_L5 f5 i2 i3 i14 i15 (fun i14 i15 => LX1_sumFrom_L5 f5 i2 i3 n i14 i15 ) ) _
    unfold BX1_sumFrom_L5
    refine Ok_if ?_ ?_
    · intro h
      have c27 : i3.toInt ≤ i15.toInt := i32le h
      exact Ok_some trivial
    · intro h
      have c28 : i15.toInt < i3.toInt := i32nle h
      refine Ok_bind (ok_X1_at f5 i2 i15) (fun z16 hz16 => ?_)
      refine Ok_nm (fun i17 wi17 => ?_)
      have qi17 := i32eq wi17
      try (have e29 := inc_iv (x := i15) (by omega))
      exact ih i17 (i15 + (1 : Int32)) (by first | omega | assumption | (try simp only [tl0, tl1, tl2, tl3, tl4, tl5, tl6, tl8, tl9, tl10, tl50, tl81, tl100, tl1000, tl9999, tlm1, tlm9, tlm50, tl2147483647]; omega)) (by first | omega | assumption | (try simp only [tl0, tl1, tl2, tl3, tl4, tl5, tl6, tl8, tl9, tl10, tl50, tl81, tl100, tl1000, tl9999, tlm1, tlm9, tlm50, tl2147483647]; omega)) (by first | omega | assumption | (try simp only [tl0, tl1, tl2, tl3, tl4, tl5, tl6, tl8, tl9, tl10, tl50, tl81, tl100, tl1000, tl9999, tlm1, tlm9, tlm50, tl2147483647]; omega))
set_option maxRecDepth 4000 in
theorem ok_X1_sumFrom (f5 : Nat → Int32) (i2 : Int32) (i3 : Int32) (h0 : i3.toInt ≤ 9) : Ok (fX1_sumFrom f5 i2 i3) (fun z => True) := by
  unfold fX1_sumFrom
  refine Ok_mono (okL_X1_sumFrom_L5 f5 i2 i3 (by first | omega | assumption | (try simp only [tl0, tl1, tl2, tl3, tl4, tl5, tl6, tl8, tl9, tl10, tl50, tl81, tl100, tl1000, tl9999, tlm1, tlm9, tlm50, tl2147483647]; omega)) 12 (0 : Int32) (0 : Int32) (by first | omega | assumption | (try simp only [tl0, tl1, tl2, tl3, tl4, tl5, tl6, tl8, tl9, tl10, tl50, tl81, tl100, tl1000, tl9999, tlm1, tlm9, tlm50, tl2147483647]; omega)) (by first | omega | assumption | (try simp only [tl0, tl1, tl2, tl3, tl4, tl5, tl6, tl8, tl9, tl10, tl50, tl81, tl100, tl1000, tl9999, tlm1, tlm9, tlm50, tl2147483647]; omega)) (by first | omega | assumption | (try simp only [tl0, tl1, tl2, tl3, tl4, tl5, tl6, tl8, tl9, tl10, tl50, tl81, tl100, tl1000, tl9999, tlm1, tlm9, tlm50, tl2147483647]; omega))) ?_
  intro z hz
  first | exact hz | (simp only [Sx] at *; omega) | (dsimp only at *; omega)
set_option maxRecDepth 4000 in
theorem okL_X1_sumAboveZeroFrom_L5 (f5 : Nat → Int32) (i2 : Int32) (i3 : Int32)   (g0 : i3.toInt ≤ 9)  : ∀ (n : Nat) (i14 : Int32) (i15 : Int32), 0 ≤ i15.toInt → i3.toInt - i15.toInt < n → 0 < n → Ok (LX1_sumAboveZeroFrom_L5 f5 i2 i3 n i14 i15 ) (fun z => True) := by
  intro n
  induction n with
  | zero => intro i14 i15 v0 hm h0; exact absurd h0 (Nat.lt_irrefl 0)
  | succ n ih =>
    intro i14 i15 v0 hm h0
    show Ok (BX1_sumAboveZeroFrom_L5 f5 i2 i3 i14 i15 (fun i14 i15 => LX1_sumAboveZeroFrom_L5 f5 i2 i3 n i14 i15 ) ) _
    unfold BX1_sumAboveZeroFrom_L5
    refine Ok_if ?_ ?_
    · intro h
      have c30 : i3.toInt ≤ i15.toInt := i32le h
      exact Ok_some trivial
    · intro h
      have c31 : i15.toInt < i3.toInt := i32nle h
      refine Ok_bind (ok_X1_at f5 i2 i15) (fun z16 hz16 => ?_)
      refine Ok_nm (fun i17 wi17 => ?_)
      have qi17 := i32eq wi17
      try (have e32 := inc_iv (x := i15) (by omega))
      exact ih i17 (i15 + (1 : Int32)) (by first | omega | assumption | (try simp only [tl0, tl1, tl2, tl3, tl4, tl5, tl6, tl8, tl9, tl10, tl50, tl81, tl100, tl1000, tl9999, tlm1, tlm9, tlm50, tl2147483647]; omega)) (by first | omega | assumption | (try simp only [tl0, tl1, tl2, tl3, tl4, tl5, tl6, tl8, tl9, tl10, tl50, tl81, tl100, tl1000, tl9999, tlm1, tlm9, tlm50, tl2147483647]; omega)) (by first | omega | assumption | (try simp only [tl0, tl1, tl2, tl3, tl4, tl5, tl6, tl8, tl9, tl10, tl50, tl81, tl100, tl1000, tl9999, tlm1, tlm9, tlm50, tl2147483647]; omega))
set_option maxRecDepth 4000 in
theorem ok_X1_sumAboveZeroFrom (f5 : Nat → Int32) (i2 : Int32) (i3 : Int32) (h0 : i3.toInt ≤ 9) : Ok (fX1_sumAboveZeroFrom f5 i2 i3) (fun z => True) := by
  unfold fX1_sumAboveZeroFrom
  refine Ok_mono (okL_X1_sumAboveZeroFrom_L5 f5 i2 i3 (by first | omega | assumption | (try simp only [tl0, tl1, tl2, tl3, tl4, tl5, tl6, tl8, tl9, tl10, tl50, tl81, tl100, tl1000, tl9999, tlm1, tlm9, tlm50, tl2147483647]; omega)) 12 (0 : Int32) (0 : Int32) (by first | omega | assumption | (try simp only [tl0, tl1, tl2, tl3, tl4, tl5, tl6, tl8, tl9, tl10, tl50, tl81, tl100, tl1000, tl9999, tlm1, tlm9, tlm50, tl2147483647]; omega)) (by first | omega | assumption | (try simp only [tl0, tl1, tl2, tl3, tl4, tl5, tl6, tl8, tl9, tl10, tl50, tl81, tl100, tl1000, tl9999, tlm1, tlm9, tlm50, tl2147483647]; omega)) (by first | omega | assumption | (try simp only [tl0, tl1, tl2, tl3, tl4, tl5, tl6, tl8, tl9, tl10, tl50, tl81, tl100, tl1000, tl9999, tlm1, tlm9, tlm50, tl2147483647]; omega))) ?_
  intro z hz
  first | exact hz | (simp only [Sx] at *; omega) | (dsimp only at *; omega)
set_option maxRecDepth 4000 in
theorem okL_X1_sumTo_L5 (f5 : Nat → Int32) (i2 : Int32) (i3 : Int32)   (g0 : i3.toInt ≤ 9)  : ∀ (n : Nat) (i14 : Int32) (i15 : Int32), 0 ≤ i15.toInt → i3.toInt - i15.toInt < n → 0 < n → Ok (LX1_sumTo_L5 f5 i2 i3 n i14 i15 ) (fun z => True) := by
  intro n
  induction n with
  | zero => intro i14 i15 v0 hm h0; exact absurd h0 (Nat.lt_irrefl 0)
  | succ n ih =>
    intro i14 i15 v0 hm h0
    show Ok (BX1_sumTo_L5 f5 i2 i3 i14 i15 (fun i14 i15 => LX1_sumTo_L5 f5 i2 i3 n i14 i15 ) ) _
    unfold BX1_sumTo_L5
    refine Ok_if ?_ ?_
    · intro h
      have c33 : i3.toInt ≤ i15.toInt := i32le h
      exact Ok_some trivial
    · intro h
      have c34 : i15.toInt < i3.toInt := i32nle h
      refine Ok_bind (ok_X1_at f5 i15 i2) (fun z16 hz16 => ?_)
      refine Ok_nm (fun i17 wi17 => ?_)
      have qi17 := i32eq wi17
      try (have e35 := inc_iv (x := i15) (by omega))
      exact ih i17 (i15 + (1 : Int32)) (by first | omega | assumption | (try simp only [tl0, tl1, tl2, tl3, tl4, tl5, tl6, tl8, tl9, tl10, tl50, tl81, tl100, tl1000, tl9999, tlm1, tlm9, tlm50, tl2147483647]; omega)) (by first | omega | assumption | (try simp only [tl0, tl1, tl2, tl3, tl4, tl5, tl6, tl8, tl9, tl10, tl50, tl81, tl100, tl1000, tl9999, tlm1, tlm9, tlm50, tl2147483647]; omega)) (by first | omega | assumption | (try simp only [tl0, tl1, tl2, tl3, tl4, tl5, tl6, tl8, tl9, tl10, tl50, tl81, tl100, tl1000, tl9999, tlm1, tlm9, tlm50, tl2147483647]; omega))
set_option maxRecDepth 4000 in
theorem ok_X1_sumTo (f5 : Nat → Int32) (i2 : Int32) (i3 : Int32) (h0 : i3.toInt ≤ 9) : Ok (fX1_sumTo f5 i2 i3) (fun z => True) := by
  unfold fX1_sumTo
  refine Ok_mono (okL_X1_sumTo_L5 f5 i2 i3 (by first | omega | assumption | (try simp only [tl0, tl1, tl2, tl3, tl4, tl5, tl6, tl8, tl9, tl10, tl50, tl81, tl100, tl1000, tl9999, tlm1, tlm9, tlm50, tl2147483647]; omega)) 12 (0 : Int32) (0 : Int32) (by first | omega | assumption | (try simp only [tl0, tl1, tl2, tl3, tl4, tl5, tl6, tl8, tl9, tl10, tl50, tl81, tl100, tl1000, tl9999, tlm1, tlm9, tlm50, tl2147483647]; omega)) (by first | omega | assumption | (try simp only [tl0, tl1, tl2, tl3, tl4, tl5, tl6, tl8, tl9, tl10, tl50, tl81, tl100, tl1000, tl9999, tlm1, tlm9, tlm50, tl2147483647]; omega)) (by first | omega | assumption | (try simp only [tl0, tl1, tl2, tl3, tl4, tl5, tl6, tl8, tl9, tl10, tl50, tl81, tl100, tl1000, tl9999, tlm1, tlm9, tlm50, tl2147483647]; omega))) ?_
  intro z hz
  first | exact hz | (simp only [Sx] at *; omega) | (dsimp only at *; omega)
set_option maxRecDepth 4000 in
theorem okL_X1_countAboveZero_L12 (f4 : Nat → Int32) (i2 : Int32) (i28 : Int32) {P : (Int32) → Prop} {k1 : Int32 → Option (Int32)} (g0 : i2.toInt ≤ 9) (hk1 : ∀ (y1 : Int32), Ok (k1 y1) P) : ∀ (n : Nat) (i39 : Int32) (i40 : Int32), 0 ≤ i40.toInt → i2.toInt - i40.toInt < n → 0 < n → Ok (LX1_countAboveZero_L12 f4 i2 i28 n i39 i40 k1) P := by
  intro n
  induction n with
  | zero => intro i39 i40 v0 hm h0; exact absurd h0 (Nat.lt_irrefl 0)
  | succ n ih =>
    intro i39 i40 v0 hm h0
    show Ok (BX1_countAboveZero_L12 f4 i2 i28 i39 i40 (fun i39 i40 => LX1_countAboveZero_L12 f4 i2 i28 n i39 i40 k1) k1) _
    unfold BX1_countAboveZero_L12
    refine Ok_if ?_ ?_
    · intro h
      have c38 : i2.toInt ≤ i40.toInt := i32le h
      exact hk1 i39
    · intro h
      have c39 : i40.toInt < i2.toInt := i32nle h
      refine Ok_bind (ok_X1_at f4 i28 i40) (fun z41 hz41 => ?_)
      refine Ok_jn (fun k42 wk42 => ?_)
      refine Ok_if ?_ ?_
      · intro h
        have c40 : z41.toInt ≤ 0 := i32le h
        rw [wk42]
        show Ok ((fun i39 i40 => LX1_countAboveZero_L12 f4 i2 i28 n i39 i40 k1) i39 (i40 + (1 : Int32))) _
        try (have e41 := inc_iv (x := i40) (by omega))
        exact ih i39 (i40 + (1 : Int32)) (by first | omega | assumption | (try simp only [tl0, tl1, tl2, tl3, tl4, tl5, tl6, tl8, tl9, tl10, tl50, tl81, tl100, tl1000, tl9999, tlm1, tlm9, tlm50, tl2147483647]; omega)) (by first | omega | assumption | (try simp only [tl0, tl1, tl2, tl3, tl4, tl5, tl6, tl8, tl9, tl10, tl50, tl81, tl100, tl1000, tl9999, tlm1, tlm9, tlm50, tl2147483647]; omega)) (by first | omega | assumption | (try simp only [tl0, tl1, tl2, tl3, tl4, tl5, tl6, tl8, tl9, tl10, tl50, tl81, tl100, tl1000, tl9999, tlm1, tlm9, tlm50, tl2147483647]; omega))
      · intro h
        have c42 : 0 < z41.toInt := i32nle h
        try (have e43 := inc_iv (x := i39) (by omega))
        rw [wk42]
        show Ok ((fun i39 i40 => LX1_countAboveZero_L12 f4 i2 i28 n i39 i40 k1) (i39 + (1 : Int32)) (i40 + (1 : Int32))) _
        try (have e44 := inc_iv (x := i40) (by omega))
        exact ih (i39 + (1 : Int32)) (i40 + (1 : Int32)) (by first | omega | assumption | (try simp only [tl0, tl1, tl2, tl3, tl4, tl5, tl6, tl8, tl9, tl10, tl50, tl81, tl100, tl1000, tl9999, tlm1, tlm9, tlm50, tl2147483647]; omega)) (by first | omega | assumption | (try simp only [tl0, tl1, tl2, tl3, tl4, tl5, tl6, tl8, tl9, tl10, tl50, tl81, tl100, tl1000, tl9999, tlm1, tlm9, tlm50, tl2147483647]; omega)) (by first | omega | assumption | (try simp only [tl0, tl1, tl2, tl3, tl4, tl5, tl6, tl8, tl9, tl10, tl50, tl81, tl100, tl1000, tl9999, tlm1, tlm9, tlm50, tl2147483647]; omega))
set_option maxRecDepth 4000 in
theorem okL_X1_countAboveZero_L4 (f4 : Nat → Int32) (i2 : Int32)   (g0 : i2.toInt ≤ 9)  : ∀ (n : Nat) (i27 : Int32) (i28 : Int32), 0 ≤ i28.toInt → i2.toInt - i28.toInt < n → 0 < n → Ok (LX1_countAboveZero_L4 f4 i2 n i27 i28 ) (fun z => True) := by
  intro n
  induction n with
  | zero => intro i27 i28 v0 hm h0; exact absurd h0 (Nat.lt_irrefl 0)
  | succ n ih =>
    intro i27 i28 v0 hm h0
    show Ok (BX1_countAboveZero_L4 f4 i2 i27 i28 (fun i27 i28 => LX1_countAboveZero_L4 f4 i2 n i27 i28 ) ) _
    unfold BX1_countAboveZero_L4
    refine Ok_if ?_ ?_
    · intro h
      have c36 : i2.toInt ≤ i28.toInt := i32le h
      exact Ok_some trivial
    · intro h
      have c37 : i28.toInt < i2.toInt := i32nle h
      refine okL_X1_countAboveZero_L12 f4 i2 i28 (by first | omega | assumption | (try simp only [tl0, tl1, tl2, tl3, tl4, tl5, tl6, tl8, tl9, tl10, tl50, tl81, tl100, tl1000, tl9999, tlm1, tlm9, tlm50, tl2147483647]; omega)) ?_ 12 i27 (0 : Int32) (by first | omega | assumption | (try simp only [tl0, tl1, tl2, tl3, tl4, tl5, tl6, tl8, tl9, tl10, tl50, tl81, tl100, tl1000, tl9999, tlm1, tlm9, tlm50, tl2147483647]; omega)) (by first | omega | assumption | (try simp only [tl0, tl1, tl2, tl3, tl4, tl5, tl6, tl8, tl9, tl10, tl50, tl81, tl100, tl1000, tl9999, tlm1, tlm9, tlm50, tl2147483647]; omega)) (by first | omega | assumption | (try simp only [tl0, tl1, tl2, tl3, tl4, tl5, tl6, tl8, tl9, tl10, tl50, tl81, tl100, tl1000, tl9999, tlm1, tlm9, tlm50, tl2147483647]; omega))
      intro i45
      show Ok ((fun i27 i28 => LX1_countAboveZero_L4 f4 i2 n i27 i28 ) i45 (i28 + (1 : Int32))) _
      try (have e45 := inc_iv (x := i28) (by omega))
      exact ih i45 (i28 + (1 : Int32)) (by first | omega | assumption | (try simp only [tl0, tl1, tl2, tl3, tl4, tl5, tl6, tl8, tl9, tl10, tl50, tl81, tl100, tl1000, tl9999, tlm1, tlm9, tlm50, tl2147483647]; omega)) (by first | omega | assumption | (try simp only [tl0, tl1, tl2, tl3, tl4, tl5, tl6, tl8, tl9, tl10, tl50, tl81, tl100, tl1000, tl9999, tlm1, tlm9, tlm50, tl2147483647]; omega)) (by first | omega | assumption | (try simp only [tl0, tl1, tl2, tl3, tl4, tl5, tl6, tl8, tl9, tl10, tl50, tl81, tl100, tl1000, tl9999, tlm1, tlm9, tlm50, tl2147483647]; omega))
set_option maxRecDepth 4000 in
theorem ok_X1_countAboveZero (f4 : Nat → Int32) (i2 : Int32) (h0 : i2.toInt ≤ 9) : Ok (fX1_countAboveZero f4 i2) (fun z => True) := by
  unfold fX1_countAboveZero
  refine Ok_mono (okL_X1_countAboveZero_L4 f4 i2 (by first | omega | assumption | (try simp only [tl0, tl1, tl2, tl3, tl4, tl5, tl6, tl8, tl9, tl10, tl50, tl81, tl100, tl1000, tl9999, tlm1, tlm9, tlm50, tl2147483647]; omega)) 12 (0 : Int32) (0 : Int32) (by first | omega | assumption | (try simp only [tl0, tl1, tl2, tl3, tl4, tl5, tl6, tl8, tl9, tl10, tl50, tl81, tl100, tl1000, tl9999, tlm1, tlm9, tlm50, tl2147483647]; omega)) (by first | omega | assumption | (try simp only [tl0, tl1, tl2, tl3, tl4, tl5, tl6, tl8, tl9, tl10, tl50, tl81, tl100, tl1000, tl9999, tlm1, tlm9, tlm50, tl2147483647]; omega)) (by first | omega | assumption | (try simp only [tl0, tl1, tl2, tl3, tl4, tl5, tl6, tl8, tl9, tl10, tl50, tl81, tl100, tl1000, tl9999, tlm1, tlm9, tlm50, tl2147483647]; omega))) ?_
  intro z hz
  first | exact hz | (simp only [Sx] at *; omega) | (dsimp only at *; omega)
set_option maxRecDepth 4000 in
theorem ok_X1_exchangeCells (f7 : Nat → Int32) (i2 : Int32) (i3 : Int32) (i4 : Int32) (i5 : Int32)  : Ok (fX1_exchangeCells f7 i2 i3 i4 i5) (fun z => True) := by
  unfold fX1_exchangeCells
  refine Ok_bind (ok_X1_at f7 i2 i3) (fun z8 hz8 => ?_)
  refine Ok_bind (ok_X1_at f7 i4 i5) (fun z9 hz9 => ?_)
  refine Ok_bind (ok_X1_put f7 i2 i3 z9) (fun z10 hz10 => ?_)
  refine Ok_bind (ok_X1_put z10 i4 i5 z8) (fun z11 hz11 => ?_)
  exact Ok_some trivial
set_option maxRecDepth 4000 in
theorem okL_X1_turn_L9 (i19 : Int32) {P : ((Nat → Int32)) → Prop} {k1 : (Nat → Int32) → Option ((Nat → Int32))} (g0 : i19.toInt ≤ 9) (hk1 : ∀ (y1 : (Nat → Int32)), Ok (k1 y1) P) : ∀ (n : Nat) (i27 : Int32) (f28 : Nat → Int32), 0 ≤ i27.toInt → i19.toInt - i27.toInt < n → 0 < n → Ok (LX1_turn_L9 i19 n i27 f28 k1) P := by
  intro n
  induction n with
  | zero => intro i27 f28 v0 hm h0; exact absurd h0 (Nat.lt_irrefl 0)
  | succ n ih =>
    intro i27 f28 v0 hm h0
    show Ok (BX1_turn_L9 i19 i27 f28 (fun i27 f28 => LX1_turn_L9 i19 n i27 f28 k1) k1) _
    unfold BX1_turn_L9
    refine Ok_if ?_ ?_
    · intro h
      have c48 : i19.toInt ≤ i27.toInt := i32le h
      exact hk1 f28
    · intro h
      have c49 : i27.toInt < i19.toInt := i32nle h
      refine Ok_bind (ok_X1_exchangeCells f28 i19 i27 i27 i19) (fun z29 hz29 => ?_)
      try (have e50 := inc_iv (x := i27) (by omega))
      exact ih (i27 + (1 : Int32)) z29 (by first | omega | assumption | (try simp only [tl0, tl1, tl2, tl3, tl4, tl5, tl6, tl8, tl9, tl10, tl50, tl81, tl100, tl1000, tl9999, tlm1, tlm9, tlm50, tl2147483647]; omega)) (by first | omega | assumption | (try simp only [tl0, tl1, tl2, tl3, tl4, tl5, tl6, tl8, tl9, tl10, tl50, tl81, tl100, tl1000, tl9999, tlm1, tlm9, tlm50, tl2147483647]; omega)) (by first | omega | assumption | (try simp only [tl0, tl1, tl2, tl3, tl4, tl5, tl6, tl8, tl9, tl10, tl50, tl81, tl100, tl1000, tl9999, tlm1, tlm9, tlm50, tl2147483647]; omega))
set_option maxRecDepth 4000 in
theorem okL_X1_turn_L2 (i2 : Int32)   (g0 : i2.toInt ≤ 9)  : ∀ (n : Nat) (i19 : Int32) (f20 : Nat → Int32), 0 ≤ i19.toInt → i2.toInt - i19.toInt < n → 0 < n → Ok (LX1_turn_L2 i2 n i19 f20 ) (fun z => True) := by
  intro n
  induction n with
  | zero => intro i19 f20 v0 hm h0; exact absurd h0 (Nat.lt_irrefl 0)
  | succ n ih =>
    intro i19 f20 v0 hm h0
    show Ok (BX1_turn_L2 i2 i19 f20 (fun i19 f20 => LX1_turn_L2 i2 n i19 f20 ) ) _
    unfold BX1_turn_L2
    refine Ok_if ?_ ?_
    · intro h
      have c46 : i2.toInt ≤ i19.toInt := i32le h
      exact Ok_some trivial
    · intro h
      have c47 : i19.toInt < i2.toInt := i32nle h
      refine okL_X1_turn_L9 i19 (by first | omega | assumption | (try simp only [tl0, tl1, tl2, tl3, tl4, tl5, tl6, tl8, tl9, tl10, tl50, tl81, tl100, tl1000, tl9999, tlm1, tlm9, tlm50, tl2147483647]; omega)) ?_ 12 (0 : Int32) f20 (by first | omega | assumption | (try simp only [tl0, tl1, tl2, tl3, tl4, tl5, tl6, tl8, tl9, tl10, tl50, tl81, tl100, tl1000, tl9999, tlm1, tlm9, tlm50, tl2147483647]; omega)) (by first | omega | assumption | (try simp only [tl0, tl1, tl2, tl3, tl4, tl5, tl6, tl8, tl9, tl10, tl50, tl81, tl100, tl1000, tl9999, tlm1, tlm9, tlm50, tl2147483647]; omega)) (by first | omega | assumption | (try simp only [tl0, tl1, tl2, tl3, tl4, tl5, tl6, tl8, tl9, tl10, tl50, tl81, tl100, tl1000, tl9999, tlm1, tlm9, tlm50, tl2147483647]; omega))
      intro f30
      show Ok ((fun i19 f20 => LX1_turn_L2 i2 n i19 f20 ) (i19 + (1 : Int32)) f30) _
      try (have e51 := inc_iv (x := i19) (by omega))
      exact ih (i19 + (1 : Int32)) f30 (by first | omega | assumption | (try simp only [tl0, tl1, tl2, tl3, tl4, tl5, tl6, tl8, tl9, tl10, tl50, tl81, tl100, tl1000, tl9999, tlm1, tlm9, tlm50, tl2147483647]; omega)) (by first | omega | assumption | (try simp only [tl0, tl1, tl2, tl3, tl4, tl5, tl6, tl8, tl9, tl10, tl50, tl81, tl100, tl1000, tl9999, tlm1, tlm9, tlm50, tl2147483647]; omega)) (by first | omega | assumption | (try simp only [tl0, tl1, tl2, tl3, tl4, tl5, tl6, tl8, tl9, tl10, tl50, tl81, tl100, tl1000, tl9999, tlm1, tlm9, tlm50, tl2147483647]; omega))
set_option maxRecDepth 4000 in
theorem ok_X1_turn (f4 : Nat → Int32) (i2 : Int32) (h0 : i2.toInt ≤ 9) : Ok (fX1_turn f4 i2) (fun z => True) := by
  unfold fX1_turn
  refine Ok_mono (okL_X1_turn_L2 i2 (by first | omega | assumption | (try simp only [tl0, tl1, tl2, tl3, tl4, tl5, tl6, tl8, tl9, tl10, tl50, tl81, tl100, tl1000, tl9999, tlm1, tlm9, tlm50, tl2147483647]; omega)) 12 (0 : Int32) f4 (by first | omega | assumption | (try simp only [tl0, tl1, tl2, tl3, tl4, tl5, tl6, tl8, tl9, tl10, tl50, tl81, tl100, tl1000, tl9999, tlm1, tlm9, tlm50, tl2147483647]; omega)) (by first | omega | assumption | (try simp only [tl0, tl1, tl2, tl3, tl4, tl5, tl6, tl8, tl9, tl10, tl50, tl81, tl100, tl1000, tl9999, tlm1, tlm9, tlm50, tl2147483647]; omega)) (by first | omega | assumption | (try simp only [tl0, tl1, tl2, tl3, tl4, tl5, tl6, tl8, tl9, tl10, tl50, tl81, tl100, tl1000, tl9999, tlm1, tlm9, tlm50, tl2147483647]; omega))) ?_
  intro z hz
  first | exact hz | (simp only [Sx] at *; omega) | (dsimp only at *; omega)
set_option maxRecDepth 4000 in
theorem ok_X4_init   : Ok (fX4_init ) (fun z => True) := by
  unfold fX4_init
  exact Ok_some trivial
set_option maxRecDepth 4000 in
theorem ok_X4_clear   : Ok (fX4_clear ) (fun z => True) := by
  unfold fX4_clear
  exact Ok_some trivial
set_option maxRecDepth 4000 in
theorem ok_X4_add (i4 : Int32) (f5 : Nat → Int32) (i2 : Int32) (h0 : 0 ≤ i4.toInt ∧ i4.toInt ≤ 10) : Ok (fX4_add i4 f5 i2) (fun z => (0 ≤ z.1.toInt ∧ z.1.toInt ≤ 10)) := by
  unfold fX4_add
  refine Ok_if ?_ ?_
  · intro h
    have c58 : i4.toInt < 0 := i32lt h
    refine Ok_some ?_
    try dsimp only
    try simp only [tl0, tl1, tl2, tl3, tl4, tl5, tl6, tl8, tl9, tl10, tl50, tl81, tl100, tl1000, tl9999, tlm1, tlm9, tlm50, tl2147483647]
    first | trivial | omega | (repeat' first | assumption | omega | apply And.intro)
  · intro h
    have c59 : 0 ≤ i4.toInt := i32nlt h
    refine Ok_if ?_ ?_
    · intro h
      have c60 : 10 ≤ i4.toInt := i32le h
      refine Ok_some ?_
      try dsimp only
      try simp only [tl0, tl1, tl2, tl3, tl4, tl5, tl6, tl8, tl9, tl10, tl50, tl81, tl100, tl1000, tl9999, tlm1, tlm9, tlm50, tl2147483647]
      first | trivial | omega | (repeat' first | assumption | omega | apply And.intro)
    · intro h
      have c61 : i4.toInt < 10 := i32nle h
      refine Ok_inB (vp_of (by first | omega | assumption | (try simp only [tl0, tl1, tl2, tl3, tl4, tl5, tl6, tl8, tl9, tl10, tl50, tl81, tl100, tl1000, tl9999, tlm1, tlm9, tlm50, tl2147483647]; omega)) (by first | omega | assumption | (try simp only [tl0, tl1, tl2, tl3, tl4, tl5, tl6, tl8, tl9, tl10, tl50, tl81, tl100, tl1000, tl9999, tlm1, tlm9, tlm50, tl2147483647]; omega))) ?_
      try (have e62 := inc_iv (x := i4) (by omega))
      refine Ok_some ?_
      try dsimp only
      try simp only [tl0, tl1, tl2, tl3, tl4, tl5, tl6, tl8, tl9, tl10, tl50, tl81, tl100, tl1000, tl9999, tlm1, tlm9, tlm50, tl2147483647]
      first | trivial | omega | (repeat' first | assumption | omega | apply And.intro)
set_option maxRecDepth 4000 in
theorem ok_X4_at (f5 : Nat → Int32) (i2 : Int32)  : Ok (fX4_at f5 i2) (fun z => True) := by
  unfold fX4_at
  refine Ok_if ?_ ?_
  · intro h
    have c63 : i2.toInt < 0 := i32lt h
    exact Ok_some trivial
  · intro h
    have c64 : 0 ≤ i2.toInt := i32nlt h
    refine Ok_if ?_ ?_
    · intro h
      have c65 : 10 ≤ i2.toInt := i32le h
      exact Ok_some trivial
    · intro h
      have c66 : i2.toInt < 10 := i32nle h
      refine Ok_inB (vp_of (by first | omega | assumption | (try simp only [tl0, tl1, tl2, tl3, tl4, tl5, tl6, tl8, tl9, tl10, tl50, tl81, tl100, tl1000, tl9999, tlm1, tlm9, tlm50, tl2147483647]; omega)) (by first | omega | assumption | (try simp only [tl0, tl1, tl2, tl3, tl4, tl5, tl6, tl8, tl9, tl10, tl50, tl81, tl100, tl1000, tl9999, tlm1, tlm9, tlm50, tl2147483647]; omega))) ?_
      exact Ok_some trivial
set_option maxRecDepth 4000 in
theorem okL_X4_startAt_L2 (i2 : Int32) (i4 : Int32) (f5 : Nat → Int32) {P : (Int32 × (Nat → Int32)) → Prop} {k1 : Int32 → Option (Int32 × (Nat → Int32))} (g0 : 0 ≤ i4.toInt ∧ i4.toInt ≤ 10) (hk1 : ∀ (y1 : Int32), 0 ≤ y1.toInt → Ok (k1 y1) P) : ∀ (n : Nat) (i12 : Int32), 0 ≤ i12.toInt → i4.toInt - i12.toInt < n → 0 < n → Ok (LX4_startAt_L2 i2 i4 f5 n i12 k1) P := by
  intro n
  induction n with
  | zero => intro i12 v0 hm h0; exact absurd h0 (Nat.lt_irrefl 0)
  | succ n ih =>
    intro i12 v0 hm h0
    show Ok (BX4_startAt_L2 i2 i4 f5 i12 (fun i12 => LX4_startAt_L2 i2 i4 f5 n i12 k1) k1) _
    unfold BX4_startAt_L2
    refine Ok_if ?_ ?_
    · intro h
      have c67 : i4.toInt ≤ i12.toInt := i32le h
      exact hk1 i12 (by first | omega | assumption | (try simp only [tl0, tl1, tl2, tl3, tl4, tl5, tl6, tl8, tl9, tl10, tl50, tl81, tl100, tl1000, tl9999, tlm1, tlm9, tlm50, tl2147483647]; omega))
    · intro h
      have c68 : i12.toInt < i4.toInt := i32nle h
      refine Ok_bind (ok_X4_at f5 i12) (fun z13 hz13 => ?_)
      refine Ok_if ?_ ?_
      · intro h
        have c69 : z13.toInt = i2.toInt := i32eq h
        exact hk1 i12 (by first | omega | assumption | (try simp only [tl0, tl1, tl2, tl3, tl4, tl5, tl6, tl8, tl9, tl10, tl50, tl81, tl100, tl1000, tl9999, tlm1, tlm9, tlm50, tl2147483647]; omega))
      · intro h
        have c70 : z13.toInt ≠ i2.toInt := i32ne h
        try (have e71 := inc_iv (x := i12) (by omega))
        exact ih (i12 + (1 : Int32)) (by first | omega | assumption | (try simp only [tl0, tl1, tl2, tl3, tl4, tl5, tl6, tl8, tl9, tl10, tl50, tl81, tl100, tl1000, tl9999, tlm1, tlm9, tlm50, tl2147483647]; omega)) (by first | omega | assumption | (try simp only [tl0, tl1, tl2, tl3, tl4, tl5, tl6, tl8, tl9, tl10, tl50, tl81, tl100, tl1000, tl9999, tlm1, tlm9, tlm50, tl2147483647]; omega)) (by first | omega | assumption | (try simp only [tl0, tl1, tl2, tl3, tl4, tl5, tl6, tl8, tl9, tl10, tl50, tl81, tl100, tl1000, tl9999, tlm1, tlm9, tlm50, tl2147483647]; omega))
set_option maxRecDepth 4000 in
theorem okL_X4_startAt_L37 (i4 : Int32)   (g0 : 0 ≤ i4.toInt ∧ i4.toInt ≤ 10)  : ∀ (n : Nat) (i23 : Int32) (i24 : Int32) (f25 : Nat → Int32), 0 ≤ i24.toInt → i24.toInt ≤ 10 → 0 ≤ i23.toInt → i4.toInt - i23.toInt < n → 0 < n → Ok (LX4_startAt_L37 i4 n i23 i24 f25 ) (fun z => (0 ≤ z.1.toInt ∧ z.1.toInt ≤ 10)) := by
  intro n
  induction n with
  | zero => intro i23 i24 f25 v0 v1 v2 hm h0; exact absurd h0 (Nat.lt_irrefl 0)
  | succ n ih =>
    intro i23 i24 f25 v0 v1 v2 hm h0
    show Ok (BX4_startAt_L37 i4 i23 i24 f25 (fun i23 i24 f25 => LX4_startAt_L37 i4 n i23 i24 f25 ) ) _
    unfold BX4_startAt_L37
    refine Ok_if ?_ ?_
    · intro h
      have c73 : i4.toInt ≤ i23.toInt := i32le h
      refine Ok_some ?_
      try dsimp only
      try simp only [tl0, tl1, tl2, tl3, tl4, tl5, tl6, tl8, tl9, tl10, tl50, tl81, tl100, tl1000, tl9999, tlm1, tlm9, tlm50, tl2147483647]
      first | trivial | omega | (repeat' first | assumption | omega | apply And.intro)
    · intro h
      have c74 : i23.toInt < i4.toInt := i32nle h
      refine Ok_bind (ok_X4_at f25 i23) (fun z26 hz26 => ?_)
      refine Ok_bind (ok_X4_add i24 f25 z26 (by first | omega | assumption | (try simp only [tl0, tl1, tl2, tl3, tl4, tl5, tl6, tl8, tl9, tl10, tl50, tl81, tl100, tl1000, tl9999, tlm1, tlm9, tlm50, tl2147483647]; omega))) (fun z27 hz27 => ?_)
      try dsimp only at hz27
      try simp only [tl0, tl1, tl2, tl3, tl4, tl5, tl6, tl8, tl9, tl10, tl50, tl81, tl100, tl1000, tl9999, tlm1, tlm9, tlm50, tl2147483647] at hz27
      try (have e75 := inc_iv (x := i23) (by omega))
      exact ih (i23 + (1 : Int32)) z27.1 z27.2 (by first | omega | assumption | (try simp only [tl0, tl1, tl2, tl3, tl4, tl5, tl6, tl8, tl9, tl10, tl50, tl81, tl100, tl1000, tl9999, tlm1, tlm9, tlm50, tl2147483647]; omega)) (by first | omega | assumption | (try simp only [tl0, tl1, tl2, tl3, tl4, tl5, tl6, tl8, tl9, tl10, tl50, tl81, tl100, tl1000, tl9999, tlm1, tlm9, tlm50, tl2147483647]; omega)) (by first | omega | assumption | (try simp only [tl0, tl1, tl2, tl3, tl4, tl5, tl6, tl8, tl9, tl10, tl50, tl81, tl100, tl1000, tl9999, tlm1, tlm9, tlm50, tl2147483647]; omega)) (by first | omega | assumption | (try simp only [tl0, tl1, tl2, tl3, tl4, tl5, tl6, tl8, tl9, tl10, tl50, tl81, tl100, tl1000, tl9999, tlm1, tlm9, tlm50, tl2147483647]; omega)) (by first | omega | assumption | (try simp only [tl0, tl1, tl2, tl3, tl4, tl5, tl6, tl8, tl9, tl10, tl50, tl81, tl100, tl1000, tl9999, tlm1, tlm9, tlm50, tl2147483647]; omega))
set_option maxRecDepth 4000 in
theorem ok_X4_startAt (i4 : Int32) (f5 : Nat → Int32) (i2 : Int32) (h0 : 0 ≤ i4.toInt ∧ i4.toInt ≤ 10) : Ok (fX4_startAt i4 f5 i2) (fun z => (0 ≤ z.1.toInt ∧ z.1.toInt ≤ 10)) := by
  unfold fX4_startAt
  refine okL_X4_startAt_L2 i2 i4 f5 (by first | omega | assumption | (try simp only [tl0, tl1, tl2, tl3, tl4, tl5, tl6, tl8, tl9, tl10, tl50, tl81, tl100, tl1000, tl9999, tlm1, tlm9, tlm50, tl2147483647]; omega)) ?_ 12 (0 : Int32) (by first | omega | assumption | (try simp only [tl0, tl1, tl2, tl3, tl4, tl5, tl6, tl8, tl9, tl10, tl50, tl81, tl100, tl1000, tl9999, tlm1, tlm9, tlm50, tl2147483647]; omega)) (by first | omega | assumption | (try simp only [tl0, tl1, tl2, tl3, tl4, tl5, tl6, tl8, tl9, tl10, tl50, tl81, tl100, tl1000, tl9999, tlm1, tlm9, tlm50, tl2147483647]; omega)) (by first | omega | assumption | (try simp only [tl0, tl1, tl2, tl3, tl4, tl5, tl6, tl8, tl9, tl10, tl50, tl81, tl100, tl1000, tl9999, tlm1, tlm9, tlm50, tl2147483647]; omega))
  intro i14 x72_0
  show Ok ((fX4_clear ).bind (fun z15 => LX4_startAt_L37  i4 12 i14 (0 : Int32) f5 )) _
  refine Ok_bind (ok_X4_clear) (fun z15 hz15 => ?_)
  refine Ok_mono (okL_X4_startAt_L37 i4 (by first | omega | assumption | (try simp only [tl0, tl1, tl2, tl3, tl4, tl5, tl6, tl8, tl9, tl10, tl50, tl81, tl100, tl1000, tl9999, tlm1, tlm9, tlm50, tl2147483647]; omega)) 12 i14 (0 : Int32) f5 (by first | omega | assumption | (try simp only [tl0, tl1, tl2, tl3, tl4, tl5, tl6, tl8, tl9, tl10, tl50, tl81, tl100, tl1000, tl9999, tlm1, tlm9, tlm50, tl2147483647]; omega)) (by first | omega | assumption | (try simp only [tl0, tl1, tl2, tl3, tl4, tl5, tl6, tl8, tl9, tl10, tl50, tl81, tl100, tl1000, tl9999, tlm1, tlm9, tlm50, tl2147483647]; omega)) (by first | omega | assumption | (try simp only [tl0, tl1, tl2, tl3, tl4, tl5, tl6, tl8, tl9, tl10, tl50, tl81, tl100, tl1000, tl9999, tlm1, tlm9, tlm50, tl2147483647]; omega)) (by first | omega | assumption | (try simp only [tl0, tl1, tl2, tl3, tl4, tl5, tl6, tl8, tl9, tl10, tl50, tl81, tl100, tl1000, tl9999, tlm1, tlm9, tlm50, tl2147483647]; omega)) (by first | omega | assumption | (try simp only [tl0, tl1, tl2, tl3, tl4, tl5, tl6, tl8, tl9, tl10, tl50, tl81, tl100, tl1000, tl9999, tlm1, tlm9, tlm50, tl2147483647]; omega))) ?_
  intro z hz
  first | exact hz | (simp only [Sx] at *; omega) | (dsimp only at *; omega)
set_option maxRecDepth 4000 in
theorem ok_X2_init   : Ok (fX2_init ) (fun z => True) := by
  unfold fX2_init
  refine Ok_bind (ok_X1_init) (fun z8 hz8 => ?_)
  refine Ok_bind (ok_X1_init) (fun z11 hz11 => ?_)
  exact Ok_some trivial
set_option maxRecDepth 4000 in
theorem ok_X2_become (f9 : Nat → Int32) (f11 : Nat → Int32) (f18 : Nat → Int32) (f20 : Nat → Int32)  : Ok (fX2_become f9 f11 f18 f20) (fun z => True) := by
  unfold fX2_become
  refine Ok_bind (ok_X1_become f9 f18) (fun z21 hz21 => ?_)
  refine Ok_bind (ok_X1_become f11 f20) (fun z22 hz22 => ?_)
  exact Ok_some trivial
set_option maxRecDepth 4000 in
theorem ok_X2_allPlaces (i2 : Int32) (h0 : 2 ≤ i2.toInt ∧ i2.toInt ≤ 9) : Ok (fX2_allPlaces i2) (fun z => 0 ≤ z.toInt ∧ z.toInt ≤ 511) := by
  have h : i2 = 2 ∨ i2 = 3 ∨ i2 = 4 ∨ i2 = 5 ∨ i2 = 6 ∨ i2 = 7 ∨ i2 = 8 ∨ i2 = 9 := by
    rcases (show i2.toInt = 2 ∨ i2.toInt = 3 ∨ i2.toInt = 4 ∨ i2.toInt = 5 ∨ i2.toInt = 6 ∨ i2.toInt = 7 ∨ i2.toInt = 8 ∨ i2.toInt = 9 by omega) with h | h | h | h | h | h | h | h
    · exact Or.inl (Int32.toInt_inj.mp h)
    · exact Or.inr (Or.inl (Int32.toInt_inj.mp h))
    · exact Or.inr (Or.inr (Or.inl (Int32.toInt_inj.mp h)))
    · exact Or.inr (Or.inr (Or.inr (Or.inl (Int32.toInt_inj.mp h))))
    · exact Or.inr (Or.inr (Or.inr (Or.inr (Or.inl (Int32.toInt_inj.mp h)))))
    · exact Or.inr (Or.inr (Or.inr (Or.inr (Or.inr (Or.inl (Int32.toInt_inj.mp h))))))
    · exact Or.inr (Or.inr (Or.inr (Or.inr (Or.inr (Or.inr (Or.inl (Int32.toInt_inj.mp h)))))))
    · exact Or.inr (Or.inr (Or.inr (Or.inr (Or.inr (Or.inr (Or.inr (Int32.toInt_inj.mp h)))))))
  rcases h with rfl | rfl | rfl | rfl | rfl | rfl | rfl | rfl <;> exact Ok_some ⟨by decide, by decide⟩
set_option maxRecDepth 4000 in
theorem ok_X2_leftOf (f10 : Nat → Int32) (f12 : Nat → Int32) (i2 : Int32) (i3 : Int32)  : Ok (fX2_leftOf f10 f12 i2 i3) (fun z => True) := by
  unfold fX2_leftOf
  refine Ok_bind (ok_X1_at f10 i2 i3) (fun z13 hz13 => ?_)
  refine Ok_bind (ok_X1_at f12 i2 i3) (fun z14 hz14 => ?_)
  try (have e81 := sub_iv (x := z13) (y := z14) (by omega) (by omega))
  exact Ok_some trivial
set_option maxRecDepth 4000 in
theorem ok_X2_valueNow (i2 : Int32) (i3 : Int32) (f8 : Nat → Int32) (h0 : 2 ≤ i2.toInt ∧ i2.toInt ≤ 9) : Ok (fX2_valueNow i2 i3 f8) (fun z => True) := by
  unfold fX2_valueNow
  refine Ok_bind (ok_X1_sumFrom f8 i3 i2 (by first | omega | assumption | (try simp only [tl0, tl1, tl2, tl3, tl4, tl5, tl6, tl8, tl9, tl10, tl50, tl81, tl100, tl1000, tl9999, tlm1, tlm9, tlm50, tl2147483647]; omega))) (fun z9 hz9 => ?_)
  exact Ok_some trivial
set_option maxRecDepth 4000 in
theorem okL_X2_roomInAll_L4 (i2 : Int32) (f8 : Nat → Int32)   (g0 : 2 ≤ i2.toInt ∧ i2.toInt ≤ 9)  : ∀ (n : Nat) (i20 : Int32) (i21 : Int32), 0 ≤ i21.toInt → i2.toInt - i21.toInt < n → 0 < n → Ok (LX2_roomInAll_L4 i2 f8 n i20 i21 ) (fun z => True) := by
  intro n
  induction n with
  | zero => intro i20 i21 v0 hm h0; exact absurd h0 (Nat.lt_irrefl 0)
  | succ n ih =>
    intro i20 i21 v0 hm h0
    show Ok (BX2_roomInAll_L4 i2 f8 i20 i21 (fun i20 i21 => LX2_roomInAll_L4 i2 f8 n i20 i21 ) ) _
    unfold BX2_roomInAll_L4
    refine Ok_if ?_ ?_
    · intro h
      have c82 : i2.toInt ≤ i21.toInt := i32le h
      exact Ok_some trivial
    · intro h
      have c83 : i21.toInt < i2.toInt := i32nle h
      refine Ok_bind (ok_X1_sumFrom f8 i21 i2 (by first | omega | assumption | (try simp only [tl0, tl1, tl2, tl3, tl4, tl5, tl6, tl8, tl9, tl10, tl50, tl81, tl100, tl1000, tl9999, tlm1, tlm9, tlm50, tl2147483647]; omega))) (fun z22 hz22 => ?_)
      refine Ok_nm (fun i23 wi23 => ?_)
      have qi23 := i32eq wi23
      try (have e84 := inc_iv (x := i21) (by omega))
      exact ih i23 (i21 + (1 : Int32)) (by first | omega | assumption | (try simp only [tl0, tl1, tl2, tl3, tl4, tl5, tl6, tl8, tl9, tl10, tl50, tl81, tl100, tl1000, tl9999, tlm1, tlm9, tlm50, tl2147483647]; omega)) (by first | omega | assumption | (try simp only [tl0, tl1, tl2, tl3, tl4, tl5, tl6, tl8, tl9, tl10, tl50, tl81, tl100, tl1000, tl9999, tlm1, tlm9, tlm50, tl2147483647]; omega)) (by first | omega | assumption | (try simp only [tl0, tl1, tl2, tl3, tl4, tl5, tl6, tl8, tl9, tl10, tl50, tl81, tl100, tl1000, tl9999, tlm1, tlm9, tlm50, tl2147483647]; omega))
set_option maxRecDepth 4000 in
theorem ok_X2_roomInAll (i2 : Int32) (f8 : Nat → Int32) (h0 : 2 ≤ i2.toInt ∧ i2.toInt ≤ 9) : Ok (fX2_roomInAll i2 f8) (fun z => True) := by
  unfold fX2_roomInAll
  refine Ok_mono (okL_X2_roomInAll_L4 i2 f8 (by first | omega | assumption | (try simp only [tl0, tl1, tl2, tl3, tl4, tl5, tl6, tl8, tl9, tl10, tl50, tl81, tl100, tl1000, tl9999, tlm1, tlm9, tlm50, tl2147483647]; omega)) 12 (0 : Int32) (0 : Int32) (by first | omega | assumption | (try simp only [tl0, tl1, tl2, tl3, tl4, tl5, tl6, tl8, tl9, tl10, tl50, tl81, tl100, tl1000, tl9999, tlm1, tlm9, tlm50, tl2147483647]; omega)) (by first | omega | assumption | (try simp only [tl0, tl1, tl2, tl3, tl4, tl5, tl6, tl8, tl9, tl10, tl50, tl81, tl100, tl1000, tl9999, tlm1, tlm9, tlm50, tl2147483647]; omega)) (by first | omega | assumption | (try simp only [tl0, tl1, tl2, tl3, tl4, tl5, tl6, tl8, tl9, tl10, tl50, tl81, tl100, tl1000, tl9999, tlm1, tlm9, tlm50, tl2147483647]; omega))) ?_
  intro z hz
  first | exact hz | (simp only [Sx] at *; omega) | (dsimp only at *; omega)
set_option maxRecDepth 4000 in
theorem ok_X2_carry (f11 : Nat → Int32) (i2 : Int32) (i3 : Int32) (i4 : Int32)  : Ok (fX2_carry f11 i2 i3 i4) (fun z => True) := by
  unfold fX2_carry
  refine Ok_bind (ok_X1_at f11 i2 i3) (fun z12 hz12 => ?_)
  refine Ok_bind (ok_X1_put f11 i2 i3 (z12 + i4)) (fun z13 hz13 => ?_)
  refine Ok_bind (ok_X1_at z13 i3 i2) (fun z14 hz14 => ?_)
  try (have e85 := sub_iv (x := z14) (y := i4) (by omega) (by omega))
  refine Ok_bind (ok_X1_put z13 i3 i2 (z14 - i4)) (fun z15 hz15 => ?_)
  exact Ok_some trivial
set_option maxRecDepth 4000 in
theorem okL_X2_carryAlong_L2 (i12 : Int32) (f13 : Nat → Int32) (i3 : Int32)   (g0 : 0 ≤ i12.toInt ∧ i12.toInt ≤ 10)  : ∀ (n : Nat) (i29 : Int32) (f30 : Nat → Int32), 0 ≤ i29.toInt → i12.toInt - i29.toInt < n → 0 < n → Ok (LX2_carryAlong_L2 i12 f13 i3 n i29 f30 ) (fun z => True) := by
  intro n
  induction n with
  | zero => intro i29 f30 v0 hm h0; exact absurd h0 (Nat.lt_irrefl 0)
  | succ n ih =>
    intro i29 f30 v0 hm h0
    show Ok (BX2_carryAlong_L2 i12 f13 i3 i29 f30 (fun i29 f30 => LX2_carryAlong_L2 i12 f13 i3 n i29 f30 ) ) _
    unfold BX2_carryAlong_L2
    refine Ok_if ?_ ?_
    · intro h
      have c86 : i12.toInt ≤ i29.toInt := i32le h
      exact Ok_some trivial
    · intro h
      have c87 : i29.toInt < i12.toInt := i32nle h
      try (have e88 := dec_iv (x := i29) (by omega))
      refine Ok_bind (ok_X4_at f13 (i29 - (1 : Int32))) (fun z31 hz31 => ?_)
      refine Ok_bind (ok_X4_at f13 i29) (fun z32 hz32 => ?_)
      refine Ok_bind (ok_X2_carry f30 z31 z32 i3) (fun z33 hz33 => ?_)
      try (have e89 := inc_iv (x := i29) (by omega))
      exact ih (i29 + (1 : Int32)) z33 (by first | omega | assumption | (try simp only [tl0, tl1, tl2, tl3, tl4, tl5, tl6, tl8, tl9, tl10, tl50, tl81, tl100, tl1000, tl9999, tlm1, tlm9, tlm50, tl2147483647]; omega)) (by first | omega | assumption | (try simp only [tl0, tl1, tl2, tl3, tl4, tl5, tl6, tl8, tl9, tl10, tl50, tl81, tl100, tl1000, tl9999, tlm1, tlm9, tlm50, tl2147483647]; omega)) (by first | omega | assumption | (try simp only [tl0, tl1, tl2, tl3, tl4, tl5, tl6, tl8, tl9, tl10, tl50, tl81, tl100, tl1000, tl9999, tlm1, tlm9, tlm50, tl2147483647]; omega))
set_option maxRecDepth 4000 in
theorem ok_X2_carryAlong (f10 : Nat → Int32) (i12 : Int32) (f13 : Nat → Int32) (i3 : Int32) (h0 : 0 ≤ i12.toInt ∧ i12.toInt ≤ 10) : Ok (fX2_carryAlong f10 i12 f13 i3) (fun z => True) := by
  unfold fX2_carryAlong
  refine Ok_mono (okL_X2_carryAlong_L2 i12 f13 i3 (by first | omega | assumption | (try simp only [tl0, tl1, tl2, tl3, tl4, tl5, tl6, tl8, tl9, tl10, tl50, tl81, tl100, tl1000, tl9999, tlm1, tlm9, tlm50, tl2147483647]; omega)) 12 (1 : Int32) f10 (by first | omega | assumption | (try simp only [tl0, tl1, tl2, tl3, tl4, tl5, tl6, tl8, tl9, tl10, tl50, tl81, tl100, tl1000, tl9999, tlm1, tlm9, tlm50, tl2147483647]; omega)) (by first | omega | assumption | (try simp only [tl0, tl1, tl2, tl3, tl4, tl5, tl6, tl8, tl9, tl10, tl50, tl81, tl100, tl1000, tl9999, tlm1, tlm9, tlm50, tl2147483647]; omega)) (by first | omega | assumption | (try simp only [tl0, tl1, tl2, tl3, tl4, tl5, tl6, tl8, tl9, tl10, tl50, tl81, tl100, tl1000, tl9999, tlm1, tlm9, tlm50, tl2147483647]; omega))) ?_
  intro z hz
  first | exact hz | (simp only [Sx] at *; omega) | (dsimp only at *; omega)
set_option maxRecDepth 4000 in
theorem ok_X2_turn (i2 : Int32) (f8 : Nat → Int32) (f10 : Nat → Int32) (h0 : 2 ≤ i2.toInt ∧ i2.toInt ≤ 9) : Ok (fX2_turn i2 f8 f10) (fun z => True) := by
  unfold fX2_turn
  refine Ok_bind (ok_X1_turn f8 i2 (by first | omega | assumption | (try simp only [tl0, tl1, tl2, tl3, tl4, tl5, tl6, tl8, tl9, tl10, tl50, tl81, tl100, tl1000, tl9999, tlm1, tlm9, tlm50, tl2147483647]; omega))) (fun z11 hz11 => ?_)
  refine Ok_bind (ok_X1_turn f10 i2 (by first | omega | assumption | (try simp only [tl0, tl1, tl2, tl3, tl4, tl5, tl6, tl8, tl9, tl10, tl50, tl81, tl100, tl1000, tl9999, tlm1, tlm9, tlm50, tl2147483647]; omega))) (fun z12 hz12 => ?_)
  exact Ok_some trivial
set_option maxRecDepth 4000 in
theorem okL_X2_narrowToOne_L12 (i2 : Int32) (i33 : Int32) {P : ((Nat → Int32)) → Prop} {k1 : (Nat → Int32) → Option ((Nat → Int32))} (g0 : 2 ≤ i2.toInt ∧ i2.toInt ≤ 9) (hk1 : ∀ (y1 : (Nat → Int32)), Ok (k1 y1) P) : ∀ (n : Nat) (i46 : Int32) (f47 : Nat → Int32), 0 ≤ i46.toInt → i2.toInt - i46.toInt < n → 0 < n → Ok (LX2_narrowToOne_L12 i2 i33 n i46 f47 k1) P := by
  intro n
  induction n with
  | zero => intro i46 f47 v0 hm h0; exact absurd h0 (Nat.lt_irrefl 0)
  | succ n ih =>
    intro i46 f47 v0 hm h0
    show Ok (BX2_narrowToOne_L12 i2 i33 i46 f47 (fun i46 f47 => LX2_narrowToOne_L12 i2 i33 n i46 f47 k1) k1) _
    unfold BX2_narrowToOne_L12
    refine Ok_if ?_ ?_
    · intro h
      have c96 : i2.toInt ≤ i46.toInt := i32le h
      exact hk1 f47
    · intro h
      have c97 : i46.toInt < i2.toInt := i32nle h
      refine Ok_bind (ok_X1_at f47 i33 i46) (fun z48 hz48 => ?_)
      refine Ok_bind (ok_X1_put f47 i33 i46 (if z48 < (1 : Int32) then z48 else (1 : Int32))) (fun z49 hz49 => ?_)
      try (have e98 := inc_iv (x := i46) (by omega))
      exact ih (i46 + (1 : Int32)) z49 (by first | omega | assumption | (try simp only [tl0, tl1, tl2, tl3, tl4, tl5, tl6, tl8, tl9, tl10, tl50, tl81, tl100, tl1000, tl9999, tlm1, tlm9, tlm50, tl2147483647]; omega)) (by first | omega | assumption | (try simp only [tl0, tl1, tl2, tl3, tl4, tl5, tl6, tl8, tl9, tl10, tl50, tl81, tl100, tl1000, tl9999, tlm1, tlm9, tlm50, tl2147483647]; omega)) (by first | omega | assumption | (try simp only [tl0, tl1, tl2, tl3, tl4, tl5, tl6, tl8, tl9, tl10, tl50, tl81, tl100, tl1000, tl9999, tlm1, tlm9, tlm50, tl2147483647]; omega))
set_option maxRecDepth 4000 in
theorem okL_X2_narrowToOne_L2 (i2 : Int32)   (g0 : 2 ≤ i2.toInt ∧ i2.toInt ≤ 9)  : ∀ (n : Nat) (i33 : Int32) (f34 : Nat → Int32), 0 ≤ i33.toInt → i2.toInt - i33.toInt < n → 0 < n → Ok (LX2_narrowToOne_L2 i2 n i33 f34 ) (fun z => True) := by
  intro n
  induction n with
  | zero => intro i33 f34 v0 hm h0; exact absurd h0 (Nat.lt_irrefl 0)
  | succ n ih =>
    intro i33 f34 v0 hm h0
    show Ok (BX2_narrowToOne_L2 i2 i33 f34 (fun i33 f34 => LX2_narrowToOne_L2 i2 n i33 f34 ) ) _
    unfold BX2_narrowToOne_L2
    refine Ok_if ?_ ?_
    · intro h
      have c94 : i2.toInt ≤ i33.toInt := i32le h
      exact Ok_some trivial
    · intro h
      have c95 : i33.toInt < i2.toInt := i32nle h
      refine okL_X2_narrowToOne_L12 i2 i33 (by first | omega | assumption | (try simp only [tl0, tl1, tl2, tl3, tl4, tl5, tl6, tl8, tl9, tl10, tl50, tl81, tl100, tl1000, tl9999, tlm1, tlm9, tlm50, tl2147483647]; omega)) ?_ 12 (0 : Int32) f34 (by first | omega | assumption | (try simp only [tl0, tl1, tl2, tl3, tl4, tl5, tl6, tl8, tl9, tl10, tl50, tl81, tl100, tl1000, tl9999, tlm1, tlm9, tlm50, tl2147483647]; omega)) (by first | omega | assumption | (try simp only [tl0, tl1, tl2, tl3, tl4, tl5, tl6, tl8, tl9, tl10, tl50, tl81, tl100, tl1000, tl9999, tlm1, tlm9, tlm50, tl2147483647]; omega)) (by first | omega | assumption | (try simp only [tl0, tl1, tl2, tl3, tl4, tl5, tl6, tl8, tl9, tl10, tl50, tl81, tl100, tl1000, tl9999, tlm1, tlm9, tlm50, tl2147483647]; omega))
      intro f50
      show Ok ((fun i33 f34 => LX2_narrowToOne_L2 i2 n i33 f34 ) (i33 + (1 : Int32)) f50) _
      try (have e99 := inc_iv (x := i33) (by omega))
      exact ih (i33 + (1 : Int32)) f50 (by first | omega | assumption | (try simp only [tl0, tl1, tl2, tl3, tl4, tl5, tl6, tl8, tl9, tl10, tl50, tl81, tl100, tl1000, tl9999, tlm1, tlm9, tlm50, tl2147483647]; omega)) (by first | omega | assumption | (try simp only [tl0, tl1, tl2, tl3, tl4, tl5, tl6, tl8, tl9, tl10, tl50, tl81, tl100, tl1000, tl9999, tlm1, tlm9, tlm50, tl2147483647]; omega)) (by first | omega | assumption | (try simp only [tl0, tl1, tl2, tl3, tl4, tl5, tl6, tl8, tl9, tl10, tl50, tl81, tl100, tl1000, tl9999, tlm1, tlm9, tlm50, tl2147483647]; omega))
set_option maxRecDepth 4000 in
theorem ok_X2_narrowToOne (i2 : Int32) (f8 : Nat → Int32) (h0 : 2 ≤ i2.toInt ∧ i2.toInt ≤ 9) : Ok (fX2_narrowToOne i2 f8) (fun z => True) := by
  unfold fX2_narrowToOne
  refine Ok_mono (okL_X2_narrowToOne_L2 i2 (by first | omega | assumption | (try simp only [tl0, tl1, tl2, tl3, tl4, tl5, tl6, tl8, tl9, tl10, tl50, tl81, tl100, tl1000, tl9999, tlm1, tlm9, tlm50, tl2147483647]; omega)) 12 (0 : Int32) f8 (by first | omega | assumption | (try simp only [tl0, tl1, tl2, tl3, tl4, tl5, tl6, tl8, tl9, tl10, tl50, tl81, tl100, tl1000, tl9999, tlm1, tlm9, tlm50, tl2147483647]; omega)) (by first | omega | assumption | (try simp only [tl0, tl1, tl2, tl3, tl4, tl5, tl6, tl8, tl9, tl10, tl50, tl81, tl100, tl1000, tl9999, tlm1, tlm9, tlm50, tl2147483647]; omega)) (by first | omega | assumption | (try simp only [tl0, tl1, tl2, tl3, tl4, tl5, tl6, tl8, tl9, tl10, tl50, tl81, tl100, tl1000, tl9999, tlm1, tlm9, tlm50, tl2147483647]; omega))) ?_
  intro z hz
  first | exact hz | (simp only [Sx] at *; omega) | (dsimp only at *; omega)
set_option maxRecDepth 4000 in
theorem okL_X2_isFlowLet_L12 (i2 : Int32) (f8 : Nat → Int32) (f10 : Nat → Int32) (i39 : Int32)  {k1 : Unit → Option (Int32)} (g0 : 2 ≤ i2.toInt ∧ i2.toInt ≤ 9) (hk1 : Ok (k1 ()) ((fun z => True))) : ∀ (n : Nat) (i54 : Int32), 0 ≤ i54.toInt → i2.toInt - i54.toInt < n → 0 < n → Ok (LX2_isFlowLet_L12 i2 f8 f10 i39 n i54 k1) ((fun z => True)) := by
  intro n
  induction n with
  | zero => intro i54 v0 hm h0; exact absurd h0 (Nat.lt_irrefl 0)
  | succ n ih =>
    intro i54 v0 hm h0
    show Ok (BX2_isFlowLet_L12 i2 f8 f10 i39 i54 (fun i54 => LX2_isFlowLet_L12 i2 f8 f10 i39 n i54 k1) k1) _
    unfold BX2_isFlowLet_L12
    refine Ok_if ?_ ?_
    · intro h
      have c102 : i2.toInt ≤ i54.toInt := i32le h
      exact hk1
    · intro h
      have c103 : i54.toInt < i2.toInt := i32nle h
      refine Ok_bind (ok_X2_leftOf f8 f10 i39 i54) (fun z55 hz55 => ?_)
      refine Ok_if ?_ ?_
      · intro h
        have c104 : z55.toInt < 0 := i32lt h
        exact Ok_some trivial
      · intro h
        have c105 : 0 ≤ z55.toInt := i32nlt h
        refine Ok_bind (ok_X1_at f10 i39 i54) (fun z56 hz56 => ?_)
        refine Ok_bind (ok_X1_at f10 i54 i39) (fun z57 hz57 => ?_)
        refine Ok_if ?_ ?_
        · intro h
          have c106 : z56.toInt = (-z57).toInt := i32eq h
          try (have e107 := inc_iv (x := i54) (by omega))
          exact ih (i54 + (1 : Int32)) (by first | omega | assumption | (try simp only [tl0, tl1, tl2, tl3, tl4, tl5, tl6, tl8, tl9, tl10, tl50, tl81, tl100, tl1000, tl9999, tlm1, tlm9, tlm50, tl2147483647]; omega)) (by first | omega | assumption | (try simp only [tl0, tl1, tl2, tl3, tl4, tl5, tl6, tl8, tl9, tl10, tl50, tl81, tl100, tl1000, tl9999, tlm1, tlm9, tlm50, tl2147483647]; omega)) (by first | omega | assumption | (try simp only [tl0, tl1, tl2, tl3, tl4, tl5, tl6, tl8, tl9, tl10, tl50, tl81, tl100, tl1000, tl9999, tlm1, tlm9, tlm50, tl2147483647]; omega))
        · intro h
          have c108 : z56.toInt ≠ (-z57).toInt := i32ne h
          exact Ok_some trivial
set_option maxRecDepth 4000 in
theorem okL_X2_isFlowLet_L2 (i2 : Int32) (f8 : Nat → Int32) (f10 : Nat → Int32)   (g0 : 2 ≤ i2.toInt ∧ i2.toInt ≤ 9)  : ∀ (n : Nat) (i39 : Int32), 0 ≤ i39.toInt → i2.toInt - i39.toInt < n → 0 < n → Ok (LX2_isFlowLet_L2 i2 f8 f10 n i39 ) (fun z => True) := by
  intro n
  induction n with
  | zero => intro i39 v0 hm h0; exact absurd h0 (Nat.lt_irrefl 0)
  | succ n ih =>
    intro i39 v0 hm h0
    show Ok (BX2_isFlowLet_L2 i2 f8 f10 i39 (fun i39 => LX2_isFlowLet_L2 i2 f8 f10 n i39 ) ) _
    unfold BX2_isFlowLet_L2
    refine Ok_if ?_ ?_
    · intro h
      have c100 : i2.toInt ≤ i39.toInt := i32le h
      exact Ok_some trivial
    · intro h
      have c101 : i39.toInt < i2.toInt := i32nle h
      refine okL_X2_isFlowLet_L12 i2 f8 f10 i39 (by first | omega | assumption | (try simp only [tl0, tl1, tl2, tl3, tl4, tl5, tl6, tl8, tl9, tl10, tl50, tl81, tl100, tl1000, tl9999, tlm1, tlm9, tlm50, tl2147483647]; omega)) ?_ 12 (0 : Int32) (by first | omega | assumption | (try simp only [tl0, tl1, tl2, tl3, tl4, tl5, tl6, tl8, tl9, tl10, tl50, tl81, tl100, tl1000, tl9999, tlm1, tlm9, tlm50, tl2147483647]; omega)) (by first | omega | assumption | (try simp only [tl0, tl1, tl2, tl3, tl4, tl5, tl6, tl8, tl9, tl10, tl50, tl81, tl100, tl1000, tl9999, tlm1, tlm9, tlm50, tl2147483647]; omega)) (by first | omega | assumption | (try simp only [tl0, tl1, tl2, tl3, tl4, tl5, tl6, tl8, tl9, tl10, tl50, tl81, tl100, tl1000, tl9999, tlm1, tlm9, tlm50, tl2147483647]; omega))
      show Ok ((fun i39 => LX2_isFlowLet_L2 i2 f8 f10 n i39 ) (i39 + (1 : Int32))) _
      try (have e109 := inc_iv (x := i39) (by omega))
      exact ih (i39 + (1 : Int32)) (by first | omega | assumption | (try simp only [tl0, tl1, tl2, tl3, tl4, tl5, tl6, tl8, tl9, tl10, tl50, tl81, tl100, tl1000, tl9999, tlm1, tlm9, tlm50, tl2147483647]; omega)) (by first | omega | assumption | (try simp only [tl0, tl1, tl2, tl3, tl4, tl5, tl6, tl8, tl9, tl10, tl50, tl81, tl100, tl1000, tl9999, tlm1, tlm9, tlm50, tl2147483647]; omega)) (by first | omega | assumption | (try simp only [tl0, tl1, tl2, tl3, tl4, tl5, tl6, tl8, tl9, tl10, tl50, tl81, tl100, tl1000, tl9999, tlm1, tlm9, tlm50, tl2147483647]; omega))
set_option maxRecDepth 4000 in
theorem ok_X2_isFlowLet (i2 : Int32) (f8 : Nat → Int32) (f10 : Nat → Int32) (h0 : 2 ≤ i2.toInt ∧ i2.toInt ≤ 9) : Ok (fX2_isFlowLet i2 f8 f10) (fun z => True) := by
  unfold fX2_isFlowLet
  refine Ok_mono (okL_X2_isFlowLet_L2 i2 f8 f10 (by first | omega | assumption | (try simp only [tl0, tl1, tl2, tl3, tl4, tl5, tl6, tl8, tl9, tl10, tl50, tl81, tl100, tl1000, tl9999, tlm1, tlm9, tlm50, tl2147483647]; omega)) 12 (0 : Int32) (by first | omega | assumption | (try simp only [tl0, tl1, tl2, tl3, tl4, tl5, tl6, tl8, tl9, tl10, tl50, tl81, tl100, tl1000, tl9999, tlm1, tlm9, tlm50, tl2147483647]; omega)) (by first | omega | assumption | (try simp only [tl0, tl1, tl2, tl3, tl4, tl5, tl6, tl8, tl9, tl10, tl50, tl81, tl100, tl1000, tl9999, tlm1, tlm9, tlm50, tl2147483647]; omega)) (by first | omega | assumption | (try simp only [tl0, tl1, tl2, tl3, tl4, tl5, tl6, tl8, tl9, tl10, tl50, tl81, tl100, tl1000, tl9999, tlm1, tlm9, tlm50, tl2147483647]; omega))) ?_
  intro z hz
  first | exact hz | (simp only [Sx] at *; omega) | (dsimp only at *; omega)
set_option maxRecDepth 4000 in
theorem okL_X2_isKept_L2 (i2 : Int32) (i3 : Int32) (i4 : Int32) (f8 : Nat → Int32)   (g0 : 2 ≤ i2.toInt ∧ i2.toInt ≤ 9)  : ∀ (n : Nat) (i20 : Int32), 0 ≤ i20.toInt → i2.toInt - i20.toInt < n → 0 < n → Ok (LX2_isKept_L2 i2 i3 i4 f8 n i20 ) (fun z => True) := by
  intro n
  induction n with
  | zero => intro i20 v0 hm h0; exact absurd h0 (Nat.lt_irrefl 0)
  | succ n ih =>
    intro i20 v0 hm h0
    show Ok (BX2_isKept_L2 i2 i3 i4 f8 i20 (fun i20 => LX2_isKept_L2 i2 i3 i4 f8 n i20 ) ) _
    unfold BX2_isKept_L2
    refine Ok_if ?_ ?_
    · intro h
      have c110 : i2.toInt ≤ i20.toInt := i32le h
      exact Ok_some trivial
    · intro h
      have c111 : i20.toInt < i2.toInt := i32nle h
      refine Ok_jn (fun k21 wk21 => ?_)
      refine Ok_if ?_ ?_
      · intro h
        have c112 : i20.toInt = i3.toInt := i32eq h
        rw [wk21]
        show Ok ((fun i20 => LX2_isKept_L2 i2 i3 i4 f8 n i20 ) (i20 + (1 : Int32))) _
        try (have e113 := inc_iv (x := i20) (by omega))
        exact ih (i20 + (1 : Int32)) (by first | omega | assumption | (try simp only [tl0, tl1, tl2, tl3, tl4, tl5, tl6, tl8, tl9, tl10, tl50, tl81, tl100, tl1000, tl9999, tlm1, tlm9, tlm50, tl2147483647]; omega)) (by first | omega | assumption | (try simp only [tl0, tl1, tl2, tl3, tl4, tl5, tl6, tl8, tl9, tl10, tl50, tl81, tl100, tl1000, tl9999, tlm1, tlm9, tlm50, tl2147483647]; omega)) (by first | omega | assumption | (try simp only [tl0, tl1, tl2, tl3, tl4, tl5, tl6, tl8, tl9, tl10, tl50, tl81, tl100, tl1000, tl9999, tlm1, tlm9, tlm50, tl2147483647]; omega))
      · intro h
        have c114 : i20.toInt ≠ i3.toInt := i32ne h
        refine Ok_if ?_ ?_
        · intro h
          have c115 : i20.toInt = i4.toInt := i32eq h
          rw [wk21]
          show Ok ((fun i20 => LX2_isKept_L2 i2 i3 i4 f8 n i20 ) (i20 + (1 : Int32))) _
          try (have e116 := inc_iv (x := i20) (by omega))
          exact ih (i20 + (1 : Int32)) (by first | omega | assumption | (try simp only [tl0, tl1, tl2, tl3, tl4, tl5, tl6, tl8, tl9, tl10, tl50, tl81, tl100, tl1000, tl9999, tlm1, tlm9, tlm50, tl2147483647]; omega)) (by first | omega | assumption | (try simp only [tl0, tl1, tl2, tl3, tl4, tl5, tl6, tl8, tl9, tl10, tl50, tl81, tl100, tl1000, tl9999, tlm1, tlm9, tlm50, tl2147483647]; omega)) (by first | omega | assumption | (try simp only [tl0, tl1, tl2, tl3, tl4, tl5, tl6, tl8, tl9, tl10, tl50, tl81, tl100, tl1000, tl9999, tlm1, tlm9, tlm50, tl2147483647]; omega))
        · intro h
          have c117 : i20.toInt ≠ i4.toInt := i32ne h
          refine Ok_bind (ok_X1_sumFrom f8 i20 i2 (by first | omega | assumption | (try simp only [tl0, tl1, tl2, tl3, tl4, tl5, tl6, tl8, tl9, tl10, tl50, tl81, tl100, tl1000, tl9999, tlm1, tlm9, tlm50, tl2147483647]; omega))) (fun z23 hz23 => ?_)
          refine Ok_if ?_ ?_
          · intro h
            have c118 : z23.toInt = 0 := i32eq h
            rw [wk21]
            show Ok ((fun i20 => LX2_isKept_L2 i2 i3 i4 f8 n i20 ) (i20 + (1 : Int32))) _
            try (have e119 := inc_iv (x := i20) (by omega))
            exact ih (i20 + (1 : Int32)) (by first | omega | assumption | (try simp only [tl0, tl1, tl2, tl3, tl4, tl5, tl6, tl8, tl9, tl10, tl50, tl81, tl100, tl1000, tl9999, tlm1, tlm9, tlm50, tl2147483647]; omega)) (by first | omega | assumption | (try simp only [tl0, tl1, tl2, tl3, tl4, tl5, tl6, tl8, tl9, tl10, tl50, tl81, tl100, tl1000, tl9999, tlm1, tlm9, tlm50, tl2147483647]; omega)) (by first | omega | assumption | (try simp only [tl0, tl1, tl2, tl3, tl4, tl5, tl6, tl8, tl9, tl10, tl50, tl81, tl100, tl1000, tl9999, tlm1, tlm9, tlm50, tl2147483647]; omega))
          · intro h
            have c120 : z23.toInt ≠ 0 := i32ne h
            exact Ok_some trivial
set_option maxRecDepth 4000 in
theorem ok_X2_isKept (i2 : Int32) (i3 : Int32) (i4 : Int32) (f8 : Nat → Int32) (h0 : 2 ≤ i2.toInt ∧ i2.toInt ≤ 9) : Ok (fX2_isKept i2 i3 i4 f8) (fun z => True) := by
  unfold fX2_isKept
  refine Ok_mono (okL_X2_isKept_L2 i2 i3 i4 f8 (by first | omega | assumption | (try simp only [tl0, tl1, tl2, tl3, tl4, tl5, tl6, tl8, tl9, tl10, tl50, tl81, tl100, tl1000, tl9999, tlm1, tlm9, tlm50, tl2147483647]; omega)) 12 (0 : Int32) (by first | omega | assumption | (try simp only [tl0, tl1, tl2, tl3, tl4, tl5, tl6, tl8, tl9, tl10, tl50, tl81, tl100, tl1000, tl9999, tlm1, tlm9, tlm50, tl2147483647]; omega)) (by first | omega | assumption | (try simp only [tl0, tl1, tl2, tl3, tl4, tl5, tl6, tl8, tl9, tl10, tl50, tl81, tl100, tl1000, tl9999, tlm1, tlm9, tlm50, tl2147483647]; omega)) (by first | omega | assumption | (try simp only [tl0, tl1, tl2, tl3, tl4, tl5, tl6, tl8, tl9, tl10, tl50, tl81, tl100, tl1000, tl9999, tlm1, tlm9, tlm50, tl2147483647]; omega))) ?_
  intro z hz
  first | exact hz | (simp only [Sx] at *; omega) | (dsimp only at *; omega)
set_option maxRecDepth 4000 in
theorem ok_X6_holds (i1 : Int32) (i2 : Int32)  : Ok (fX6_holds i1 i2) (fun z => True) := by
  unfold fX6_holds
  refine Ok_if ?_ ?_
  · intro h
    have c121 : ((i1 >>> (i2 &&& 31)) &&& (1 : Int32)).toInt = 1 := i32eq h
    exact Ok_some trivial
  · intro h
    have c122 : ((i1 >>> (i2 &&& 31)) &&& (1 : Int32)).toInt ≠ 1 := i32ne h
    exact Ok_some trivial
set_option maxRecDepth 4000 in
theorem ok_X0_isCut (i4 : Int32) (i5 : Int32) (i2 : Int32)  : Ok (fX0_isCut i4 i5 i2) (fun z => True) := by
  unfold fX0_isCut
  refine Ok_bind (ok_X6_holds i2 i4) (fun z8 hz8 => ?_)
  refine Ok_if ?_ ?_
  · intro h
    have c123 : z8.toInt = 0 := i32eq h
    exact Ok_some trivial
  · intro h
    have c124 : z8.toInt ≠ 0 := i32ne h
    refine Ok_bind (ok_X6_holds i2 i5) (fun z9 hz9 => ?_)
    refine Ok_if ?_ ?_
    · intro h
      have c125 : z9.toInt = 0 := i32eq h
      exact Ok_some trivial
    · intro h
      have c126 : z9.toInt ≠ 0 := i32ne h
      exact Ok_some trivial
set_option maxRecDepth 4000 in
theorem okL_X0_sumAcross_L17 (i4 : Int32) (f10 : Nat → Int32) (i3 : Int32) (i50 : Int32) {P : (Int32) → Prop} {k1 : Int32 → Option (Int32)} (g0 : 2 ≤ i4.toInt ∧ i4.toInt ≤ 9) (hk1 : ∀ (y1 : Int32), Ok (k1 y1) P) : ∀ (n : Nat) (i69 : Int32) (i70 : Int32), 0 ≤ i70.toInt → i4.toInt - i70.toInt < n → 0 < n → Ok (LX0_sumAcross_L17 i4 f10 i3 i50 n i69 i70 k1) P := by
  intro n
  induction n with
  | zero => intro i69 i70 v0 hm h0; exact absurd h0 (Nat.lt_irrefl 0)
  | succ n ih =>
    intro i69 i70 v0 hm h0
    show Ok (BX0_sumAcross_L17 i4 f10 i3 i50 i69 i70 (fun i69 i70 => LX0_sumAcross_L17 i4 f10 i3 i50 n i69 i70 k1) k1) _
    unfold BX0_sumAcross_L17
    refine Ok_if ?_ ?_
    · intro h
      have c129 : i4.toInt ≤ i70.toInt := i32le h
      exact hk1 i69
    · intro h
      have c130 : i70.toInt < i4.toInt := i32nle h
      refine Ok_bind (ok_X6_holds i3 i50) (fun z71 hz71 => ?_)
      refine Ok_if ?_ ?_
      · intro h
        have c131 : z71.toInt = 0 := i32eq h
        exact hk1 i69
      · intro h
        have c132 : z71.toInt ≠ 0 := i32ne h
        refine Ok_bind (ok_X6_holds i3 i70) (fun z72 hz72 => ?_)
        refine Ok_jn (fun k73 wk73 => ?_)
        refine Ok_if ?_ ?_
        · intro h
          have c133 : z72.toInt = 0 := i32eq h
          refine Ok_bind (ok_X1_at f10 i50 i70) (fun z75 hz75 => ?_)
          refine Ok_nm (fun i76 wi76 => ?_)
          have qi76 := i32eq wi76
          rw [wk73]
          show Ok ((fun i69 i70 => LX0_sumAcross_L17 i4 f10 i3 i50 n i69 i70 k1) i76 (i70 + (1 : Int32))) _
          try (have e134 := inc_iv (x := i70) (by omega))
          exact ih i76 (i70 + (1 : Int32)) (by first | omega | assumption | (try simp only [tl0, tl1, tl2, tl3, tl4, tl5, tl6, tl8, tl9, tl10, tl50, tl81, tl100, tl1000, tl9999, tlm1, tlm9, tlm50, tl2147483647]; omega)) (by first | omega | assumption | (try simp only [tl0, tl1, tl2, tl3, tl4, tl5, tl6, tl8, tl9, tl10, tl50, tl81, tl100, tl1000, tl9999, tlm1, tlm9, tlm50, tl2147483647]; omega)) (by first | omega | assumption | (try simp only [tl0, tl1, tl2, tl3, tl4, tl5, tl6, tl8, tl9, tl10, tl50, tl81, tl100, tl1000, tl9999, tlm1, tlm9, tlm50, tl2147483647]; omega))
        · intro h
          have c135 : z72.toInt ≠ 0 := i32ne h
          rw [wk73]
          show Ok ((fun i69 i70 => LX0_sumAcross_L17 i4 f10 i3 i50 n i69 i70 k1) i69 (i70 + (1 : Int32))) _
          try (have e136 := inc_iv (x := i70) (by omega))
          exact ih i69 (i70 + (1 : Int32)) (by first | omega | assumption | (try simp only [tl0, tl1, tl2, tl3, tl4, tl5, tl6, tl8, tl9, tl10, tl50, tl81, tl100, tl1000, tl9999, tlm1, tlm9, tlm50, tl2147483647]; omega)) (by first | omega | assumption | (try simp only [tl0, tl1, tl2, tl3, tl4, tl5, tl6, tl8, tl9, tl10, tl50, tl81, tl100, tl1000, tl9999, tlm1, tlm9, tlm50, tl2147483647]; omega)) (by first | omega | assumption | (try simp only [tl0, tl1, tl2, tl3, tl4, tl5, tl6, tl8, tl9, tl10, tl50, tl81, tl100, tl1000, tl9999, tlm1, tlm9, tlm50, tl2147483647]; omega))
set_option maxRecDepth 4000 in
theorem okL_X0_sumAcross_L5 (i4 : Int32) (f10 : Nat → Int32) (i3 : Int32)   (g0 : 2 ≤ i4.toInt ∧ i4.toInt ≤ 9)  : ∀ (n : Nat) (i49 : Int32) (i50 : Int32), 0 ≤ i50.toInt → i4.toInt - i50.toInt < n → 0 < n → Ok (LX0_sumAcross_L5 i4 f10 i3 n i49 i50 ) (fun z => True) := by
  intro n
  induction n with
  | zero => intro i49 i50 v0 hm h0; exact absurd h0 (Nat.lt_irrefl 0)
  | succ n ih =>
    intro i49 i50 v0 hm h0
    show Ok (BX0_sumAcross_L5 i4 f10 i3 i49 i50 (fun i49 i50 => LX0_sumAcross_L5 i4 f10 i3 n i49 i50 ) ) _
    unfold BX0_sumAcross_L5
    refine Ok_if ?_ ?_
    · intro h
      have c127 : i4.toInt ≤ i50.toInt := i32le h
      exact Ok_some trivial
    · intro h
      have c128 : i50.toInt < i4.toInt := i32nle h
      refine okL_X0_sumAcross_L17 i4 f10 i3 i50 (by first | omega | assumption | (try simp only [tl0, tl1, tl2, tl3, tl4, tl5, tl6, tl8, tl9, tl10, tl50, tl81, tl100, tl1000, tl9999, tlm1, tlm9, tlm50, tl2147483647]; omega)) ?_ 600 i49 (0 : Int32) (by first | omega | assumption | (try simp only [tl0, tl1, tl2, tl3, tl4, tl5, tl6, tl8, tl9, tl10, tl50, tl81, tl100, tl1000, tl9999, tlm1, tlm9, tlm50, tl2147483647]; omega)) (by first | omega | assumption | (try simp only [tl0, tl1, tl2, tl3, tl4, tl5, tl6, tl8, tl9, tl10, tl50, tl81, tl100, tl1000, tl9999, tlm1, tlm9, tlm50, tl2147483647]; omega)) (by first | omega | assumption | (try simp only [tl0, tl1, tl2, tl3, tl4, tl5, tl6, tl8, tl9, tl10, tl50, tl81, tl100, tl1000, tl9999, tlm1, tlm9, tlm50, tl2147483647]; omega))
      intro i78
      show Ok ((fun i49 i50 => LX0_sumAcross_L5 i4 f10 i3 n i49 i50 ) i78 (i50 + (1 : Int32))) _
      try (have e137 := inc_iv (x := i50) (by omega))
      exact ih i78 (i50 + (1 : Int32)) (by first | omega | assumption | (try simp only [tl0, tl1, tl2, tl3, tl4, tl5, tl6, tl8, tl9, tl10, tl50, tl81, tl100, tl1000, tl9999, tlm1, tlm9, tlm50, tl2147483647]; omega)) (by first | omega | assumption | (try simp only [tl0, tl1, tl2, tl3, tl4, tl5, tl6, tl8, tl9, tl10, tl50, tl81, tl100, tl1000, tl9999, tlm1, tlm9, tlm50, tl2147483647]; omega)) (by first | omega | assumption | (try simp only [tl0, tl1, tl2, tl3, tl4, tl5, tl6, tl8, tl9, tl10, tl50, tl81, tl100, tl1000, tl9999, tlm1, tlm9, tlm50, tl2147483647]; omega))
set_option maxRecDepth 4000 in
theorem ok_X0_sumAcross (i4 : Int32) (f10 : Nat → Int32) (i3 : Int32) (h0 : 2 ≤ i4.toInt ∧ i4.toInt ≤ 9) : Ok (fX0_sumAcross i4 f10 i3) (fun z => True) := by
  unfold fX0_sumAcross
  refine Ok_mono (okL_X0_sumAcross_L5 i4 f10 i3 (by first | omega | assumption | (try simp only [tl0, tl1, tl2, tl3, tl4, tl5, tl6, tl8, tl9, tl10, tl50, tl81, tl100, tl1000, tl9999, tlm1, tlm9, tlm50, tl2147483647]; omega)) 600 (0 : Int32) (0 : Int32) (by first | omega | assumption | (try simp only [tl0, tl1, tl2, tl3, tl4, tl5, tl6, tl8, tl9, tl10, tl50, tl81, tl100, tl1000, tl9999, tlm1, tlm9, tlm50, tl2147483647]; omega)) (by first | omega | assumption | (try simp only [tl0, tl1, tl2, tl3, tl4, tl5, tl6, tl8, tl9, tl10, tl50, tl81, tl100, tl1000, tl9999, tlm1, tlm9, tlm50, tl2147483647]; omega)) (by first | omega | assumption | (try simp only [tl0, tl1, tl2, tl3, tl4, tl5, tl6, tl8, tl9, tl10, tl50, tl81, tl100, tl1000, tl9999, tlm1, tlm9, tlm50, tl2147483647]; omega))) ?_
  intro z hz
  first | exact hz | (simp only [Sx] at *; omega) | (dsimp only at *; omega)
set_option maxRecDepth 4000 in
theorem okL_X0_leastRoom_L10 (i2 : Int32) (i3 : Int32) (i4 : Int32) (f8 : Nat → Int32) (i26 : Int32)   (g0 : 2 ≤ i2.toInt ∧ i2.toInt ≤ 9) (g1 : i26.toInt ≤ 511)  : ∀ (n : Nat) (i27 : Int32) (i28 : Int32), 0 ≤ i28.toInt → i26.toInt - i28.toInt + 1 < n → 0 < n → Ok (LX0_leastRoom_L10 i2 i3 i4 f8 i26 n i27 i28 ) (fun z => True) := by
  intro n
  induction n with
  | zero => intro i27 i28 v0 hm h0; exact absurd h0 (Nat.lt_irrefl 0)
  | succ n ih =>
    intro i27 i28 v0 hm h0
    show Ok (BX0_leastRoom_L10 i2 i3 i4 f8 i26 i27 i28 (fun i27 i28 => LX0_leastRoom_L10 i2 i3 i4 f8 i26 n i27 i28 ) ) _
    unfold BX0_leastRoom_L10
    refine Ok_if ?_ ?_
    · intro h
      have c138 : i26.toInt < i28.toInt := i32lt h
      exact Ok_some trivial
    · intro h
      have c139 : i28.toInt ≤ i26.toInt := i32nlt h
      refine Ok_bind (ok_X0_isCut i3 i4 i28) (fun z29 hz29 => ?_)
      refine Ok_jn (fun k30 wk30 => ?_)
      refine Ok_if ?_ ?_
      · intro h
        have c140 : z29.toInt = 0 := i32eq h
        rw [wk30]
        show Ok ((fun i27 i28 => LX0_leastRoom_L10 i2 i3 i4 f8 i26 n i27 i28 ) i27 (i28 + (1 : Int32))) _
        try (have e141 := inc_iv (x := i28) (by omega))
        exact ih i27 (i28 + (1 : Int32)) (by first | omega | assumption | (try simp only [tl0, tl1, tl2, tl3, tl4, tl5, tl6, tl8, tl9, tl10, tl50, tl81, tl100, tl1000, tl9999, tlm1, tlm9, tlm50, tl2147483647]; omega)) (by first | omega | assumption | (try simp only [tl0, tl1, tl2, tl3, tl4, tl5, tl6, tl8, tl9, tl10, tl50, tl81, tl100, tl1000, tl9999, tlm1, tlm9, tlm50, tl2147483647]; omega)) (by first | omega | assumption | (try simp only [tl0, tl1, tl2, tl3, tl4, tl5, tl6, tl8, tl9, tl10, tl50, tl81, tl100, tl1000, tl9999, tlm1, tlm9, tlm50, tl2147483647]; omega))
      · intro h
        have c142 : z29.toInt ≠ 0 := i32ne h
        refine Ok_bind (ok_X0_sumAcross i2 f8 i28 (by first | omega | assumption | (try simp only [tl0, tl1, tl2, tl3, tl4, tl5, tl6, tl8, tl9, tl10, tl50, tl81, tl100, tl1000, tl9999, tlm1, tlm9, tlm50, tl2147483647]; omega))) (fun z32 hz32 => ?_)
        refine Ok_nm (fun i33 wi33 => ?_)
        have qi33 := i32eq wi33
        rw [wk30]
        show Ok ((fun i27 i28 => LX0_leastRoom_L10 i2 i3 i4 f8 i26 n i27 i28 ) i33 (i28 + (1 : Int32))) _
        try (have e143 := inc_iv (x := i28) (by omega))
        exact ih i33 (i28 + (1 : Int32)) (by first | omega | assumption | (try simp only [tl0, tl1, tl2, tl3, tl4, tl5, tl6, tl8, tl9, tl10, tl50, tl81, tl100, tl1000, tl9999, tlm1, tlm9, tlm50, tl2147483647]; omega)) (by first | omega | assumption | (try simp only [tl0, tl1, tl2, tl3, tl4, tl5, tl6, tl8, tl9, tl10, tl50, tl81, tl100, tl1000, tl9999, tlm1, tlm9, tlm50, tl2147483647]; omega)) (by first | omega | assumption | (try simp only [tl0, tl1, tl2, tl3, tl4, tl5, tl6, tl8, tl9, tl10, tl50, tl81, tl100, tl1000, tl9999, tlm1, tlm9, tlm50, tl2147483647]; omega))
set_option maxRecDepth 4000 in
theorem ok_X0_leastRoom (i2 : Int32) (i3 : Int32) (i4 : Int32) (f8 : Nat → Int32) (h0 : 2 ≤ i2.toInt ∧ i2.toInt ≤ 9) : Ok (fX0_leastRoom i2 i3 i4 f8) (fun z => True) := by
  unfold fX0_leastRoom
  refine Ok_bind (ok_X2_allPlaces i2 (by first | omega | assumption | (try simp only [tl0, tl1, tl2, tl3, tl4, tl5, tl6, tl8, tl9, tl10, tl50, tl81, tl100, tl1000, tl9999, tlm1, tlm9, tlm50, tl2147483647]; omega))) (fun z9 hz9 => ?_)
  try dsimp only at hz9
  try simp only [tl0, tl1, tl2, tl3, tl4, tl5, tl6, tl8, tl9, tl10, tl50, tl81, tl100, tl1000, tl9999, tlm1, tlm9, tlm50, tl2147483647] at hz9
  refine Ok_mono (okL_X0_leastRoom_L10 i2 i3 i4 f8 z9 (by first | omega | assumption | (try simp only [tl0, tl1, tl2, tl3, tl4, tl5, tl6, tl8, tl9, tl10, tl50, tl81, tl100, tl1000, tl9999, tlm1, tlm9, tlm50, tl2147483647]; omega)) (by first | omega | assumption | (try simp only [tl0, tl1, tl2, tl3, tl4, tl5, tl6, tl8, tl9, tl10, tl50, tl81, tl100, tl1000, tl9999, tlm1, tlm9, tlm50, tl2147483647]; omega)) 600 (2147483647 : Int32) (0 : Int32) (by first | omega | assumption | (try simp only [tl0, tl1, tl2, tl3, tl4, tl5, tl6, tl8, tl9, tl10, tl50, tl81, tl100, tl1000, tl9999, tlm1, tlm9, tlm50, tl2147483647]; omega)) (by first | omega | assumption | (try simp only [tl0, tl1, tl2, tl3, tl4, tl5, tl6, tl8, tl9, tl10, tl50, tl81, tl100, tl1000, tl9999, tlm1, tlm9, tlm50, tl2147483647]; omega)) (by first | omega | assumption | (try simp only [tl0, tl1, tl2, tl3, tl4, tl5, tl6, tl8, tl9, tl10, tl50, tl81, tl100, tl1000, tl9999, tlm1, tlm9, tlm50, tl2147483647]; omega))) ?_
  intro z hz
  first | exact hz | (simp only [Sx] at *; omega) | (dsimp only at *; omega)
set_option maxRecDepth 4000 in
theorem ok_X0_isLeastCut (i4 : Int32) (i5 : Int32) (i6 : Int32) (f10 : Nat → Int32) (i2 : Int32) (i3 : Int32) (h0 : 2 ≤ i4.toInt ∧ i4.toInt ≤ 9) : Ok (fX0_isLeastCut i4 i5 i6 f10 i2 i3) (fun z => 0 ≤ z.toInt ∧ z.toInt ≤ 1) := by
  unfold fX0_isLeastCut
  refine Ok_bind (ok_X0_isCut i5 i6 i2) (fun z11 hz11 => ?_)
  refine Ok_if ?_ ?_
  · intro h
    have c144 : z11.toInt = 0 := i32eq h
    refine Ok_some ?_
    try dsimp only
    try simp only [tl0, tl1, tl2, tl3, tl4, tl5, tl6, tl8, tl9, tl10, tl50, tl81, tl100, tl1000, tl9999, tlm1, tlm9, tlm50, tl2147483647]
    first | trivial | omega | (repeat' first | assumption | omega | apply And.intro)
  · intro h
    have c145 : z11.toInt ≠ 0 := i32ne h
    refine Ok_bind (ok_X0_sumAcross i4 f10 i2 (by first | omega | assumption | (try simp only [tl0, tl1, tl2, tl3, tl4, tl5, tl6, tl8, tl9, tl10, tl50, tl81, tl100, tl1000, tl9999, tlm1, tlm9, tlm50, tl2147483647]; omega))) (fun z12 hz12 => ?_)
    refine Ok_if ?_ ?_
    · intro h
      have c146 : z12.toInt = i3.toInt := i32eq h
      refine Ok_some ?_
      try dsimp only
      try simp only [tl0, tl1, tl2, tl3, tl4, tl5, tl6, tl8, tl9, tl10, tl50, tl81, tl100, tl1000, tl9999, tlm1, tlm9, tlm50, tl2147483647]
      first | trivial | omega | (repeat' first | assumption | omega | apply And.intro)
    · intro h
      have c147 : z12.toInt ≠ i3.toInt := i32ne h
      refine Ok_some ?_
      try dsimp only
      try simp only [tl0, tl1, tl2, tl3, tl4, tl5, tl6, tl8, tl9, tl10, tl50, tl81, tl100, tl1000, tl9999, tlm1, tlm9, tlm50, tl2147483647]
      first | trivial | omega | (repeat' first | assumption | omega | apply And.intro)
set_option maxRecDepth 4000 in
theorem okL_X0_countOfLeast_L15 (i2 : Int32) (i3 : Int32) (i4 : Int32) (f8 : Nat → Int32) (i26 : Int32) (i27 : Int32)   (g0 : 2 ≤ i2.toInt ∧ i2.toInt ≤ 9) (g1 : i26.toInt ≤ 511)  : ∀ (n : Nat) (i28 : Int32) (i29 : Int32), 0 ≤ i29.toInt → i26.toInt - i29.toInt + 1 < n → 0 < n → Ok (LX0_countOfLeast_L15 i2 i3 i4 f8 i26 i27 n i28 i29 ) (fun z => True) := by
  intro n
  induction n with
  | zero => intro i28 i29 v0 hm h0; exact absurd h0 (Nat.lt_irrefl 0)
  | succ n ih =>
    intro i28 i29 v0 hm h0
    show Ok (BX0_countOfLeast_L15 i2 i3 i4 f8 i26 i27 i28 i29 (fun i28 i29 => LX0_countOfLeast_L15 i2 i3 i4 f8 i26 i27 n i28 i29 ) ) _
    unfold BX0_countOfLeast_L15
    refine Ok_if ?_ ?_
    · intro h
      have c148 : i26.toInt < i29.toInt := i32lt h
      exact Ok_some trivial
    · intro h
      have c149 : i29.toInt ≤ i26.toInt := i32nlt h
      refine Ok_bind (ok_X0_isLeastCut i2 i3 i4 f8 i29 i27 (by first | omega | assumption | (try simp only [tl0, tl1, tl2, tl3, tl4, tl5, tl6, tl8, tl9, tl10, tl50, tl81, tl100, tl1000, tl9999, tlm1, tlm9, tlm50, tl2147483647]; omega))) (fun z30 hz30 => ?_)
      try dsimp only at hz30
      try simp only [tl0, tl1, tl2, tl3, tl4, tl5, tl6, tl8, tl9, tl10, tl50, tl81, tl100, tl1000, tl9999, tlm1, tlm9, tlm50, tl2147483647] at hz30
      refine Ok_jn (fun k31 wk31 => ?_)
      refine Ok_if ?_ ?_
      · intro h
        have c150 : z30.toInt = 0 := i32eq h
        rw [wk31]
        show Ok ((fun i28 i29 => LX0_countOfLeast_L15 i2 i3 i4 f8 i26 i27 n i28 i29 ) i28 (i29 + (1 : Int32))) _
        try (have e151 := inc_iv (x := i29) (by omega))
        exact ih i28 (i29 + (1 : Int32)) (by first | omega | assumption | (try simp only [tl0, tl1, tl2, tl3, tl4, tl5, tl6, tl8, tl9, tl10, tl50, tl81, tl100, tl1000, tl9999, tlm1, tlm9, tlm50, tl2147483647]; omega)) (by first | omega | assumption | (try simp only [tl0, tl1, tl2, tl3, tl4, tl5, tl6, tl8, tl9, tl10, tl50, tl81, tl100, tl1000, tl9999, tlm1, tlm9, tlm50, tl2147483647]; omega)) (by first | omega | assumption | (try simp only [tl0, tl1, tl2, tl3, tl4, tl5, tl6, tl8, tl9, tl10, tl50, tl81, tl100, tl1000, tl9999, tlm1, tlm9, tlm50, tl2147483647]; omega))
      · intro h
        have c152 : z30.toInt ≠ 0 := i32ne h
        try (have e153 := inc_iv (x := i28) (by omega))
        rw [wk31]
        show Ok ((fun i28 i29 => LX0_countOfLeast_L15 i2 i3 i4 f8 i26 i27 n i28 i29 ) (i28 + (1 : Int32)) (i29 + (1 : Int32))) _
        try (have e154 := inc_iv (x := i29) (by omega))
        exact ih (i28 + (1 : Int32)) (i29 + (1 : Int32)) (by first | omega | assumption | (try simp only [tl0, tl1, tl2, tl3, tl4, tl5, tl6, tl8, tl9, tl10, tl50, tl81, tl100, tl1000, tl9999, tlm1, tlm9, tlm50, tl2147483647]; omega)) (by first | omega | assumption | (try simp only [tl0, tl1, tl2, tl3, tl4, tl5, tl6, tl8, tl9, tl10, tl50, tl81, tl100, tl1000, tl9999, tlm1, tlm9, tlm50, tl2147483647]; omega)) (by first | omega | assumption | (try simp only [tl0, tl1, tl2, tl3, tl4, tl5, tl6, tl8, tl9, tl10, tl50, tl81, tl100, tl1000, tl9999, tlm1, tlm9, tlm50, tl2147483647]; omega))
set_option maxRecDepth 4000 in
theorem ok_X0_countOfLeast (i2 : Int32) (i3 : Int32) (i4 : Int32) (f8 : Nat → Int32) (h0 : 2 ≤ i2.toInt ∧ i2.toInt ≤ 9) : Ok (fX0_countOfLeast i2 i3 i4 f8) (fun z => True) := by
  unfold fX0_countOfLeast
  refine Ok_bind (ok_X2_allPlaces i2 (by first | omega | assumption | (try simp only [tl0, tl1, tl2, tl3, tl4, tl5, tl6, tl8, tl9, tl10, tl50, tl81, tl100, tl1000, tl9999, tlm1, tlm9, tlm50, tl2147483647]; omega))) (fun z9 hz9 => ?_)
  try dsimp only at hz9
  try simp only [tl0, tl1, tl2, tl3, tl4, tl5, tl6, tl8, tl9, tl10, tl50, tl81, tl100, tl1000, tl9999, tlm1, tlm9, tlm50, tl2147483647] at hz9
  refine Ok_bind (ok_X0_leastRoom i2 i3 i4 f8 (by first | omega | assumption | (try simp only [tl0, tl1, tl2, tl3, tl4, tl5, tl6, tl8, tl9, tl10, tl50, tl81, tl100, tl1000, tl9999, tlm1, tlm9, tlm50, tl2147483647]; omega))) (fun z10 hz10 => ?_)
  refine Ok_mono (okL_X0_countOfLeast_L15 i2 i3 i4 f8 z9 z10 (by first | omega | assumption | (try simp only [tl0, tl1, tl2, tl3, tl4, tl5, tl6, tl8, tl9, tl10, tl50, tl81, tl100, tl1000, tl9999, tlm1, tlm9, tlm50, tl2147483647]; omega)) (by first | omega | assumption | (try simp only [tl0, tl1, tl2, tl3, tl4, tl5, tl6, tl8, tl9, tl10, tl50, tl81, tl100, tl1000, tl9999, tlm1, tlm9, tlm50, tl2147483647]; omega)) 600 (0 : Int32) (0 : Int32) (by first | omega | assumption | (try simp only [tl0, tl1, tl2, tl3, tl4, tl5, tl6, tl8, tl9, tl10, tl50, tl81, tl100, tl1000, tl9999, tlm1, tlm9, tlm50, tl2147483647]; omega)) (by first | omega | assumption | (try simp only [tl0, tl1, tl2, tl3, tl4, tl5, tl6, tl8, tl9, tl10, tl50, tl81, tl100, tl1000, tl9999, tlm1, tlm9, tlm50, tl2147483647]; omega)) (by first | omega | assumption | (try simp only [tl0, tl1, tl2, tl3, tl4, tl5, tl6, tl8, tl9, tl10, tl50, tl81, tl100, tl1000, tl9999, tlm1, tlm9, tlm50, tl2147483647]; omega))) ?_
  intro z hz
  first | exact hz | (simp only [Sx] at *; omega) | (dsimp only at *; omega)
set_option maxRecDepth 4000 in
theorem okL_X0_leastByNumber_L16 (i3 : Int32) (i4 : Int32) (i5 : Int32) (f9 : Nat → Int32) (i2 : Int32) (i28 : Int32) (i29 : Int32)   (g0 : 2 ≤ i3.toInt ∧ i3.toInt ≤ 9) (g1 : i28.toInt ≤ 511)  : ∀ (n : Nat) (i30 : Int32) (i31 : Int32), 0 ≤ i31.toInt → i28.toInt - i31.toInt + 1 < n → 0 < n → Ok (LX0_leastByNumber_L16 i3 i4 i5 f9 i2 i28 i29 n i30 i31 ) (fun z => True) := by
  intro n
  induction n with
  | zero => intro i30 i31 v0 hm h0; exact absurd h0 (Nat.lt_irrefl 0)
  | succ n ih =>
    intro i30 i31 v0 hm h0
    show Ok (BX0_leastByNumber_L16 i3 i4 i5 f9 i2 i28 i29 i30 i31 (fun i30 i31 => LX0_leastByNumber_L16 i3 i4 i5 f9 i2 i28 i29 n i30 i31 ) ) _
    unfold BX0_leastByNumber_L16
    refine Ok_if ?_ ?_
    · intro h
      have c155 : i28.toInt < i31.toInt := i32lt h
      exact Ok_some trivial
    · intro h
      have c156 : i31.toInt ≤ i28.toInt := i32nlt h
      refine Ok_bind (ok_X0_isLeastCut i3 i4 i5 f9 i31 i29 (by first | omega | assumption | (try simp only [tl0, tl1, tl2, tl3, tl4, tl5, tl6, tl8, tl9, tl10, tl50, tl81, tl100, tl1000, tl9999, tlm1, tlm9, tlm50, tl2147483647]; omega))) (fun z32 hz32 => ?_)
      try dsimp only at hz32
      try simp only [tl0, tl1, tl2, tl3, tl4, tl5, tl6, tl8, tl9, tl10, tl50, tl81, tl100, tl1000, tl9999, tlm1, tlm9, tlm50, tl2147483647] at hz32
      refine Ok_jn (fun k33 wk33 => ?_)
      refine Ok_if ?_ ?_
      · intro h
        have c157 : z32.toInt = 0 := i32eq h
        rw [wk33]
        show Ok ((fun i30 i31 => LX0_leastByNumber_L16 i3 i4 i5 f9 i2 i28 i29 n i30 i31 ) i30 (i31 + (1 : Int32))) _
        try (have e158 := inc_iv (x := i31) (by omega))
        exact ih i30 (i31 + (1 : Int32)) (by first | omega | assumption | (try simp only [tl0, tl1, tl2, tl3, tl4, tl5, tl6, tl8, tl9, tl10, tl50, tl81, tl100, tl1000, tl9999, tlm1, tlm9, tlm50, tl2147483647]; omega)) (by first | omega | assumption | (try simp only [tl0, tl1, tl2, tl3, tl4, tl5, tl6, tl8, tl9, tl10, tl50, tl81, tl100, tl1000, tl9999, tlm1, tlm9, tlm50, tl2147483647]; omega)) (by first | omega | assumption | (try simp only [tl0, tl1, tl2, tl3, tl4, tl5, tl6, tl8, tl9, tl10, tl50, tl81, tl100, tl1000, tl9999, tlm1, tlm9, tlm50, tl2147483647]; omega))
      · intro h
        have c159 : z32.toInt ≠ 0 := i32ne h
        refine Ok_if ?_ ?_
        · intro h
          have c160 : i30.toInt = i2.toInt := i32eq h
          exact Ok_some trivial
        · intro h
          have c161 : i30.toInt ≠ i2.toInt := i32ne h
          try (have e162 := inc_iv (x := i30) (by omega))
          rw [wk33]
          show Ok ((fun i30 i31 => LX0_leastByNumber_L16 i3 i4 i5 f9 i2 i28 i29 n i30 i31 ) (i30 + (1 : Int32)) (i31 + (1 : Int32))) _
          try (have e163 := inc_iv (x := i31) (by omega))
          exact ih (i30 + (1 : Int32)) (i31 + (1 : Int32)) (by first | omega | assumption | (try simp only [tl0, tl1, tl2, tl3, tl4, tl5, tl6, tl8, tl9, tl10, tl50, tl81, tl100, tl1000, tl9999, tlm1, tlm9, tlm50, tl2147483647]; omega)) (by first | omega | assumption | (try simp only [tl0, tl1, tl2, tl3, tl4, tl5, tl6, tl8, tl9, tl10, tl50, tl81, tl100, tl1000, tl9999, tlm1, tlm9, tlm50, tl2147483647]; omega)) (by first | omega | assumption | (try simp only [tl0, tl1, tl2, tl3, tl4, tl5, tl6, tl8, tl9, tl10, tl50, tl81, tl100, tl1000, tl9999, tlm1, tlm9, tlm50, tl2147483647]; omega))
set_option maxRecDepth 4000 in
theorem ok_X0_leastByNumber (i3 : Int32) (i4 : Int32) (i5 : Int32) (f9 : Nat → Int32) (i2 : Int32) (h0 : 2 ≤ i3.toInt ∧ i3.toInt ≤ 9) : Ok (fX0_leastByNumber i3 i4 i5 f9 i2) (fun z => True) := by
  unfold fX0_leastByNumber
  refine Ok_bind (ok_X2_allPlaces i3 (by first | omega | assumption | (try simp only [tl0, tl1, tl2, tl3, tl4, tl5, tl6, tl8, tl9, tl10, tl50, tl81, tl100, tl1000, tl9999, tlm1, tlm9, tlm50, tl2147483647]; omega))) (fun z10 hz10 => ?_)
  try dsimp only at hz10
  try simp only [tl0, tl1, tl2, tl3, tl4, tl5, tl6, tl8, tl9, tl10, tl50, tl81, tl100, tl1000, tl9999, tlm1, tlm9, tlm50, tl2147483647] at hz10
  refine Ok_bind (ok_X0_leastRoom i3 i4 i5 f9 (by first | omega | assumption | (try simp only [tl0, tl1, tl2, tl3, tl4, tl5, tl6, tl8, tl9, tl10, tl50, tl81, tl100, tl1000, tl9999, tlm1, tlm9, tlm50, tl2147483647]; omega))) (fun z11 hz11 => ?_)
  refine Ok_mono (okL_X0_leastByNumber_L16 i3 i4 i5 f9 i2 z10 z11 (by first | omega | assumption | (try simp only [tl0, tl1, tl2, tl3, tl4, tl5, tl6, tl8, tl9, tl10, tl50, tl81, tl100, tl1000, tl9999, tlm1, tlm9, tlm50, tl2147483647]; omega)) (by first | omega | assumption | (try simp only [tl0, tl1, tl2, tl3, tl4, tl5, tl6, tl8, tl9, tl10, tl50, tl81, tl100, tl1000, tl9999, tlm1, tlm9, tlm50, tl2147483647]; omega)) 600 (0 : Int32) (0 : Int32) (by first | omega | assumption | (try simp only [tl0, tl1, tl2, tl3, tl4, tl5, tl6, tl8, tl9, tl10, tl50, tl81, tl100, tl1000, tl9999, tlm1, tlm9, tlm50, tl2147483647]; omega)) (by first | omega | assumption | (try simp only [tl0, tl1, tl2, tl3, tl4, tl5, tl6, tl8, tl9, tl10, tl50, tl81, tl100, tl1000, tl9999, tlm1, tlm9, tlm50, tl2147483647]; omega)) (by first | omega | assumption | (try simp only [tl0, tl1, tl2, tl3, tl4, tl5, tl6, tl8, tl9, tl10, tl50, tl81, tl100, tl1000, tl9999, tlm1, tlm9, tlm50, tl2147483647]; omega))) ?_
  intro z hz
  first | exact hz | (simp only [Sx] at *; omega) | (dsimp only at *; omega)
set_option maxRecDepth 4000 in
theorem okL_X0_nearest_L15 (i2 : Int32) (i3 : Int32) (i4 : Int32) (f8 : Nat → Int32) (i27 : Int32) (i28 : Int32)   (g0 : 2 ≤ i2.toInt ∧ i2.toInt ≤ 9) (g1 : i28.toInt ≤ 511)  : ∀ (n : Nat) (i29 : Int32) (i30 : Int32), 0 ≤ i30.toInt → i28.toInt - i30.toInt + 1 < n → 0 < n → Ok (LX0_nearest_L15 i2 i3 i4 f8 i27 i28 n i29 i30 ) (fun z => True) := by
  intro n
  induction n with
  | zero => intro i29 i30 v0 hm h0; exact absurd h0 (Nat.lt_irrefl 0)
  | succ n ih =>
    intro i29 i30 v0 hm h0
    show Ok (BX0_nearest_L15 i2 i3 i4 f8 i27 i28 i29 i30 (fun i29 i30 => LX0_nearest_L15 i2 i3 i4 f8 i27 i28 n i29 i30 ) ) _
    unfold BX0_nearest_L15
    refine Ok_if ?_ ?_
    · intro h
      have c164 : i28.toInt < i30.toInt := i32lt h
      exact Ok_some trivial
    · intro h
      have c165 : i30.toInt ≤ i28.toInt := i32nlt h
      refine Ok_bind (ok_X0_isLeastCut i2 i3 i4 f8 i30 i27 (by first | omega | assumption | (try simp only [tl0, tl1, tl2, tl3, tl4, tl5, tl6, tl8, tl9, tl10, tl50, tl81, tl100, tl1000, tl9999, tlm1, tlm9, tlm50, tl2147483647]; omega))) (fun z31 hz31 => ?_)
      try dsimp only at hz31
      try simp only [tl0, tl1, tl2, tl3, tl4, tl5, tl6, tl8, tl9, tl10, tl50, tl81, tl100, tl1000, tl9999, tlm1, tlm9, tlm50, tl2147483647] at hz31
      refine Ok_jn (fun k32 wk32 => ?_)
      refine Ok_if ?_ ?_
      · intro h
        have c166 : z31.toInt = 0 := i32eq h
        rw [wk32]
        show Ok ((fun i29 i30 => LX0_nearest_L15 i2 i3 i4 f8 i27 i28 n i29 i30 ) i29 (i30 + (1 : Int32))) _
        try (have e167 := inc_iv (x := i30) (by omega))
        exact ih i29 (i30 + (1 : Int32)) (by first | omega | assumption | (try simp only [tl0, tl1, tl2, tl3, tl4, tl5, tl6, tl8, tl9, tl10, tl50, tl81, tl100, tl1000, tl9999, tlm1, tlm9, tlm50, tl2147483647]; omega)) (by first | omega | assumption | (try simp only [tl0, tl1, tl2, tl3, tl4, tl5, tl6, tl8, tl9, tl10, tl50, tl81, tl100, tl1000, tl9999, tlm1, tlm9, tlm50, tl2147483647]; omega)) (by first | omega | assumption | (try simp only [tl0, tl1, tl2, tl3, tl4, tl5, tl6, tl8, tl9, tl10, tl50, tl81, tl100, tl1000, tl9999, tlm1, tlm9, tlm50, tl2147483647]; omega))
      · intro h
        have c168 : z31.toInt ≠ 0 := i32ne h
        refine Ok_nm (fun i34 wi34 => ?_)
        have qi34 := i32eq wi34
        rw [wk32]
        show Ok ((fun i29 i30 => LX0_nearest_L15 i2 i3 i4 f8 i27 i28 n i29 i30 ) i34 (i30 + (1 : Int32))) _
        try (have e169 := inc_iv (x := i30) (by omega))
        exact ih i34 (i30 + (1 : Int32)) (by first | omega | assumption | (try simp only [tl0, tl1, tl2, tl3, tl4, tl5, tl6, tl8, tl9, tl10, tl50, tl81, tl100, tl1000, tl9999, tlm1, tlm9, tlm50, tl2147483647]; omega)) (by first | omega | assumption | (try simp only [tl0, tl1, tl2, tl3, tl4, tl5, tl6, tl8, tl9, tl10, tl50, tl81, tl100, tl1000, tl9999, tlm1, tlm9, tlm50, tl2147483647]; omega)) (by first | omega | assumption | (try simp only [tl0, tl1, tl2, tl3, tl4, tl5, tl6, tl8, tl9, tl10, tl50, tl81, tl100, tl1000, tl9999, tlm1, tlm9, tlm50, tl2147483647]; omega))
set_option maxRecDepth 4000 in
theorem ok_X0_nearest (i2 : Int32) (i3 : Int32) (i4 : Int32) (f8 : Nat → Int32) (h0 : 2 ≤ i2.toInt ∧ i2.toInt ≤ 9) : Ok (fX0_nearest i2 i3 i4 f8) (fun z => True) := by
  unfold fX0_nearest
  refine Ok_bind (ok_X0_leastRoom i2 i3 i4 f8 (by first | omega | assumption | (try simp only [tl0, tl1, tl2, tl3, tl4, tl5, tl6, tl8, tl9, tl10, tl50, tl81, tl100, tl1000, tl9999, tlm1, tlm9, tlm50, tl2147483647]; omega))) (fun z9 hz9 => ?_)
  refine Ok_bind (ok_X2_allPlaces i2 (by first | omega | assumption | (try simp only [tl0, tl1, tl2, tl3, tl4, tl5, tl6, tl8, tl9, tl10, tl50, tl81, tl100, tl1000, tl9999, tlm1, tlm9, tlm50, tl2147483647]; omega))) (fun z10 hz10 => ?_)
  try dsimp only at hz10
  try simp only [tl0, tl1, tl2, tl3, tl4, tl5, tl6, tl8, tl9, tl10, tl50, tl81, tl100, tl1000, tl9999, tlm1, tlm9, tlm50, tl2147483647] at hz10
  refine Ok_mono (okL_X0_nearest_L15 i2 i3 i4 f8 z9 z10 (by first | omega | assumption | (try simp only [tl0, tl1, tl2, tl3, tl4, tl5, tl6, tl8, tl9, tl10, tl50, tl81, tl100, tl1000, tl9999, tlm1, tlm9, tlm50, tl2147483647]; omega)) (by first | omega | assumption | (try simp only [tl0, tl1, tl2, tl3, tl4, tl5, tl6, tl8, tl9, tl10, tl50, tl81, tl100, tl1000, tl9999, tlm1, tlm9, tlm50, tl2147483647]; omega)) 600 z10 (0 : Int32) (by first | omega | assumption | (try simp only [tl0, tl1, tl2, tl3, tl4, tl5, tl6, tl8, tl9, tl10, tl50, tl81, tl100, tl1000, tl9999, tlm1, tlm9, tlm50, tl2147483647]; omega)) (by first | omega | assumption | (try simp only [tl0, tl1, tl2, tl3, tl4, tl5, tl6, tl8, tl9, tl10, tl50, tl81, tl100, tl1000, tl9999, tlm1, tlm9, tlm50, tl2147483647]; omega)) (by first | omega | assumption | (try simp only [tl0, tl1, tl2, tl3, tl4, tl5, tl6, tl8, tl9, tl10, tl50, tl81, tl100, tl1000, tl9999, tlm1, tlm9, tlm50, tl2147483647]; omega))) ?_
  intro z hz
  first | exact hz | (simp only [Sx] at *; omega) | (dsimp only at *; omega)
set_option maxRecDepth 4000 in
theorem okL_X0_farthest_L15 (i2 : Int32) (i3 : Int32) (i4 : Int32) (f8 : Nat → Int32) (i27 : Int32) (i28 : Int32)   (g0 : 2 ≤ i2.toInt ∧ i2.toInt ≤ 9) (g1 : i27.toInt ≤ 511)  : ∀ (n : Nat) (i29 : Int32) (i30 : Int32), 0 ≤ i30.toInt → i27.toInt - i30.toInt + 1 < n → 0 < n → Ok (LX0_farthest_L15 i2 i3 i4 f8 i27 i28 n i29 i30 ) (fun z => True) := by
  intro n
  induction n with
  | zero => intro i29 i30 v0 hm h0; exact absurd h0 (Nat.lt_irrefl 0)
  | succ n ih =>
    intro i29 i30 v0 hm h0
    show Ok (BX0_farthest_L15 i2 i3 i4 f8 i27 i28 i29 i30 (fun i29 i30 => LX0_farthest_L15 i2 i3 i4 f8 i27 i28 n i29 i30 ) ) _
    unfold BX0_farthest_L15
    refine Ok_if ?_ ?_
    · intro h
      have c170 : i27.toInt < i30.toInt := i32lt h
      exact Ok_some trivial
    · intro h
      have c171 : i30.toInt ≤ i27.toInt := i32nlt h
      refine Ok_bind (ok_X0_isLeastCut i2 i3 i4 f8 i30 i28 (by first | omega | assumption | (try simp only [tl0, tl1, tl2, tl3, tl4, tl5, tl6, tl8, tl9, tl10, tl50, tl81, tl100, tl1000, tl9999, tlm1, tlm9, tlm50, tl2147483647]; omega))) (fun z31 hz31 => ?_)
      try dsimp only at hz31
      try simp only [tl0, tl1, tl2, tl3, tl4, tl5, tl6, tl8, tl9, tl10, tl50, tl81, tl100, tl1000, tl9999, tlm1, tlm9, tlm50, tl2147483647] at hz31
      refine Ok_jn (fun k32 wk32 => ?_)
      refine Ok_if ?_ ?_
      · intro h
        have c172 : z31.toInt = 0 := i32eq h
        rw [wk32]
        show Ok ((fun i29 i30 => LX0_farthest_L15 i2 i3 i4 f8 i27 i28 n i29 i30 ) i29 (i30 + (1 : Int32))) _
        try (have e173 := inc_iv (x := i30) (by omega))
        exact ih i29 (i30 + (1 : Int32)) (by first | omega | assumption | (try simp only [tl0, tl1, tl2, tl3, tl4, tl5, tl6, tl8, tl9, tl10, tl50, tl81, tl100, tl1000, tl9999, tlm1, tlm9, tlm50, tl2147483647]; omega)) (by first | omega | assumption | (try simp only [tl0, tl1, tl2, tl3, tl4, tl5, tl6, tl8, tl9, tl10, tl50, tl81, tl100, tl1000, tl9999, tlm1, tlm9, tlm50, tl2147483647]; omega)) (by first | omega | assumption | (try simp only [tl0, tl1, tl2, tl3, tl4, tl5, tl6, tl8, tl9, tl10, tl50, tl81, tl100, tl1000, tl9999, tlm1, tlm9, tlm50, tl2147483647]; omega))
      · intro h
        have c174 : z31.toInt ≠ 0 := i32ne h
        refine Ok_nm (fun i34 wi34 => ?_)
        have qi34 := i32eq wi34
        rw [wk32]
        show Ok ((fun i29 i30 => LX0_farthest_L15 i2 i3 i4 f8 i27 i28 n i29 i30 ) i34 (i30 + (1 : Int32))) _
        try (have e175 := inc_iv (x := i30) (by omega))
        exact ih i34 (i30 + (1 : Int32)) (by first | omega | assumption | (try simp only [tl0, tl1, tl2, tl3, tl4, tl5, tl6, tl8, tl9, tl10, tl50, tl81, tl100, tl1000, tl9999, tlm1, tlm9, tlm50, tl2147483647]; omega)) (by first | omega | assumption | (try simp only [tl0, tl1, tl2, tl3, tl4, tl5, tl6, tl8, tl9, tl10, tl50, tl81, tl100, tl1000, tl9999, tlm1, tlm9, tlm50, tl2147483647]; omega)) (by first | omega | assumption | (try simp only [tl0, tl1, tl2, tl3, tl4, tl5, tl6, tl8, tl9, tl10, tl50, tl81, tl100, tl1000, tl9999, tlm1, tlm9, tlm50, tl2147483647]; omega))
set_option maxRecDepth 4000 in
theorem ok_X0_farthest (i2 : Int32) (i3 : Int32) (i4 : Int32) (f8 : Nat → Int32) (h0 : 2 ≤ i2.toInt ∧ i2.toInt ≤ 9) : Ok (fX0_farthest i2 i3 i4 f8) (fun z => True) := by
  unfold fX0_farthest
  refine Ok_bind (ok_X2_allPlaces i2 (by first | omega | assumption | (try simp only [tl0, tl1, tl2, tl3, tl4, tl5, tl6, tl8, tl9, tl10, tl50, tl81, tl100, tl1000, tl9999, tlm1, tlm9, tlm50, tl2147483647]; omega))) (fun z9 hz9 => ?_)
  try dsimp only at hz9
  try simp only [tl0, tl1, tl2, tl3, tl4, tl5, tl6, tl8, tl9, tl10, tl50, tl81, tl100, tl1000, tl9999, tlm1, tlm9, tlm50, tl2147483647] at hz9
  refine Ok_bind (ok_X0_leastRoom i2 i3 i4 f8 (by first | omega | assumption | (try simp only [tl0, tl1, tl2, tl3, tl4, tl5, tl6, tl8, tl9, tl10, tl50, tl81, tl100, tl1000, tl9999, tlm1, tlm9, tlm50, tl2147483647]; omega))) (fun z10 hz10 => ?_)
  refine Ok_mono (okL_X0_farthest_L15 i2 i3 i4 f8 z9 z10 (by first | omega | assumption | (try simp only [tl0, tl1, tl2, tl3, tl4, tl5, tl6, tl8, tl9, tl10, tl50, tl81, tl100, tl1000, tl9999, tlm1, tlm9, tlm50, tl2147483647]; omega)) (by first | omega | assumption | (try simp only [tl0, tl1, tl2, tl3, tl4, tl5, tl6, tl8, tl9, tl10, tl50, tl81, tl100, tl1000, tl9999, tlm1, tlm9, tlm50, tl2147483647]; omega)) 600 (0 : Int32) (0 : Int32) (by first | omega | assumption | (try simp only [tl0, tl1, tl2, tl3, tl4, tl5, tl6, tl8, tl9, tl10, tl50, tl81, tl100, tl1000, tl9999, tlm1, tlm9, tlm50, tl2147483647]; omega)) (by first | omega | assumption | (try simp only [tl0, tl1, tl2, tl3, tl4, tl5, tl6, tl8, tl9, tl10, tl50, tl81, tl100, tl1000, tl9999, tlm1, tlm9, tlm50, tl2147483647]; omega)) (by first | omega | assumption | (try simp only [tl0, tl1, tl2, tl3, tl4, tl5, tl6, tl8, tl9, tl10, tl50, tl81, tl100, tl1000, tl9999, tlm1, tlm9, tlm50, tl2147483647]; omega))) ?_
  intro z hz
  first | exact hz | (simp only [Sx] at *; omega) | (dsimp only at *; omega)
set_option maxRecDepth 4000 in
theorem okL_X0_letEachThrough_L7 (i3 : Int32) (i4 : Int32) (i5 : Int32) (f9 : Nat → Int32) (i2 : Int32) (i25 : Int32)   (g0 : 2 ≤ i3.toInt ∧ i3.toInt ≤ 9) (g1 : i25.toInt ≤ 511)  : ∀ (n : Nat) (i26 : Int32), 0 ≤ i26.toInt → i25.toInt - i26.toInt + 1 < n → 0 < n → Ok (LX0_letEachThrough_L7 i3 i4 i5 f9 i2 i25 n i26 ) (fun z => True) := by
  intro n
  induction n with
  | zero => intro i26 v0 hm h0; exact absurd h0 (Nat.lt_irrefl 0)
  | succ n ih =>
    intro i26 v0 hm h0
    show Ok (BX0_letEachThrough_L7 i3 i4 i5 f9 i2 i25 i26 (fun i26 => LX0_letEachThrough_L7 i3 i4 i5 f9 i2 i25 n i26 ) ) _
    unfold BX0_letEachThrough_L7
    refine Ok_if ?_ ?_
    · intro h
      have c176 : i25.toInt < i26.toInt := i32lt h
      exact Ok_some trivial
    · intro h
      have c177 : i26.toInt ≤ i25.toInt := i32nlt h
      refine Ok_bind (ok_X0_isCut i4 i5 i26) (fun z27 hz27 => ?_)
      refine Ok_jn (fun k28 wk28 => ?_)
      refine Ok_if ?_ ?_
      · intro h
        have c178 : z27.toInt = 0 := i32eq h
        rw [wk28]
        show Ok ((fun i26 => LX0_letEachThrough_L7 i3 i4 i5 f9 i2 i25 n i26 ) (i26 + (1 : Int32))) _
        try (have e179 := inc_iv (x := i26) (by omega))
        exact ih (i26 + (1 : Int32)) (by first | omega | assumption | (try simp only [tl0, tl1, tl2, tl3, tl4, tl5, tl6, tl8, tl9, tl10, tl50, tl81, tl100, tl1000, tl9999, tlm1, tlm9, tlm50, tl2147483647]; omega)) (by first | omega | assumption | (try simp only [tl0, tl1, tl2, tl3, tl4, tl5, tl6, tl8, tl9, tl10, tl50, tl81, tl100, tl1000, tl9999, tlm1, tlm9, tlm50, tl2147483647]; omega)) (by first | omega | assumption | (try simp only [tl0, tl1, tl2, tl3, tl4, tl5, tl6, tl8, tl9, tl10, tl50, tl81, tl100, tl1000, tl9999, tlm1, tlm9, tlm50, tl2147483647]; omega))
      · intro h
        have c180 : z27.toInt ≠ 0 := i32ne h
        refine Ok_bind (ok_X0_sumAcross i3 f9 i26 (by first | omega | assumption | (try simp only [tl0, tl1, tl2, tl3, tl4, tl5, tl6, tl8, tl9, tl10, tl50, tl81, tl100, tl1000, tl9999, tlm1, tlm9, tlm50, tl2147483647]; omega))) (fun z30 hz30 => ?_)
        refine Ok_if ?_ ?_
        · intro h
          have c181 : z30.toInt = i2.toInt := i32eq h
          rw [wk28]
          show Ok ((fun i26 => LX0_letEachThrough_L7 i3 i4 i5 f9 i2 i25 n i26 ) (i26 + (1 : Int32))) _
          try (have e182 := inc_iv (x := i26) (by omega))
          exact ih (i26 + (1 : Int32)) (by first | omega | assumption | (try simp only [tl0, tl1, tl2, tl3, tl4, tl5, tl6, tl8, tl9, tl10, tl50, tl81, tl100, tl1000, tl9999, tlm1, tlm9, tlm50, tl2147483647]; omega)) (by first | omega | assumption | (try simp only [tl0, tl1, tl2, tl3, tl4, tl5, tl6, tl8, tl9, tl10, tl50, tl81, tl100, tl1000, tl9999, tlm1, tlm9, tlm50, tl2147483647]; omega)) (by first | omega | assumption | (try simp only [tl0, tl1, tl2, tl3, tl4, tl5, tl6, tl8, tl9, tl10, tl50, tl81, tl100, tl1000, tl9999, tlm1, tlm9, tlm50, tl2147483647]; omega))
        · intro h
          have c183 : z30.toInt ≠ i2.toInt := i32ne h
          exact Ok_some trivial
set_option maxRecDepth 4000 in
theorem ok_X0_letEachThrough (i3 : Int32) (i4 : Int32) (i5 : Int32) (f9 : Nat → Int32) (i2 : Int32) (h0 : 2 ≤ i3.toInt ∧ i3.toInt ≤ 9) : Ok (fX0_letEachThrough i3 i4 i5 f9 i2) (fun z => True) := by
  unfold fX0_letEachThrough
  refine Ok_bind (ok_X2_allPlaces i3 (by first | omega | assumption | (try simp only [tl0, tl1, tl2, tl3, tl4, tl5, tl6, tl8, tl9, tl10, tl50, tl81, tl100, tl1000, tl9999, tlm1, tlm9, tlm50, tl2147483647]; omega))) (fun z10 hz10 => ?_)
  try dsimp only at hz10
  try simp only [tl0, tl1, tl2, tl3, tl4, tl5, tl6, tl8, tl9, tl10, tl50, tl81, tl100, tl1000, tl9999, tlm1, tlm9, tlm50, tl2147483647] at hz10
  refine Ok_mono (okL_X0_letEachThrough_L7 i3 i4 i5 f9 i2 z10 (by first | omega | assumption | (try simp only [tl0, tl1, tl2, tl3, tl4, tl5, tl6, tl8, tl9, tl10, tl50, tl81, tl100, tl1000, tl9999, tlm1, tlm9, tlm50, tl2147483647]; omega)) (by first | omega | assumption | (try simp only [tl0, tl1, tl2, tl3, tl4, tl5, tl6, tl8, tl9, tl10, tl50, tl81, tl100, tl1000, tl9999, tlm1, tlm9, tlm50, tl2147483647]; omega)) 600 (0 : Int32) (by first | omega | assumption | (try simp only [tl0, tl1, tl2, tl3, tl4, tl5, tl6, tl8, tl9, tl10, tl50, tl81, tl100, tl1000, tl9999, tlm1, tlm9, tlm50, tl2147483647]; omega)) (by first | omega | assumption | (try simp only [tl0, tl1, tl2, tl3, tl4, tl5, tl6, tl8, tl9, tl10, tl50, tl81, tl100, tl1000, tl9999, tlm1, tlm9, tlm50, tl2147483647]; omega)) (by first | omega | assumption | (try simp only [tl0, tl1, tl2, tl3, tl4, tl5, tl6, tl8, tl9, tl10, tl50, tl81, tl100, tl1000, tl9999, tlm1, tlm9, tlm50, tl2147483647]; omega))) ?_
  intro z hz
  first | exact hz | (simp only [Sx] at *; omega) | (dsimp only at *; omega)
set_option maxRecDepth 4000 in
theorem ok_X3_init   : Ok (fX3_init ) (fun z => True) := by
  unfold fX3_init
  refine Ok_bind (ok_X4_init) (fun z6 hz6 => ?_)
  exact Ok_some trivial
set_option maxRecDepth 4000 in
theorem okL_X3_leastFlow_L5 (i7 : Int32) (f8 : Nat → Int32) (f15 : Nat → Int32)   (g0 : 0 ≤ i7.toInt ∧ i7.toInt ≤ 10)  : ∀ (n : Nat) (i35 : Int32) (i36 : Int32), 0 ≤ i36.toInt → i7.toInt - i36.toInt < n → 0 < n → Ok (LX3_leastFlow_L5 i7 f8 f15 n i35 i36 ) (fun z => True) := by
  intro n
  induction n with
  | zero => intro i35 i36 v0 hm h0; exact absurd h0 (Nat.lt_irrefl 0)
  | succ n ih =>
    intro i35 i36 v0 hm h0
    show Ok (BX3_leastFlow_L5 i7 f8 f15 i35 i36 (fun i35 i36 => LX3_leastFlow_L5 i7 f8 f15 n i35 i36 ) ) _
    unfold BX3_leastFlow_L5
    refine Ok_if ?_ ?_
    · intro h
      have c184 : i7.toInt ≤ i36.toInt := i32le h
      exact Ok_some trivial
    · intro h
      have c185 : i36.toInt < i7.toInt := i32nle h
      try (have e186 := dec_iv (x := i36) (by omega))
      refine Ok_bind (ok_X4_at f8 (i36 - (1 : Int32))) (fun z37 hz37 => ?_)
      refine Ok_bind (ok_X4_at f8 i36) (fun z38 hz38 => ?_)
      refine Ok_bind (ok_X1_at f15 z37 z38) (fun z39 hz39 => ?_)
      refine Ok_nm (fun i40 wi40 => ?_)
      have qi40 := i32eq wi40
      try (have e187 := inc_iv (x := i36) (by omega))
      exact ih i40 (i36 + (1 : Int32)) (by first | omega | assumption | (try simp only [tl0, tl1, tl2, tl3, tl4, tl5, tl6, tl8, tl9, tl10, tl50, tl81, tl100, tl1000, tl9999, tlm1, tlm9, tlm50, tl2147483647]; omega)) (by first | omega | assumption | (try simp only [tl0, tl1, tl2, tl3, tl4, tl5, tl6, tl8, tl9, tl10, tl50, tl81, tl100, tl1000, tl9999, tlm1, tlm9, tlm50, tl2147483647]; omega)) (by first | omega | assumption | (try simp only [tl0, tl1, tl2, tl3, tl4, tl5, tl6, tl8, tl9, tl10, tl50, tl81, tl100, tl1000, tl9999, tlm1, tlm9, tlm50, tl2147483647]; omega))
set_option maxRecDepth 4000 in
theorem ok_X3_leastFlow (i7 : Int32) (f8 : Nat → Int32) (f15 : Nat → Int32) (h0 : 0 ≤ i7.toInt ∧ i7.toInt ≤ 10) : Ok (fX3_leastFlow i7 f8 f15) (fun z => True) := by
  unfold fX3_leastFlow
  refine Ok_mono (okL_X3_leastFlow_L5 i7 f8 f15 (by first | omega | assumption | (try simp only [tl0, tl1, tl2, tl3, tl4, tl5, tl6, tl8, tl9, tl10, tl50, tl81, tl100, tl1000, tl9999, tlm1, tlm9, tlm50, tl2147483647]; omega)) 12 (2147483647 : Int32) (1 : Int32) (by first | omega | assumption | (try simp only [tl0, tl1, tl2, tl3, tl4, tl5, tl6, tl8, tl9, tl10, tl50, tl81, tl100, tl1000, tl9999, tlm1, tlm9, tlm50, tl2147483647]; omega)) (by first | omega | assumption | (try simp only [tl0, tl1, tl2, tl3, tl4, tl5, tl6, tl8, tl9, tl10, tl50, tl81, tl100, tl1000, tl9999, tlm1, tlm9, tlm50, tl2147483647]; omega)) (by first | omega | assumption | (try simp only [tl0, tl1, tl2, tl3, tl4, tl5, tl6, tl8, tl9, tl10, tl50, tl81, tl100, tl1000, tl9999, tlm1, tlm9, tlm50, tl2147483647]; omega))) ?_
  intro z hz
  first | exact hz | (simp only [Sx] at *; omega) | (dsimp only at *; omega)
set_option maxRecDepth 4000 in
theorem okL_X3_next_L2 (i3 : Int32) (f9 : Nat → Int32) (i2 : Int32)   (g0 : 2 ≤ i3.toInt ∧ i3.toInt ≤ 9)  : ∀ (n : Nat) (i20 : Int32), 0 ≤ i20.toInt → i3.toInt - i20.toInt < n → 0 < n → Ok (LX3_next_L2 i3 f9 i2 n i20 ) (fun z => True) := by
  intro n
  induction n with
  | zero => intro i20 v0 hm h0; exact absurd h0 (Nat.lt_irrefl 0)
  | succ n ih =>
    intro i20 v0 hm h0
    show Ok (BX3_next_L2 i3 f9 i2 i20 (fun i20 => LX3_next_L2 i3 f9 i2 n i20 ) ) _
    unfold BX3_next_L2
    refine Ok_if ?_ ?_
    · intro h
      have c188 : i3.toInt ≤ i20.toInt := i32le h
      exact Ok_some trivial
    · intro h
      have c189 : i20.toInt < i3.toInt := i32nle h
      refine Ok_bind (ok_X1_at f9 i2 i20) (fun z21 hz21 => ?_)
      refine Ok_if ?_ ?_
      · intro h
        have c190 : z21.toInt ≤ 0 := i32le h
        try (have e191 := inc_iv (x := i20) (by omega))
        exact ih (i20 + (1 : Int32)) (by first | omega | assumption | (try simp only [tl0, tl1, tl2, tl3, tl4, tl5, tl6, tl8, tl9, tl10, tl50, tl81, tl100, tl1000, tl9999, tlm1, tlm9, tlm50, tl2147483647]; omega)) (by first | omega | assumption | (try simp only [tl0, tl1, tl2, tl3, tl4, tl5, tl6, tl8, tl9, tl10, tl50, tl81, tl100, tl1000, tl9999, tlm1, tlm9, tlm50, tl2147483647]; omega)) (by first | omega | assumption | (try simp only [tl0, tl1, tl2, tl3, tl4, tl5, tl6, tl8, tl9, tl10, tl50, tl81, tl100, tl1000, tl9999, tlm1, tlm9, tlm50, tl2147483647]; omega))
      · intro h
        have c192 : 0 < z21.toInt := i32nle h
        exact Ok_some trivial
set_option maxRecDepth 4000 in
theorem ok_X3_next (i3 : Int32) (f9 : Nat → Int32) (i2 : Int32) (h0 : 2 ≤ i3.toInt ∧ i3.toInt ≤ 9) : Ok (fX3_next i3 f9 i2) (fun z => True) := by
  unfold fX3_next
  refine Ok_mono (okL_X3_next_L2 i3 f9 i2 (by first | omega | assumption | (try simp only [tl0, tl1, tl2, tl3, tl4, tl5, tl6, tl8, tl9, tl10, tl50, tl81, tl100, tl1000, tl9999, tlm1, tlm9, tlm50, tl2147483647]; omega)) 12 (0 : Int32) (by first | omega | assumption | (try simp only [tl0, tl1, tl2, tl3, tl4, tl5, tl6, tl8, tl9, tl10, tl50, tl81, tl100, tl1000, tl9999, tlm1, tlm9, tlm50, tl2147483647]; omega)) (by first | omega | assumption | (try simp only [tl0, tl1, tl2, tl3, tl4, tl5, tl6, tl8, tl9, tl10, tl50, tl81, tl100, tl1000, tl9999, tlm1, tlm9, tlm50, tl2147483647]; omega)) (by first | omega | assumption | (try simp only [tl0, tl1, tl2, tl3, tl4, tl5, tl6, tl8, tl9, tl10, tl50, tl81, tl100, tl1000, tl9999, tlm1, tlm9, tlm50, tl2147483647]; omega))) ?_
  intro z hz
  first | exact hz | (simp only [Sx] at *; omega) | (dsimp only at *; omega)
set_option maxRecDepth 4000 in
theorem okL_X3_walk_L16 (i12 : Int32) (f18 : Nat → Int32) (i4 : Int32) (i7 : Int32) (i8 : Int32)  {k1 : Int32 → (Nat → Int32) → Option (Int32 × Int32 × Int32 × Int32 × (Nat → Int32))} {k2 : Int32 → Int32 → (Nat → Int32) → Option (Int32 × Int32 × Int32 × Int32 × (Nat → Int32))} (g0 : 2 ≤ i12.toInt ∧ i12.toInt ≤ 9) (hk1 : ∀ (y1 : Int32) (y2 : (Nat → Int32)), 0 ≤ y1.toInt → y1.toInt ≤ 10 → Ok (k1 y1 y2) (fun z => (0 ≤ z.2.2.2.1.toInt ∧ z.2.2.2.1.toInt ≤ 10) ∧ 0 ≤ z.1.toInt ∧ z.1.toInt ≤ 1)) (hk2 : ∀ (y1 : Int32) (y2 : Int32) (y3 : (Nat → Int32)), 0 ≤ y2.toInt → y2.toInt ≤ 10 → Ok (k2 y1 y2 y3) (fun z => (0 ≤ z.2.2.2.1.toInt ∧ z.2.2.2.1.toInt ≤ 10) ∧ 0 ≤ z.1.toInt ∧ z.1.toInt ≤ 1)) : ∀ (n : Nat) (i42 : Int32) (i43 : Int32) (i44 : Int32) (i45 : Int32) (f46 : Nat → Int32), 0 ≤ i45.toInt → i45.toInt ≤ 10 → 0 ≤ i44.toInt → i12.toInt - i44.toInt + 1 < n → 0 < n → Ok (LX3_walk_L16 i12 f18 i4 i7 i8 n i42 i43 i44 i45 f46 k1 k2) (fun z => (0 ≤ z.2.2.2.1.toInt ∧ z.2.2.2.1.toInt ≤ 10) ∧ 0 ≤ z.1.toInt ∧ z.1.toInt ≤ 1) := by
  intro n
  induction n with
  | zero => intro i42 i43 i44 i45 f46 v0 v1 v2 hm h0; exact absurd h0 (Nat.lt_irrefl 0)
  | succ n ih =>
    intro i42 i43 i44 i45 f46 v0 v1 v2 hm h0
    show Ok (BX3_walk_L16 i12 f18 i4 i7 i8 i42 i43 i44 i45 f46 (fun i42 i43 i44 i45 f46 => LX3_walk_L16 i12 f18 i4 i7 i8 n i42 i43 i44 i45 f46 k1 k2) k1 k2) _
    unfold BX3_walk_L16
    refine Ok_if ?_ ?_
    · intro h
      have c193 : i12.toInt < i44.toInt := i32lt h
      refine Ok_some ?_
      try dsimp only
      try simp only [tl0, tl1, tl2, tl3, tl4, tl5, tl6, tl8, tl9, tl10, tl50, tl81, tl100, tl1000, tl9999, tlm1, tlm9, tlm50, tl2147483647]
      first | trivial | omega | (repeat' first | assumption | omega | apply And.intro)
    · intro h
      have c194 : i44.toInt ≤ i12.toInt := i32nlt h
      refine Ok_if ?_ ?_
      · intro h
        have c195 : i43.toInt = (-1) := i32eq h
        refine Ok_some ?_
        try dsimp only
        try simp only [tl0, tl1, tl2, tl3, tl4, tl5, tl6, tl8, tl9, tl10, tl50, tl81, tl100, tl1000, tl9999, tlm1, tlm9, tlm50, tl2147483647]
        first | trivial | omega | (repeat' first | assumption | omega | apply And.intro)
      · intro h
        have c196 : i43.toInt ≠ (-1) := i32ne h
        refine Ok_bind (ok_X4_add i45 f46 i43 (by first | omega | assumption | (try simp only [tl0, tl1, tl2, tl3, tl4, tl5, tl6, tl8, tl9, tl10, tl50, tl81, tl100, tl1000, tl9999, tlm1, tlm9, tlm50, tl2147483647]; omega))) (fun z47 hz47 => ?_)
        try dsimp only at hz47
        try simp only [tl0, tl1, tl2, tl3, tl4, tl5, tl6, tl8, tl9, tl10, tl50, tl81, tl100, tl1000, tl9999, tlm1, tlm9, tlm50, tl2147483647] at hz47
        refine Ok_if ?_ ?_
        · intro h
          have c197 : i43.toInt = i4.toInt := i32eq h
          exact hk1 z47.1 z47.2 (by first | omega | assumption | (try simp only [tl0, tl1, tl2, tl3, tl4, tl5, tl6, tl8, tl9, tl10, tl50, tl81, tl100, tl1000, tl9999, tlm1, tlm9, tlm50, tl2147483647]; omega)) (by first | omega | assumption | (try simp only [tl0, tl1, tl2, tl3, tl4, tl5, tl6, tl8, tl9, tl10, tl50, tl81, tl100, tl1000, tl9999, tlm1, tlm9, tlm50, tl2147483647]; omega))
        · intro h
          have c198 : i43.toInt ≠ i4.toInt := i32ne h
          refine Ok_bind (ok_X6_holds i42 i43) (fun z48 hz48 => ?_)
          refine Ok_if ?_ ?_
          · intro h
            have c199 : z48.toInt = 0 := i32eq h
            refine Ok_nm (fun i49 wi49 => ?_)
            have qi49 := i32eq wi49
            refine Ok_bind (ok_X3_next i12 f18 i43 (by first | omega | assumption | (try simp only [tl0, tl1, tl2, tl3, tl4, tl5, tl6, tl8, tl9, tl10, tl50, tl81, tl100, tl1000, tl9999, tlm1, tlm9, tlm50, tl2147483647]; omega))) (fun z50 hz50 => ?_)
            try (have e200 := inc_iv (x := i44) (by omega))
            exact ih i49 z50 (i44 + (1 : Int32)) z47.1 z47.2 (by first | omega | assumption | (try simp only [tl0, tl1, tl2, tl3, tl4, tl5, tl6, tl8, tl9, tl10, tl50, tl81, tl100, tl1000, tl9999, tlm1, tlm9, tlm50, tl2147483647]; omega)) (by first | omega | assumption | (try simp only [tl0, tl1, tl2, tl3, tl4, tl5, tl6, tl8, tl9, tl10, tl50, tl81, tl100, tl1000, tl9999, tlm1, tlm9, tlm50, tl2147483647]; omega)) (by first | omega | assumption | (try simp only [tl0, tl1, tl2, tl3, tl4, tl5, tl6, tl8, tl9, tl10, tl50, tl81, tl100, tl1000, tl9999, tlm1, tlm9, tlm50, tl2147483647]; omega)) (by first | omega | assumption | (try simp only [tl0, tl1, tl2, tl3, tl4, tl5, tl6, tl8, tl9, tl10, tl50, tl81, tl100, tl1000, tl9999, tlm1, tlm9, tlm50, tl2147483647]; omega)) (by first | omega | assumption | (try simp only [tl0, tl1, tl2, tl3, tl4, tl5, tl6, tl8, tl9, tl10, tl50, tl81, tl100, tl1000, tl9999, tlm1, tlm9, tlm50, tl2147483647]; omega))
          · intro h
            have c201 : z48.toInt ≠ 0 := i32ne h
            exact hk2 i43 z47.1 z47.2 (by first | omega | assumption | (try simp only [tl0, tl1, tl2, tl3, tl4, tl5, tl6, tl8, tl9, tl10, tl50, tl81, tl100, tl1000, tl9999, tlm1, tlm9, tlm50, tl2147483647]; omega)) (by first | omega | assumption | (try simp only [tl0, tl1, tl2, tl3, tl4, tl5, tl6, tl8, tl9, tl10, tl50, tl81, tl100, tl1000, tl9999, tlm1, tlm9, tlm50, tl2147483647]; omega))
set_option maxRecDepth 4000 in
theorem ok_X3_walk (i7 : Int32) (i8 : Int32) (f11 : Nat → Int32) (i12 : Int32) (f18 : Nat → Int32) (i3 : Int32) (i4 : Int32) (i5 : Int32) (h0 : 2 ≤ i12.toInt ∧ i12.toInt ≤ 9) : Ok (fX3_walk i7 i8 f11 i12 f18 i3 i4 i5) (fun z => (0 ≤ z.2.2.2.1.toInt ∧ z.2.2.2.1.toInt ≤ 10) ∧ 0 ≤ z.1.toInt ∧ z.1.toInt ≤ 1) := by
  unfold fX3_walk
  refine Ok_bind (ok_X4_clear) (fun z19 hz19 => ?_)
  refine okL_X3_walk_L16 i12 f18 i4 i7 i8 (by first | omega | assumption | (try simp only [tl0, tl1, tl2, tl3, tl4, tl5, tl6, tl8, tl9, tl10, tl50, tl81, tl100, tl1000, tl9999, tlm1, tlm9, tlm50, tl2147483647]; omega)) ?_ ?_ 12 (0 : Int32) i3 (0 : Int32) (0 : Int32) f11 (by first | omega | assumption | (try simp only [tl0, tl1, tl2, tl3, tl4, tl5, tl6, tl8, tl9, tl10, tl50, tl81, tl100, tl1000, tl9999, tlm1, tlm9, tlm50, tl2147483647]; omega)) (by first | omega | assumption | (try simp only [tl0, tl1, tl2, tl3, tl4, tl5, tl6, tl8, tl9, tl10, tl50, tl81, tl100, tl1000, tl9999, tlm1, tlm9, tlm50, tl2147483647]; omega)) (by first | omega | assumption | (try simp only [tl0, tl1, tl2, tl3, tl4, tl5, tl6, tl8, tl9, tl10, tl50, tl81, tl100, tl1000, tl9999, tlm1, tlm9, tlm50, tl2147483647]; omega)) (by first | omega | assumption | (try simp only [tl0, tl1, tl2, tl3, tl4, tl5, tl6, tl8, tl9, tl10, tl50, tl81, tl100, tl1000, tl9999, tlm1, tlm9, tlm50, tl2147483647]; omega)) (by first | omega | assumption | (try simp only [tl0, tl1, tl2, tl3, tl4, tl5, tl6, tl8, tl9, tl10, tl50, tl81, tl100, tl1000, tl9999, tlm1, tlm9, tlm50, tl2147483647]; omega))
  · intro i51 f52 x202_0 x203_1
    show Ok ((fX3_leastFlow i51 f52 f18).bind (fun z56 => some ((1 : Int32), if i5 < z56 then i5 else z56, (0 : Int32), i51, f52))) _
    refine Ok_bind (ok_X3_leastFlow i51 f52 f18 (by first | omega | assumption | (try simp only [tl0, tl1, tl2, tl3, tl4, tl5, tl6, tl8, tl9, tl10, tl50, tl81, tl100, tl1000, tl9999, tlm1, tlm9, tlm50, tl2147483647]; omega))) (fun z56 hz56 => ?_)
    refine Ok_some ?_
    try dsimp only
    try simp only [tl0, tl1, tl2, tl3, tl4, tl5, tl6, tl8, tl9, tl10, tl50, tl81, tl100, tl1000, tl9999, tlm1, tlm9, tlm50, tl2147483647]
    first | trivial | omega | (repeat' first | assumption | omega | apply And.intro)
  · intro i53 i54 f55 x204_0 x205_1
    show Ok ((fX4_startAt i54 f55 i53).bind (fun z57 => (fX3_leastFlow z57.1 z57.2 f18).bind (fun z58 => some ((1 : Int32), z58, (1 : Int32), z57.1, z57.2)))) _
    refine Ok_bind (ok_X4_startAt i54 f55 i53 (by first | omega | assumption | (try simp only [tl0, tl1, tl2, tl3, tl4, tl5, tl6, tl8, tl9, tl10, tl50, tl81, tl100, tl1000, tl9999, tlm1, tlm9, tlm50, tl2147483647]; omega))) (fun z57 hz57 => ?_)
    try dsimp only at hz57
    try simp only [tl0, tl1, tl2, tl3, tl4, tl5, tl6, tl8, tl9, tl10, tl50, tl81, tl100, tl1000, tl9999, tlm1, tlm9, tlm50, tl2147483647] at hz57
    refine Ok_bind (ok_X3_leastFlow z57.1 z57.2 f18 (by first | omega | assumption | (try simp only [tl0, tl1, tl2, tl3, tl4, tl5, tl6, tl8, tl9, tl10, tl50, tl81, tl100, tl1000, tl9999, tlm1, tlm9, tlm50, tl2147483647]; omega))) (fun z58 hz58 => ?_)
    refine Ok_some ?_
    try dsimp only
    try simp only [tl0, tl1, tl2, tl3, tl4, tl5, tl6, tl8, tl9, tl10, tl50, tl81, tl100, tl1000, tl9999, tlm1, tlm9, tlm50, tl2147483647]
    first | trivial | omega | (repeat' first | assumption | omega | apply And.intro)
set_option maxRecDepth 4000 in
theorem okL_X3_find_L26 (i9 : Int32) (f15 : Nat → Int32) (i4 : Int32) (i5 : Int32) (i7 : Int32) (f8 : Nat → Int32)  {k1 : Int32 → Option (Int32 × Int32 × Int32 × Int32 × (Nat → Int32))} (g0 : 2 ≤ i9.toInt ∧ i9.toInt ≤ 9) (g1 : 0 ≤ i7.toInt ∧ i7.toInt ≤ 10) (hk1 : ∀ (y1 : Int32), Ok (k1 y1) (fun z => (0 ≤ z.2.2.2.1.toInt ∧ z.2.2.2.1.toInt ≤ 10))) : ∀ (n : Nat) (i34 : Int32), 0 ≤ i34.toInt → i9.toInt - i34.toInt < n → 0 < n → Ok (LX3_find_L26 i9 f15 i4 i5 i7 f8 n i34 k1) (fun z => (0 ≤ z.2.2.2.1.toInt ∧ z.2.2.2.1.toInt ≤ 10)) := by
  intro n
  induction n with
  | zero => intro i34 v0 hm h0; exact absurd h0 (Nat.lt_irrefl 0)
  | succ n ih =>
    intro i34 v0 hm h0
    show Ok (BX3_find_L26 i9 f15 i4 i5 i7 f8 i34 (fun i34 => LX3_find_L26 i9 f15 i4 i5 i7 f8 n i34 k1) k1) _
    unfold BX3_find_L26
    refine Ok_if ?_ ?_
    · intro h
      have c207 : i9.toInt ≤ i34.toInt := i32le h
      refine Ok_some ?_
      try dsimp only
      try simp only [tl0, tl1, tl2, tl3, tl4, tl5, tl6, tl8, tl9, tl10, tl50, tl81, tl100, tl1000, tl9999, tlm1, tlm9, tlm50, tl2147483647]
      first | trivial | omega | (repeat' first | assumption | omega | apply And.intro)
    · intro h
      have c208 : i34.toInt < i9.toInt := i32nle h
      refine Ok_bind (ok_X3_next i9 f15 i34 (by first | omega | assumption | (try simp only [tl0, tl1, tl2, tl3, tl4, tl5, tl6, tl8, tl9, tl10, tl50, tl81, tl100, tl1000, tl9999, tlm1, tlm9, tlm50, tl2147483647]; omega))) (fun z35 hz35 => ?_)
      refine Ok_if ?_ ?_
      · intro h
        have c209 : z35.toInt = (-1) := i32eq h
        try (have e210 := inc_iv (x := i34) (by omega))
        exact ih (i34 + (1 : Int32)) (by first | omega | assumption | (try simp only [tl0, tl1, tl2, tl3, tl4, tl5, tl6, tl8, tl9, tl10, tl50, tl81, tl100, tl1000, tl9999, tlm1, tlm9, tlm50, tl2147483647]; omega)) (by first | omega | assumption | (try simp only [tl0, tl1, tl2, tl3, tl4, tl5, tl6, tl8, tl9, tl10, tl50, tl81, tl100, tl1000, tl9999, tlm1, tlm9, tlm50, tl2147483647]; omega)) (by first | omega | assumption | (try simp only [tl0, tl1, tl2, tl3, tl4, tl5, tl6, tl8, tl9, tl10, tl50, tl81, tl100, tl1000, tl9999, tlm1, tlm9, tlm50, tl2147483647]; omega))
      · intro h
        have c211 : z35.toInt ≠ (-1) := i32ne h
        exact hk1 i34
set_option maxRecDepth 4000 in
theorem ok_X3_find (i4 : Int32) (i5 : Int32) (i7 : Int32) (f8 : Nat → Int32) (i9 : Int32) (i10 : Int32) (i11 : Int32) (f15 : Nat → Int32) (h0 : 0 ≤ i7.toInt ∧ i7.toInt ≤ 10) (h1 : 2 ≤ i9.toInt ∧ i9.toInt ≤ 9) : Ok (fX3_find i4 i5 i7 f8 i9 i10 i11 f15) (fun z => (0 ≤ z.2.2.2.1.toInt ∧ z.2.2.2.1.toInt ≤ 10)) := by
  unfold fX3_find
  refine Ok_bind (ok_X2_valueNow i9 i10 f15 (by first | omega | assumption | (try simp only [tl0, tl1, tl2, tl3, tl4, tl5, tl6, tl8, tl9, tl10, tl50, tl81, tl100, tl1000, tl9999, tlm1, tlm9, tlm50, tl2147483647]; omega))) (fun z16 hz16 => ?_)
  refine Ok_if ?_ ?_
  · intro h
    have c206 : z16.toInt ≤ 0 := i32le h
    refine okL_X3_find_L26 i9 f15 i4 i5 i7 f8 (by first | omega | assumption | (try simp only [tl0, tl1, tl2, tl3, tl4, tl5, tl6, tl8, tl9, tl10, tl50, tl81, tl100, tl1000, tl9999, tlm1, tlm9, tlm50, tl2147483647]; omega)) (by first | omega | assumption | (try simp only [tl0, tl1, tl2, tl3, tl4, tl5, tl6, tl8, tl9, tl10, tl50, tl81, tl100, tl1000, tl9999, tlm1, tlm9, tlm50, tl2147483647]; omega)) ?_ 12 (0 : Int32) (by first | omega | assumption | (try simp only [tl0, tl1, tl2, tl3, tl4, tl5, tl6, tl8, tl9, tl10, tl50, tl81, tl100, tl1000, tl9999, tlm1, tlm9, tlm50, tl2147483647]; omega)) (by first | omega | assumption | (try simp only [tl0, tl1, tl2, tl3, tl4, tl5, tl6, tl8, tl9, tl10, tl50, tl81, tl100, tl1000, tl9999, tlm1, tlm9, tlm50, tl2147483647]; omega)) (by first | omega | assumption | (try simp only [tl0, tl1, tl2, tl3, tl4, tl5, tl6, tl8, tl9, tl10, tl50, tl81, tl100, tl1000, tl9999, tlm1, tlm9, tlm50, tl2147483647]; omega))
    intro i36
    show Ok ((fX3_walk i4 i5 f8 i9 f15 i36 (-1 : Int32) z16).bind (fun z37 => bz z37.1 (some (z37.1, z37.2.1, z37.2.2.1, z37.2.2.2.1, z37.2.2.2.2)))) _
    refine Ok_bind (ok_X3_walk i4 i5 f8 i9 f15 i36 (-1 : Int32) z16 (by first | omega | assumption | (try simp only [tl0, tl1, tl2, tl3, tl4, tl5, tl6, tl8, tl9, tl10, tl50, tl81, tl100, tl1000, tl9999, tlm1, tlm9, tlm50, tl2147483647]; omega))) (fun z37 hz37 => ?_)
    try dsimp only at hz37
    try simp only [tl0, tl1, tl2, tl3, tl4, tl5, tl6, tl8, tl9, tl10, tl50, tl81, tl100, tl1000, tl9999, tlm1, tlm9, tlm50, tl2147483647] at hz37
    refine Ok_bz (by first | exact Or.inl rfl | exact Or.inr rfl | exact bz_of (by omega) (by omega)) ?_
    refine Ok_some ?_
    try dsimp only
    try simp only [tl0, tl1, tl2, tl3, tl4, tl5, tl6, tl8, tl9, tl10, tl50, tl81, tl100, tl1000, tl9999, tlm1, tlm9, tlm50, tl2147483647]
    first | trivial | omega | (repeat' first | assumption | omega | apply And.intro)
  · intro h
    have c212 : 0 < z16.toInt := i32nle h
    refine Ok_bind (ok_X3_walk i4 i5 f8 i9 f15 i10 i11 z16 (by first | omega | assumption | (try simp only [tl0, tl1, tl2, tl3, tl4, tl5, tl6, tl8, tl9, tl10, tl50, tl81, tl100, tl1000, tl9999, tlm1, tlm9, tlm50, tl2147483647]; omega))) (fun z38 hz38 => ?_)
    try dsimp only at hz38
    try simp only [tl0, tl1, tl2, tl3, tl4, tl5, tl6, tl8, tl9, tl10, tl50, tl81, tl100, tl1000, tl9999, tlm1, tlm9, tlm50, tl2147483647] at hz38
    refine Ok_bz (by first | exact Or.inl rfl | exact Or.inr rfl | exact bz_of (by omega) (by omega)) ?_
    refine Ok_some ?_
    try dsimp only
    try simp only [tl0, tl1, tl2, tl3, tl4, tl5, tl6, tl8, tl9, tl10, tl50, tl81, tl100, tl1000, tl9999, tlm1, tlm9, tlm50, tl2147483647]
    first | trivial | omega | (repeat' first | assumption | omega | apply And.intro)
set_option maxRecDepth 4000 in
theorem ok_X3_takeFrom (i4 : Int32) (i7 : Int32) (f8 : Nat → Int32) (f15 : Nat → Int32) (h0 : 0 ≤ i7.toInt ∧ i7.toInt ≤ 10) : Ok (fX3_takeFrom i4 i7 f8 f15) (fun z => True) := by
  unfold fX3_takeFrom
  refine Ok_bind (ok_X2_carryAlong f15 i7 f8 (-i4) (by first | omega | assumption | (try simp only [tl0, tl1, tl2, tl3, tl4, tl5, tl6, tl8, tl9, tl10, tl50, tl81, tl100, tl1000, tl9999, tlm1, tlm9, tlm50, tl2147483647]; omega))) (fun z16 hz16 => ?_)
  exact Ok_some trivial
set_option maxRecDepth 4000 in
theorem ok_X5_init   : Ok (fX5_init ) (fun z => True) := by
  unfold fX5_init
  refine Ok_bind (ok_X4_init) (fun z6 hz6 => ?_)
  exact Ok_some trivial
set_option maxRecDepth 4000 in
theorem okL_X5_look_L32 (i7 : Int32) (f13 : Nat → Int32) (f15 : Nat → Int32) (i61 : Int32) {P : ((Nat → Int32)) → Prop} {k1 : Int32 → Option ((Nat → Int32))} (g0 : 2 ≤ i7.toInt ∧ i7.toInt ≤ 9) (hk1 : ∀ (y1 : Int32), Ok (k1 y1) P) : ∀ (n : Nat) (i85 : Int32) (i86 : Int32), 0 ≤ i86.toInt → i7.toInt - i86.toInt < n → 0 < n → Ok (LX5_look_L32 i7 f13 f15 i61 n i85 i86 k1) P := by
  intro n
  induction n with
  | zero => intro i85 i86 v0 hm h0; exact absurd h0 (Nat.lt_irrefl 0)
  | succ n ih =>
    intro i85 i86 v0 hm h0
    show Ok (BX5_look_L32 i7 f13 f15 i61 i85 i86 (fun i85 i86 => LX5_look_L32 i7 f13 f15 i61 n i85 i86 k1) k1) _
    unfold BX5_look_L32
    refine Ok_if ?_ ?_
    · intro h
      have c217 : i7.toInt ≤ i86.toInt := i32le h
      exact hk1 i85
    · intro h
      have c218 : i86.toInt < i7.toInt := i32nle h
      refine Ok_bind (ok_X1_at f13 i61 i86) (fun z87 hz87 => ?_)
      refine Ok_bind (ok_X1_at f15 i61 i86) (fun z88 hz88 => ?_)
      refine Ok_jn (fun k89 wk89 => ?_)
      refine Ok_if ?_ ?_
      · intro h
        have c219 : z87.toInt ≤ z88.toInt := i32le h
        rw [wk89]
        show Ok ((fun i85 i86 => LX5_look_L32 i7 f13 f15 i61 n i85 i86 k1) i85 (i86 + (1 : Int32))) _
        try (have e220 := inc_iv (x := i86) (by omega))
        exact ih i85 (i86 + (1 : Int32)) (by first | omega | assumption | (try simp only [tl0, tl1, tl2, tl3, tl4, tl5, tl6, tl8, tl9, tl10, tl50, tl81, tl100, tl1000, tl9999, tlm1, tlm9, tlm50, tl2147483647]; omega)) (by first | omega | assumption | (try simp only [tl0, tl1, tl2, tl3, tl4, tl5, tl6, tl8, tl9, tl10, tl50, tl81, tl100, tl1000, tl9999, tlm1, tlm9, tlm50, tl2147483647]; omega)) (by first | omega | assumption | (try simp only [tl0, tl1, tl2, tl3, tl4, tl5, tl6, tl8, tl9, tl10, tl50, tl81, tl100, tl1000, tl9999, tlm1, tlm9, tlm50, tl2147483647]; omega))
      · intro h
        have c221 : z88.toInt < z87.toInt := i32nle h
        refine Ok_nm (fun i91 wi91 => ?_)
        have qi91 := i32eq wi91
        rw [wk89]
        show Ok ((fun i85 i86 => LX5_look_L32 i7 f13 f15 i61 n i85 i86 k1) i91 (i86 + (1 : Int32))) _
        try (have e222 := inc_iv (x := i86) (by omega))
        exact ih i91 (i86 + (1 : Int32)) (by first | omega | assumption | (try simp only [tl0, tl1, tl2, tl3, tl4, tl5, tl6, tl8, tl9, tl10, tl50, tl81, tl100, tl1000, tl9999, tlm1, tlm9, tlm50, tl2147483647]; omega)) (by first | omega | assumption | (try simp only [tl0, tl1, tl2, tl3, tl4, tl5, tl6, tl8, tl9, tl10, tl50, tl81, tl100, tl1000, tl9999, tlm1, tlm9, tlm50, tl2147483647]; omega)) (by first | omega | assumption | (try simp only [tl0, tl1, tl2, tl3, tl4, tl5, tl6, tl8, tl9, tl10, tl50, tl81, tl100, tl1000, tl9999, tlm1, tlm9, tlm50, tl2147483647]; omega))
set_option maxRecDepth 4000 in
theorem okL_X5_look_L10 (i7 : Int32) (f13 : Nat → Int32) (f15 : Nat → Int32)   (g0 : 2 ≤ i7.toInt ∧ i7.toInt ≤ 9)  : ∀ (n : Nat) (i61 : Int32) (f62 : Nat → Int32), 0 ≤ i61.toInt → i7.toInt - i61.toInt < n → 0 < n → Ok (LX5_look_L10 i7 f13 f15 n i61 f62 ) (fun z => True) := by
  intro n
  induction n with
  | zero => intro i61 f62 v0 hm h0; exact absurd h0 (Nat.lt_irrefl 0)
  | succ n ih =>
    intro i61 f62 v0 hm h0
    show Ok (BX5_look_L10 i7 f13 f15 i61 f62 (fun i61 f62 => LX5_look_L10 i7 f13 f15 n i61 f62 ) ) _
    unfold BX5_look_L10
    refine Ok_if ?_ ?_
    · intro h
      have c213 : i7.toInt ≤ i61.toInt := i32le h
      exact Ok_some trivial
    · intro h
      have c214 : i61.toInt < i7.toInt := i32nle h
      refine Ok_if ?_ ?_
      · intro h
        have c215 : 9 ≤ i61.toInt := i32le h
        exact Ok_some trivial
      · intro h
        have c216 : i61.toInt < 9 := i32nle h
        refine okL_X5_look_L32 i7 f13 f15 i61 (by first | omega | assumption | (try simp only [tl0, tl1, tl2, tl3, tl4, tl5, tl6, tl8, tl9, tl10, tl50, tl81, tl100, tl1000, tl9999, tlm1, tlm9, tlm50, tl2147483647]; omega)) ?_ 12 (0 : Int32) (0 : Int32) (by first | omega | assumption | (try simp only [tl0, tl1, tl2, tl3, tl4, tl5, tl6, tl8, tl9, tl10, tl50, tl81, tl100, tl1000, tl9999, tlm1, tlm9, tlm50, tl2147483647]; omega)) (by first | omega | assumption | (try simp only [tl0, tl1, tl2, tl3, tl4, tl5, tl6, tl8, tl9, tl10, tl50, tl81, tl100, tl1000, tl9999, tlm1, tlm9, tlm50, tl2147483647]; omega)) (by first | omega | assumption | (try simp only [tl0, tl1, tl2, tl3, tl4, tl5, tl6, tl8, tl9, tl10, tl50, tl81, tl100, tl1000, tl9999, tlm1, tlm9, tlm50, tl2147483647]; omega))
        intro i93
        show Ok (inB i61 9 ((fun i61 f62 => LX5_look_L10 i7 f13 f15 n i61 f62 ) (i61 + (1 : Int32)) (upd f62 i61.toNatClampNeg i93))) _
        refine Ok_inB (vp_of (by first | omega | assumption | (try simp only [tl0, tl1, tl2, tl3, tl4, tl5, tl6, tl8, tl9, tl10, tl50, tl81, tl100, tl1000, tl9999, tlm1, tlm9, tlm50, tl2147483647]; omega)) (by first | omega | assumption | (try simp only [tl0, tl1, tl2, tl3, tl4, tl5, tl6, tl8, tl9, tl10, tl50, tl81, tl100, tl1000, tl9999, tlm1, tlm9, tlm50, tl2147483647]; omega))) ?_
        try (have e223 := inc_iv (x := i61) (by omega))
        exact ih (i61 + (1 : Int32)) (upd f62 i61.toNatClampNeg i93) (by first | omega | assumption | (try simp only [tl0, tl1, tl2, tl3, tl4, tl5, tl6, tl8, tl9, tl10, tl50, tl81, tl100, tl1000, tl9999, tlm1, tlm9, tlm50, tl2147483647]; omega)) (by first | omega | assumption | (try simp only [tl0, tl1, tl2, tl3, tl4, tl5, tl6, tl8, tl9, tl10, tl50, tl81, tl100, tl1000, tl9999, tlm1, tlm9, tlm50, tl2147483647]; omega)) (by first | omega | assumption | (try simp only [tl0, tl1, tl2, tl3, tl4, tl5, tl6, tl8, tl9, tl10, tl50, tl81, tl100, tl1000, tl9999, tlm1, tlm9, tlm50, tl2147483647]; omega))
set_option maxRecDepth 4000 in
theorem ok_X5_look (f6 : Nat → Int32) (i7 : Int32) (f13 : Nat → Int32) (f15 : Nat → Int32) (h0 : 2 ≤ i7.toInt ∧ i7.toInt ≤ 9) : Ok (fX5_look f6 i7 f13 f15) (fun z => True) := by
  unfold fX5_look
  refine Ok_mono (okL_X5_look_L10 i7 f13 f15 (by first | omega | assumption | (try simp only [tl0, tl1, tl2, tl3, tl4, tl5, tl6, tl8, tl9, tl10, tl50, tl81, tl100, tl1000, tl9999, tlm1, tlm9, tlm50, tl2147483647]; omega)) 12 (0 : Int32) f6 (by first | omega | assumption | (try simp only [tl0, tl1, tl2, tl3, tl4, tl5, tl6, tl8, tl9, tl10, tl50, tl81, tl100, tl1000, tl9999, tlm1, tlm9, tlm50, tl2147483647]; omega)) (by first | omega | assumption | (try simp only [tl0, tl1, tl2, tl3, tl4, tl5, tl6, tl8, tl9, tl10, tl50, tl81, tl100, tl1000, tl9999, tlm1, tlm9, tlm50, tl2147483647]; omega)) (by first | omega | assumption | (try simp only [tl0, tl1, tl2, tl3, tl4, tl5, tl6, tl8, tl9, tl10, tl50, tl81, tl100, tl1000, tl9999, tlm1, tlm9, tlm50, tl2147483647]; omega))) ?_
  intro z hz
  first | exact hz | (simp only [Sx] at *; omega) | (dsimp only at *; omega)
set_option maxRecDepth 4000 in
theorem okL_X5_comingTo_L21 (i7 : Int32) (f8 : Nat → Int32) (i4 : Int32) (i39 : Int32) {P : (Int32) → Prop} {k1 : Int32 → Option (Int32)} (g0 : 0 ≤ i7.toInt ∧ i7.toInt ≤ 9) (hk1 : ∀ (y1 : Int32), Ok (k1 y1) P) : ∀ (n : Nat) (i55 : Int32) (i56 : Int32), 0 ≤ i56.toInt → i7.toInt - i56.toInt < n → 0 < n → Ok (LX5_comingTo_L21 i7 f8 i4 i39 n i55 i56 k1) P := by
  intro n
  induction n with
  | zero => intro i55 i56 v0 hm h0; exact absurd h0 (Nat.lt_irrefl 0)
  | succ n ih =>
    intro i55 i56 v0 hm h0
    show Ok (BX5_comingTo_L21 i7 f8 i4 i39 i55 i56 (fun i55 i56 => LX5_comingTo_L21 i7 f8 i4 i39 n i55 i56 k1) k1) _
    unfold BX5_comingTo_L21
    refine Ok_if ?_ ?_
    · intro h
      have c226 : i7.toInt ≤ i56.toInt := i32le h
      exact hk1 i55
    · intro h
      have c227 : i56.toInt < i7.toInt := i32nle h
      refine Ok_if ?_ ?_
      · intro h
        have c228 : 9 ≤ i56.toInt := i32le h
        exact hk1 i55
      · intro h
        have c229 : i56.toInt < 9 := i32nle h
        refine Ok_jn (fun k57 wk57 => ?_)
        refine Ok_if ?_ ?_
        · intro h
          have c230 : ((i4 >>> (i56 &&& 31)) &&& (1 : Int32)).toInt = 0 := i32eq h
          refine Ok_inB (vp_of (by first | omega | assumption | (try simp only [tl0, tl1, tl2, tl3, tl4, tl5, tl6, tl8, tl9, tl10, tl50, tl81, tl100, tl1000, tl9999, tlm1, tlm9, tlm50, tl2147483647]; omega)) (by first | omega | assumption | (try simp only [tl0, tl1, tl2, tl3, tl4, tl5, tl6, tl8, tl9, tl10, tl50, tl81, tl100, tl1000, tl9999, tlm1, tlm9, tlm50, tl2147483647]; omega))) ?_
          refine Ok_if ?_ ?_
          · intro h
            have c231 : ((f8 i56.toNatClampNeg) &&& i39).toInt = 0 := i32eq h
            rw [wk57]
            show Ok ((fun i55 i56 => LX5_comingTo_L21 i7 f8 i4 i39 n i55 i56 k1) i55 (i56 + (1 : Int32))) _
            try (have e232 := inc_iv (x := i56) (by omega))
            exact ih i55 (i56 + (1 : Int32)) (by first | omega | assumption | (try simp only [tl0, tl1, tl2, tl3, tl4, tl5, tl6, tl8, tl9, tl10, tl50, tl81, tl100, tl1000, tl9999, tlm1, tlm9, tlm50, tl2147483647]; omega)) (by first | omega | assumption | (try simp only [tl0, tl1, tl2, tl3, tl4, tl5, tl6, tl8, tl9, tl10, tl50, tl81, tl100, tl1000, tl9999, tlm1, tlm9, tlm50, tl2147483647]; omega)) (by first | omega | assumption | (try simp only [tl0, tl1, tl2, tl3, tl4, tl5, tl6, tl8, tl9, tl10, tl50, tl81, tl100, tl1000, tl9999, tlm1, tlm9, tlm50, tl2147483647]; omega))
          · intro h
            have c233 : ((f8 i56.toNatClampNeg) &&& i39).toInt ≠ 0 := i32ne h
            refine Ok_nm (fun i59 wi59 => ?_)
            have qi59 := i32eq wi59
            rw [wk57]
            show Ok ((fun i55 i56 => LX5_comingTo_L21 i7 f8 i4 i39 n i55 i56 k1) i59 (i56 + (1 : Int32))) _
            try (have e234 := inc_iv (x := i56) (by omega))
            exact ih i59 (i56 + (1 : Int32)) (by first | omega | assumption | (try simp only [tl0, tl1, tl2, tl3, tl4, tl5, tl6, tl8, tl9, tl10, tl50, tl81, tl100, tl1000, tl9999, tlm1, tlm9, tlm50, tl2147483647]; omega)) (by first | omega | assumption | (try simp only [tl0, tl1, tl2, tl3, tl4, tl5, tl6, tl8, tl9, tl10, tl50, tl81, tl100, tl1000, tl9999, tlm1, tlm9, tlm50, tl2147483647]; omega)) (by first | omega | assumption | (try simp only [tl0, tl1, tl2, tl3, tl4, tl5, tl6, tl8, tl9, tl10, tl50, tl81, tl100, tl1000, tl9999, tlm1, tlm9, tlm50, tl2147483647]; omega))
        · intro h
          have c235 : ((i4 >>> (i56 &&& 31)) &&& (1 : Int32)).toInt ≠ 0 := i32ne h
          rw [wk57]
          show Ok ((fun i55 i56 => LX5_comingTo_L21 i7 f8 i4 i39 n i55 i56 k1) i55 (i56 + (1 : Int32))) _
          try (have e236 := inc_iv (x := i56) (by omega))
          exact ih i55 (i56 + (1 : Int32)) (by first | omega | assumption | (try simp only [tl0, tl1, tl2, tl3, tl4, tl5, tl6, tl8, tl9, tl10, tl50, tl81, tl100, tl1000, tl9999, tlm1, tlm9, tlm50, tl2147483647]; omega)) (by first | omega | assumption | (try simp only [tl0, tl1, tl2, tl3, tl4, tl5, tl6, tl8, tl9, tl10, tl50, tl81, tl100, tl1000, tl9999, tlm1, tlm9, tlm50, tl2147483647]; omega)) (by first | omega | assumption | (try simp only [tl0, tl1, tl2, tl3, tl4, tl5, tl6, tl8, tl9, tl10, tl50, tl81, tl100, tl1000, tl9999, tlm1, tlm9, tlm50, tl2147483647]; omega))
set_option maxRecDepth 4000 in
theorem okL_X5_comingTo_L8 (i7 : Int32) (f8 : Nat → Int32) (i3 : Int32) (i4 : Int32)   (g0 : 0 ≤ i7.toInt ∧ i7.toInt ≤ 9) (g1 : i3.toInt ≤ 9)  : ∀ (n : Nat) (i39 : Int32) (i40 : Int32), 0 ≤ i40.toInt → i3.toInt - i40.toInt < n → 0 < n → Ok (LX5_comingTo_L8 i7 f8 i3 i4 n i39 i40 ) (fun z => True) := by
  intro n
  induction n with
  | zero => intro i39 i40 v0 hm h0; exact absurd h0 (Nat.lt_irrefl 0)
  | succ n ih =>
    intro i39 i40 v0 hm h0
    show Ok (BX5_comingTo_L8 i7 f8 i3 i4 i39 i40 (fun i39 i40 => LX5_comingTo_L8 i7 f8 i3 i4 n i39 i40 ) ) _
    unfold BX5_comingTo_L8
    refine Ok_if ?_ ?_
    · intro h
      have c224 : i3.toInt ≤ i40.toInt := i32le h
      exact Ok_some trivial
    · intro h
      have c225 : i40.toInt < i3.toInt := i32nle h
      refine okL_X5_comingTo_L21 i7 f8 i4 i39 (by first | omega | assumption | (try simp only [tl0, tl1, tl2, tl3, tl4, tl5, tl6, tl8, tl9, tl10, tl50, tl81, tl100, tl1000, tl9999, tlm1, tlm9, tlm50, tl2147483647]; omega)) ?_ 12 i39 (0 : Int32) (by first | omega | assumption | (try simp only [tl0, tl1, tl2, tl3, tl4, tl5, tl6, tl8, tl9, tl10, tl50, tl81, tl100, tl1000, tl9999, tlm1, tlm9, tlm50, tl2147483647]; omega)) (by first | omega | assumption | (try simp only [tl0, tl1, tl2, tl3, tl4, tl5, tl6, tl8, tl9, tl10, tl50, tl81, tl100, tl1000, tl9999, tlm1, tlm9, tlm50, tl2147483647]; omega)) (by first | omega | assumption | (try simp only [tl0, tl1, tl2, tl3, tl4, tl5, tl6, tl8, tl9, tl10, tl50, tl81, tl100, tl1000, tl9999, tlm1, tlm9, tlm50, tl2147483647]; omega))
      intro i61
      show Ok ((fun i39 i40 => LX5_comingTo_L8 i7 f8 i3 i4 n i39 i40 ) i61 (i40 + (1 : Int32))) _
      try (have e237 := inc_iv (x := i40) (by omega))
      exact ih i61 (i40 + (1 : Int32)) (by first | omega | assumption | (try simp only [tl0, tl1, tl2, tl3, tl4, tl5, tl6, tl8, tl9, tl10, tl50, tl81, tl100, tl1000, tl9999, tlm1, tlm9, tlm50, tl2147483647]; omega)) (by first | omega | assumption | (try simp only [tl0, tl1, tl2, tl3, tl4, tl5, tl6, tl8, tl9, tl10, tl50, tl81, tl100, tl1000, tl9999, tlm1, tlm9, tlm50, tl2147483647]; omega)) (by first | omega | assumption | (try simp only [tl0, tl1, tl2, tl3, tl4, tl5, tl6, tl8, tl9, tl10, tl50, tl81, tl100, tl1000, tl9999, tlm1, tlm9, tlm50, tl2147483647]; omega))
set_option maxRecDepth 4000 in
theorem ok_X5_comingTo (i7 : Int32) (f8 : Nat → Int32) (i2 : Int32) (i3 : Int32) (i4 : Int32) (h0 : 0 ≤ i7.toInt ∧ i7.toInt ≤ 9) (h1 : i3.toInt ≤ 9) : Ok (fX5_comingTo i7 f8 i2 i3 i4) (fun z => True) := by
  unfold fX5_comingTo
  refine Ok_nm (fun i9 wi9 => ?_)
  have qi9 := i32eq wi9
  refine Ok_mono (okL_X5_comingTo_L8 i7 f8 i3 i4 (by first | omega | assumption | (try simp only [tl0, tl1, tl2, tl3, tl4, tl5, tl6, tl8, tl9, tl10, tl50, tl81, tl100, tl1000, tl9999, tlm1, tlm9, tlm50, tl2147483647]; omega)) (by first | omega | assumption | (try simp only [tl0, tl1, tl2, tl3, tl4, tl5, tl6, tl8, tl9, tl10, tl50, tl81, tl100, tl1000, tl9999, tlm1, tlm9, tlm50, tl2147483647]; omega)) 12 i9 (0 : Int32) (by first | omega | assumption | (try simp only [tl0, tl1, tl2, tl3, tl4, tl5, tl6, tl8, tl9, tl10, tl50, tl81, tl100, tl1000, tl9999, tlm1, tlm9, tlm50, tl2147483647]; omega)) (by first | omega | assumption | (try simp only [tl0, tl1, tl2, tl3, tl4, tl5, tl6, tl8, tl9, tl10, tl50, tl81, tl100, tl1000, tl9999, tlm1, tlm9, tlm50, tl2147483647]; omega)) (by first | omega | assumption | (try simp only [tl0, tl1, tl2, tl3, tl4, tl5, tl6, tl8, tl9, tl10, tl50, tl81, tl100, tl1000, tl9999, tlm1, tlm9, tlm50, tl2147483647]; omega))) ?_
  intro z hz
  first | exact hz | (simp only [Sx] at *; omega) | (dsimp only at *; omega)
set_option maxRecDepth 4000 in
theorem okL_X5_stepsBetween_L2 (i6 : Int32) (f7 : Nat → Int32) (i2 : Int32) (i3 : Int32)   (g0 : 0 ≤ i6.toInt ∧ i6.toInt ≤ 9)  : ∀ (n : Nat) (i17 : Int32), 0 ≤ i17.toInt → i6.toInt - i17.toInt < n → 0 < n → Ok (LX5_stepsBetween_L2 i6 f7 i2 i3 n i17 ) (fun z => -1 ≤ z.toInt ∧ z.toInt ≤ 8) := by
  intro n
  induction n with
  | zero => intro i17 v0 hm h0; exact absurd h0 (Nat.lt_irrefl 0)
  | succ n ih =>
    intro i17 v0 hm h0
    show Ok (BX5_stepsBetween_L2 i6 f7 i2 i3 i17 (fun i17 => LX5_stepsBetween_L2 i6 f7 i2 i3 n i17 ) ) _
    unfold BX5_stepsBetween_L2
    refine Ok_if ?_ ?_
    · intro h
      have c238 : i6.toInt ≤ i17.toInt := i32le h
      refine Ok_some ?_
      try dsimp only
      try simp only [tl0, tl1, tl2, tl3, tl4, tl5, tl6, tl8, tl9, tl10, tl50, tl81, tl100, tl1000, tl9999, tlm1, tlm9, tlm50, tl2147483647]
      first | trivial | omega | (repeat' first | assumption | omega | apply And.intro)
    · intro h
      have c239 : i17.toInt < i6.toInt := i32nle h
      refine Ok_bind (ok_X5_comingTo i6 f7 i3 i17 (0 : Int32) (by first | omega | assumption | (try simp only [tl0, tl1, tl2, tl3, tl4, tl5, tl6, tl8, tl9, tl10, tl50, tl81, tl100, tl1000, tl9999, tlm1, tlm9, tlm50, tl2147483647]; omega)) (by first | omega | assumption | (try simp only [tl0, tl1, tl2, tl3, tl4, tl5, tl6, tl8, tl9, tl10, tl50, tl81, tl100, tl1000, tl9999, tlm1, tlm9, tlm50, tl2147483647]; omega))) (fun z18 hz18 => ?_)
      refine Ok_bind (ok_X6_holds z18 i2) (fun z19 hz19 => ?_)
      refine Ok_if ?_ ?_
      · intro h
        have c240 : z19.toInt = 0 := i32eq h
        try (have e241 := inc_iv (x := i17) (by omega))
        exact ih (i17 + (1 : Int32)) (by first | omega | assumption | (try simp only [tl0, tl1, tl2, tl3, tl4, tl5, tl6, tl8, tl9, tl10, tl50, tl81, tl100, tl1000, tl9999, tlm1, tlm9, tlm50, tl2147483647]; omega)) (by first | omega | assumption | (try simp only [tl0, tl1, tl2, tl3, tl4, tl5, tl6, tl8, tl9, tl10, tl50, tl81, tl100, tl1000, tl9999, tlm1, tlm9, tlm50, tl2147483647]; omega)) (by first | omega | assumption | (try simp only [tl0, tl1, tl2, tl3, tl4, tl5, tl6, tl8, tl9, tl10, tl50, tl81, tl100, tl1000, tl9999, tlm1, tlm9, tlm50, tl2147483647]; omega))
      · intro h
        have c242 : z19.toInt ≠ 0 := i32ne h
        refine Ok_some ?_
        try dsimp only
        try simp only [tl0, tl1, tl2, tl3, tl4, tl5, tl6, tl8, tl9, tl10, tl50, tl81, tl100, tl1000, tl9999, tlm1, tlm9, tlm50, tl2147483647]
        first | trivial | omega | (repeat' first | assumption | omega | apply And.intro)
set_option maxRecDepth 4000 in
theorem ok_X5_stepsBetween (i6 : Int32) (f7 : Nat → Int32) (i2 : Int32) (i3 : Int32) (h0 : 0 ≤ i6.toInt ∧ i6.toInt ≤ 9) : Ok (fX5_stepsBetween i6 f7 i2 i3) (fun z => -1 ≤ z.toInt ∧ z.toInt ≤ 8) := by
  unfold fX5_stepsBetween
  refine Ok_mono (okL_X5_stepsBetween_L2 i6 f7 i2 i3 (by first | omega | assumption | (try simp only [tl0, tl1, tl2, tl3, tl4, tl5, tl6, tl8, tl9, tl10, tl50, tl81, tl100, tl1000, tl9999, tlm1, tlm9, tlm50, tl2147483647]; omega)) 12 (0 : Int32) (by first | omega | assumption | (try simp only [tl0, tl1, tl2, tl3, tl4, tl5, tl6, tl8, tl9, tl10, tl50, tl81, tl100, tl1000, tl9999, tlm1, tlm9, tlm50, tl2147483647]; omega)) (by first | omega | assumption | (try simp only [tl0, tl1, tl2, tl3, tl4, tl5, tl6, tl8, tl9, tl10, tl50, tl81, tl100, tl1000, tl9999, tlm1, tlm9, tlm50, tl2147483647]; omega)) (by first | omega | assumption | (try simp only [tl0, tl1, tl2, tl3, tl4, tl5, tl6, tl8, tl9, tl10, tl50, tl81, tl100, tl1000, tl9999, tlm1, tlm9, tlm50, tl2147483647]; omega))) ?_
  intro z hz
  first | exact hz | (simp only [Sx] at *; omega) | (dsimp only at *; omega)
set_option maxRecDepth 4000 in
theorem ok_X5_onwardFrom (f6 : Nat → Int32) (i2 : Int32)  : Ok (fX5_onwardFrom f6 i2) (fun z => True) := by
  unfold fX5_onwardFrom
  refine Ok_if ?_ ?_
  · intro h
    have c243 : i2.toInt < 0 := i32lt h
    exact Ok_some trivial
  · intro h
    have c244 : 0 ≤ i2.toInt := i32nlt h
    refine Ok_if ?_ ?_
    · intro h
      have c245 : 9 ≤ i2.toInt := i32le h
      exact Ok_some trivial
    · intro h
      have c246 : i2.toInt < 9 := i32nle h
      refine Ok_inB (vp_of (by first | omega | assumption | (try simp only [tl0, tl1, tl2, tl3, tl4, tl5, tl6, tl8, tl9, tl10, tl50, tl81, tl100, tl1000, tl9999, tlm1, tlm9, tlm50, tl2147483647]; omega)) (by first | omega | assumption | (try simp only [tl0, tl1, tl2, tl3, tl4, tl5, tl6, tl8, tl9, tl10, tl50, tl81, tl100, tl1000, tl9999, tlm1, tlm9, tlm50, tl2147483647]; omega))) ?_
      exact Ok_some trivial
set_option maxRecDepth 4000 in
theorem okL_X5_highest_L7 (i2 : Int32)     : ∀ (n : Nat) (i13 : Int32), i13.toInt + 1 < n → 0 < n → Ok (LX5_highest_L7 i2 n i13 ) (fun z => True) := by
  intro n
  induction n with
  | zero => intro i13  hm h0; exact absurd h0 (Nat.lt_irrefl 0)
  | succ n ih =>
    intro i13  hm h0
    show Ok (BX5_highest_L7 i2 i13 (fun i13 => LX5_highest_L7 i2 n i13 ) ) _
    unfold BX5_highest_L7
    refine Ok_if ?_ ?_
    · intro h
      have c248 : i13.toInt < 0 := i32lt h
      exact Ok_some trivial
    · intro h
      have c249 : 0 ≤ i13.toInt := i32nlt h
      refine Ok_bind (ok_X6_holds i2 i13) (fun z14 hz14 => ?_)
      refine Ok_if ?_ ?_
      · intro h
        have c250 : z14.toInt = 0 := i32eq h
        try (have e251 := decp_iv (x := i13) (by omega))
        exact ih (i13 + (-1 : Int32)) (by first | omega | assumption | (try simp only [tl0, tl1, tl2, tl3, tl4, tl5, tl6, tl8, tl9, tl10, tl50, tl81, tl100, tl1000, tl9999, tlm1, tlm9, tlm50, tl2147483647]; omega)) (by first | omega | assumption | (try simp only [tl0, tl1, tl2, tl3, tl4, tl5, tl6, tl8, tl9, tl10, tl50, tl81, tl100, tl1000, tl9999, tlm1, tlm9, tlm50, tl2147483647]; omega))
      · intro h
        have c252 : z14.toInt ≠ 0 := i32ne h
        exact Ok_some trivial
set_option maxRecDepth 4000 in
theorem ok_X5_highest (i5 : Int32) (i2 : Int32) (h0 : 0 ≤ i5.toInt ∧ i5.toInt ≤ 9) : Ok (fX5_highest i5 i2) (fun z => True) := by
  unfold fX5_highest
  try (have e247 := dec_iv (x := i5) (by omega))
  refine Ok_nm (fun i6 wi6 => ?_)
  have qi6 := i32eq wi6
  refine Ok_mono (okL_X5_highest_L7 i2 12 i6 (by first | omega | assumption | (try simp only [tl0, tl1, tl2, tl3, tl4, tl5, tl6, tl8, tl9, tl10, tl50, tl81, tl100, tl1000, tl9999, tlm1, tlm9, tlm50, tl2147483647]; omega)) (by first | omega | assumption | (try simp only [tl0, tl1, tl2, tl3, tl4, tl5, tl6, tl8, tl9, tl10, tl50, tl81, tl100, tl1000, tl9999, tlm1, tlm9, tlm50, tl2147483647]; omega))) ?_
  intro z hz
  first | exact hz | (simp only [Sx] at *; omega) | (dsimp only at *; omega)
set_option maxRecDepth 4000 in
theorem okL_X5_lowest_L2 (i5 : Int32) (i2 : Int32)   (g0 : 0 ≤ i5.toInt ∧ i5.toInt ≤ 9)  : ∀ (n : Nat) (i12 : Int32), 0 ≤ i12.toInt → i5.toInt - i12.toInt < n → 0 < n → Ok (LX5_lowest_L2 i5 i2 n i12 ) (fun z => True) := by
  intro n
  induction n with
  | zero => intro i12 v0 hm h0; exact absurd h0 (Nat.lt_irrefl 0)
  | succ n ih =>
    intro i12 v0 hm h0
    show Ok (BX5_lowest_L2 i5 i2 i12 (fun i12 => LX5_lowest_L2 i5 i2 n i12 ) ) _
    unfold BX5_lowest_L2
    refine Ok_if ?_ ?_
    · intro h
      have c253 : i5.toInt ≤ i12.toInt := i32le h
      exact Ok_some trivial
    · intro h
      have c254 : i12.toInt < i5.toInt := i32nle h
      refine Ok_bind (ok_X6_holds i2 i12) (fun z13 hz13 => ?_)
      refine Ok_if ?_ ?_
      · intro h
        have c255 : z13.toInt = 0 := i32eq h
        try (have e256 := inc_iv (x := i12) (by omega))
        exact ih (i12 + (1 : Int32)) (by first | omega | assumption | (try simp only [tl0, tl1, tl2, tl3, tl4, tl5, tl6, tl8, tl9, tl10, tl50, tl81, tl100, tl1000, tl9999, tlm1, tlm9, tlm50, tl2147483647]; omega)) (by first | omega | assumption | (try simp only [tl0, tl1, tl2, tl3, tl4, tl5, tl6, tl8, tl9, tl10, tl50, tl81, tl100, tl1000, tl9999, tlm1, tlm9, tlm50, tl2147483647]; omega)) (by first | omega | assumption | (try simp only [tl0, tl1, tl2, tl3, tl4, tl5, tl6, tl8, tl9, tl10, tl50, tl81, tl100, tl1000, tl9999, tlm1, tlm9, tlm50, tl2147483647]; omega))
      · intro h
        have c257 : z13.toInt ≠ 0 := i32ne h
        exact Ok_some trivial
set_option maxRecDepth 4000 in
theorem ok_X5_lowest (i5 : Int32) (i2 : Int32) (h0 : 0 ≤ i5.toInt ∧ i5.toInt ≤ 9) : Ok (fX5_lowest i5 i2) (fun z => True) := by
  unfold fX5_lowest
  refine Ok_mono (okL_X5_lowest_L2 i5 i2 (by first | omega | assumption | (try simp only [tl0, tl1, tl2, tl3, tl4, tl5, tl6, tl8, tl9, tl10, tl50, tl81, tl100, tl1000, tl9999, tlm1, tlm9, tlm50, tl2147483647]; omega)) 12 (0 : Int32) (by first | omega | assumption | (try simp only [tl0, tl1, tl2, tl3, tl4, tl5, tl6, tl8, tl9, tl10, tl50, tl81, tl100, tl1000, tl9999, tlm1, tlm9, tlm50, tl2147483647]; omega)) (by first | omega | assumption | (try simp only [tl0, tl1, tl2, tl3, tl4, tl5, tl6, tl8, tl9, tl10, tl50, tl81, tl100, tl1000, tl9999, tlm1, tlm9, tlm50, tl2147483647]; omega)) (by first | omega | assumption | (try simp only [tl0, tl1, tl2, tl3, tl4, tl5, tl6, tl8, tl9, tl10, tl50, tl81, tl100, tl1000, tl9999, tlm1, tlm9, tlm50, tl2147483647]; omega))) ?_
  intro z hz
  first | exact hz | (simp only [Sx] at *; omega) | (dsimp only at *; omega)
set_option maxRecDepth 4000 in
theorem okL_X5_find_L55 (i11 : Int32) (i13 : Int32) (i3 : Int32) (i59 : Int32) (f65 : Nat → Int32)   (g0 : 2 ≤ i11.toInt ∧ i11.toInt ≤ 9) (g1 : 0 ≤ i59.toInt) (g2 : i59.toInt ≤ 8)  : ∀ (n : Nat) (i60 : Int32) (i61 : Int32) (i62 : Int32) (i63 : Int32) (f64 : Nat → Int32), 0 ≤ i63.toInt → i63.toInt ≤ 10 → 0 ≤ i62.toInt → i11.toInt - i62.toInt < n → 0 < n → Ok (LX5_find_L55 i11 i13 i3 i59 f65 n i60 i61 i62 i63 f64 ) (fun z => (0 ≤ z.1.toInt ∧ z.1.toInt ≤ 10)) := by
  intro n
  induction n with
  | zero => intro i60 i61 i62 i63 f64 v0 v1 v2 hm h0; exact absurd h0 (Nat.lt_irrefl 0)
  | succ n ih =>
    intro i60 i61 i62 i63 f64 v0 v1 v2 hm h0
    show Ok (BX5_find_L55 i11 i13 i3 i59 f65 i60 i61 i62 i63 f64 (fun i60 i61 i62 i63 f64 => LX5_find_L55 i11 i13 i3 i59 f65 n i60 i61 i62 i63 f64 ) ) _
    unfold BX5_find_L55
    refine Ok_if ?_ ?_
    · intro h
      have c260 : i11.toInt ≤ i62.toInt := i32le h
      refine Ok_some ?_
      try dsimp only
      try simp only [tl0, tl1, tl2, tl3, tl4, tl5, tl6, tl8, tl9, tl10, tl50, tl81, tl100, tl1000, tl9999, tlm1, tlm9, tlm50, tl2147483647]
      first | trivial | omega | (repeat' first | assumption | omega | apply And.intro)
    · intro h
      have c261 : i62.toInt < i11.toInt := i32nle h
      refine Ok_if ?_ ?_
      · intro h
        have c262 : i60.toInt = i13.toInt := i32eq h
        refine Ok_some ?_
        try dsimp only
        try simp only [tl0, tl1, tl2, tl3, tl4, tl5, tl6, tl8, tl9, tl10, tl50, tl81, tl100, tl1000, tl9999, tlm1, tlm9, tlm50, tl2147483647]
        first | trivial | omega | (repeat' first | assumption | omega | apply And.intro)
      · intro h
        have c263 : i60.toInt ≠ i13.toInt := i32ne h
        refine Ok_jn (fun k66 wk66 => ?_)
        refine Ok_if ?_ ?_
        · intro h
          have c264 : i3.toInt = 0 := i32eq h
          try (have e265 := sub_iv (x := i59) (y := i62) (by omega) (by omega))
          rw [wk66]
          show Ok ((fX5_onwardFrom f65 i60).bind (fun z69 => (fX5_comingTo i11 f65 i13 (i59 - i62) i61).bind (fun z70 => nm (z69 &&& z70) (fun (i71 : Int32) => jn (fun (i76 : Int32) => nm (i61 ||| ((1 : Int32) <<< (i76 &&& 31))) (fun (i77 : Int32) => (fX4_add i63 f64 i76).bind (fun z78 => (fun i60 i61 i62 i63 f64 => LX5_find_L55 i11 i13 i3 i59 f65 n i60 i61 i62 i63 f64 ) i76 i77 (i62 + (1 : Int32)) z78.1 z78.2))) (fun (k72 : Int32 → Option (Int32 × (Nat → Int32) × (Nat → Int32))) => if i3 = (2 : Int32) then ((fX5_highest i11 i71).bind (fun z75 => k72 z75)) else ((fX5_lowest i11 i71).bind (fun z74 => k72 z74))))))) _
          refine Ok_bind (ok_X5_onwardFrom f65 i60) (fun z69 hz69 => ?_)
          refine Ok_bind (ok_X5_comingTo i11 f65 i13 (i59 - i62) i61 (by first | omega | assumption | (try simp only [tl0, tl1, tl2, tl3, tl4, tl5, tl6, tl8, tl9, tl10, tl50, tl81, tl100, tl1000, tl9999, tlm1, tlm9, tlm50, tl2147483647]; omega)) (by first | omega | assumption | (try simp only [tl0, tl1, tl2, tl3, tl4, tl5, tl6, tl8, tl9, tl10, tl50, tl81, tl100, tl1000, tl9999, tlm1, tlm9, tlm50, tl2147483647]; omega))) (fun z70 hz70 => ?_)
          refine Ok_nm (fun i71 wi71 => ?_)
          have qi71 := i32eq wi71
          refine Ok_jn (fun k72 wk72 => ?_)
          refine Ok_if ?_ ?_
          · intro h
            have c266 : i3.toInt = 2 := i32eq h
            refine Ok_bind (ok_X5_highest i11 i71 (by first | omega | assumption | (try simp only [tl0, tl1, tl2, tl3, tl4, tl5, tl6, tl8, tl9, tl10, tl50, tl81, tl100, tl1000, tl9999, tlm1, tlm9, tlm50, tl2147483647]; omega))) (fun z75 hz75 => ?_)
            rw [wk72]
            show Ok (nm (i61 ||| ((1 : Int32) <<< (z75 &&& 31))) (fun (i77 : Int32) => (fX4_add i63 f64 z75).bind (fun z78 => (fun i60 i61 i62 i63 f64 => LX5_find_L55 i11 i13 i3 i59 f65 n i60 i61 i62 i63 f64 ) z75 i77 (i62 + (1 : Int32)) z78.1 z78.2))) _
            refine Ok_nm (fun i77 wi77 => ?_)
            have qi77 := i32eq wi77
            refine Ok_bind (ok_X4_add i63 f64 z75 (by first | omega | assumption | (try simp only [tl0, tl1, tl2, tl3, tl4, tl5, tl6, tl8, tl9, tl10, tl50, tl81, tl100, tl1000, tl9999, tlm1, tlm9, tlm50, tl2147483647]; omega))) (fun z78 hz78 => ?_)
            try dsimp only at hz78
            try simp only [tl0, tl1, tl2, tl3, tl4, tl5, tl6, tl8, tl9, tl10, tl50, tl81, tl100, tl1000, tl9999, tlm1, tlm9, tlm50, tl2147483647] at hz78
            try (have e267 := inc_iv (x := i62) (by omega))
            exact ih z75 i77 (i62 + (1 : Int32)) z78.1 z78.2 (by first | omega | assumption | (try simp only [tl0, tl1, tl2, tl3, tl4, tl5, tl6, tl8, tl9, tl10, tl50, tl81, tl100, tl1000, tl9999, tlm1, tlm9, tlm50, tl2147483647]; omega)) (by first | omega | assumption | (try simp only [tl0, tl1, tl2, tl3, tl4, tl5, tl6, tl8, tl9, tl10, tl50, tl81, tl100, tl1000, tl9999, tlm1, tlm9, tlm50, tl2147483647]; omega)) (by first | omega | assumption | (try simp only [tl0, tl1, tl2, tl3, tl4, tl5, tl6, tl8, tl9, tl10, tl50, tl81, tl100, tl1000, tl9999, tlm1, tlm9, tlm50, tl2147483647]; omega)) (by first | omega | assumption | (try simp only [tl0, tl1, tl2, tl3, tl4, tl5, tl6, tl8, tl9, tl10, tl50, tl81, tl100, tl1000, tl9999, tlm1, tlm9, tlm50, tl2147483647]; omega)) (by first | omega | assumption | (try simp only [tl0, tl1, tl2, tl3, tl4, tl5, tl6, tl8, tl9, tl10, tl50, tl81, tl100, tl1000, tl9999, tlm1, tlm9, tlm50, tl2147483647]; omega))
          · intro h
            have c268 : i3.toInt ≠ 2 := i32ne h
            refine Ok_bind (ok_X5_lowest i11 i71 (by first | omega | assumption | (try simp only [tl0, tl1, tl2, tl3, tl4, tl5, tl6, tl8, tl9, tl10, tl50, tl81, tl100, tl1000, tl9999, tlm1, tlm9, tlm50, tl2147483647]; omega))) (fun z74 hz74 => ?_)
            rw [wk72]
            show Ok (nm (i61 ||| ((1 : Int32) <<< (z74 &&& 31))) (fun (i77 : Int32) => (fX4_add i63 f64 z74).bind (fun z78 => (fun i60 i61 i62 i63 f64 => LX5_find_L55 i11 i13 i3 i59 f65 n i60 i61 i62 i63 f64 ) z74 i77 (i62 + (1 : Int32)) z78.1 z78.2))) _
            refine Ok_nm (fun i77 wi77 => ?_)
            have qi77 := i32eq wi77
            refine Ok_bind (ok_X4_add i63 f64 z74 (by first | omega | assumption | (try simp only [tl0, tl1, tl2, tl3, tl4, tl5, tl6, tl8, tl9, tl10, tl50, tl81, tl100, tl1000, tl9999, tlm1, tlm9, tlm50, tl2147483647]; omega))) (fun z78 hz78 => ?_)
            try dsimp only at hz78
            try simp only [tl0, tl1, tl2, tl3, tl4, tl5, tl6, tl8, tl9, tl10, tl50, tl81, tl100, tl1000, tl9999, tlm1, tlm9, tlm50, tl2147483647] at hz78
            try (have e269 := inc_iv (x := i62) (by omega))
            exact ih z74 i77 (i62 + (1 : Int32)) z78.1 z78.2 (by first | omega | assumption | (try simp only [tl0, tl1, tl2, tl3, tl4, tl5, tl6, tl8, tl9, tl10, tl50, tl81, tl100, tl1000, tl9999, tlm1, tlm9, tlm50, tl2147483647]; omega)) (by first | omega | assumption | (try simp only [tl0, tl1, tl2, tl3, tl4, tl5, tl6, tl8, tl9, tl10, tl50, tl81, tl100, tl1000, tl9999, tlm1, tlm9, tlm50, tl2147483647]; omega)) (by first | omega | assumption | (try simp only [tl0, tl1, tl2, tl3, tl4, tl5, tl6, tl8, tl9, tl10, tl50, tl81, tl100, tl1000, tl9999, tlm1, tlm9, tlm50, tl2147483647]; omega)) (by first | omega | assumption | (try simp only [tl0, tl1, tl2, tl3, tl4, tl5, tl6, tl8, tl9, tl10, tl50, tl81, tl100, tl1000, tl9999, tlm1, tlm9, tlm50, tl2147483647]; omega)) (by first | omega | assumption | (try simp only [tl0, tl1, tl2, tl3, tl4, tl5, tl6, tl8, tl9, tl10, tl50, tl81, tl100, tl1000, tl9999, tlm1, tlm9, tlm50, tl2147483647]; omega))
        · intro h
          have c270 : i3.toInt ≠ 0 := i32ne h
          rw [wk66]
          show Ok ((fX5_onwardFrom f65 i60).bind (fun z69 => (fX5_comingTo i11 f65 i13 i11 i61).bind (fun z70 => nm (z69 &&& z70) (fun (i71 : Int32) => jn (fun (i76 : Int32) => nm (i61 ||| ((1 : Int32) <<< (i76 &&& 31))) (fun (i77 : Int32) => (fX4_add i63 f64 i76).bind (fun z78 => (fun i60 i61 i62 i63 f64 => LX5_find_L55 i11 i13 i3 i59 f65 n i60 i61 i62 i63 f64 ) i76 i77 (i62 + (1 : Int32)) z78.1 z78.2))) (fun (k72 : Int32 → Option (Int32 × (Nat → Int32) × (Nat → Int32))) => if i3 = (2 : Int32) then ((fX5_highest i11 i71).bind (fun z75 => k72 z75)) else ((fX5_lowest i11 i71).bind (fun z74 => k72 z74))))))) _
          refine Ok_bind (ok_X5_onwardFrom f65 i60) (fun z69 hz69 => ?_)
          refine Ok_bind (ok_X5_comingTo i11 f65 i13 i11 i61 (by first | omega | assumption | (try simp only [tl0, tl1, tl2, tl3, tl4, tl5, tl6, tl8, tl9, tl10, tl50, tl81, tl100, tl1000, tl9999, tlm1, tlm9, tlm50, tl2147483647]; omega)) (by first | omega | assumption | (try simp only [tl0, tl1, tl2, tl3, tl4, tl5, tl6, tl8, tl9, tl10, tl50, tl81, tl100, tl1000, tl9999, tlm1, tlm9, tlm50, tl2147483647]; omega))) (fun z70 hz70 => ?_)
          refine Ok_nm (fun i71 wi71 => ?_)
          have qi71 := i32eq wi71
          refine Ok_jn (fun k72 wk72 => ?_)
          refine Ok_if ?_ ?_
          · intro h
            have c271 : i3.toInt = 2 := i32eq h
            refine Ok_bind (ok_X5_highest i11 i71 (by first | omega | assumption | (try simp only [tl0, tl1, tl2, tl3, tl4, tl5, tl6, tl8, tl9, tl10, tl50, tl81, tl100, tl1000, tl9999, tlm1, tlm9, tlm50, tl2147483647]; omega))) (fun z75 hz75 => ?_)
            rw [wk72]
            show Ok (nm (i61 ||| ((1 : Int32) <<< (z75 &&& 31))) (fun (i77 : Int32) => (fX4_add i63 f64 z75).bind (fun z78 => (fun i60 i61 i62 i63 f64 => LX5_find_L55 i11 i13 i3 i59 f65 n i60 i61 i62 i63 f64 ) z75 i77 (i62 + (1 : Int32)) z78.1 z78.2))) _
            refine Ok_nm (fun i77 wi77 => ?_)
            have qi77 := i32eq wi77
            refine Ok_bind (ok_X4_add i63 f64 z75 (by first | omega | assumption | (try simp only [tl0, tl1, tl2, tl3, tl4, tl5, tl6, tl8, tl9, tl10, tl50, tl81, tl100, tl1000, tl9999, tlm1, tlm9, tlm50, tl2147483647]; omega))) (fun z78 hz78 => ?_)
            try dsimp only at hz78
            try simp only [tl0, tl1, tl2, tl3, tl4, tl5, tl6, tl8, tl9, tl10, tl50, tl81, tl100, tl1000, tl9999, tlm1, tlm9, tlm50, tl2147483647] at hz78
            try (have e272 := inc_iv (x := i62) (by omega))
            exact ih z75 i77 (i62 + (1 : Int32)) z78.1 z78.2 (by first | omega | assumption | (try simp only [tl0, tl1, tl2, tl3, tl4, tl5, tl6, tl8, tl9, tl10, tl50, tl81, tl100, tl1000, tl9999, tlm1, tlm9, tlm50, tl2147483647]; omega)) (by first | omega | assumption | (try simp only [tl0, tl1, tl2, tl3, tl4, tl5, tl6, tl8, tl9, tl10, tl50, tl81, tl100, tl1000, tl9999, tlm1, tlm9, tlm50, tl2147483647]; omega)) (by first | omega | assumption | (try simp only [tl0, tl1, tl2, tl3, tl4, tl5, tl6, tl8, tl9, tl10, tl50, tl81, tl100, tl1000, tl9999, tlm1, tlm9, tlm50, tl2147483647]; omega)) (by first | omega | assumption | (try simp only [tl0, tl1, tl2, tl3, tl4, tl5, tl6, tl8, tl9, tl10, tl50, tl81, tl100, tl1000, tl9999, tlm1, tlm9, tlm50, tl2147483647]; omega)) (by first | omega | assumption | (try simp only [tl0, tl1, tl2, tl3, tl4, tl5, tl6, tl8, tl9, tl10, tl50, tl81, tl100, tl1000, tl9999, tlm1, tlm9, tlm50, tl2147483647]; omega))
          · intro h
            have c273 : i3.toInt ≠ 2 := i32ne h
            refine Ok_bind (ok_X5_lowest i11 i71 (by first | omega | assumption | (try simp only [tl0, tl1, tl2, tl3, tl4, tl5, tl6, tl8, tl9, tl10, tl50, tl81, tl100, tl1000, tl9999, tlm1, tlm9, tlm50, tl2147483647]; omega))) (fun z74 hz74 => ?_)
            rw [wk72]
            show Ok (nm (i61 ||| ((1 : Int32) <<< (z74 &&& 31))) (fun (i77 : Int32) => (fX4_add i63 f64 z74).bind (fun z78 => (fun i60 i61 i62 i63 f64 => LX5_find_L55 i11 i13 i3 i59 f65 n i60 i61 i62 i63 f64 ) z74 i77 (i62 + (1 : Int32)) z78.1 z78.2))) _
            refine Ok_nm (fun i77 wi77 => ?_)
            have qi77 := i32eq wi77
            refine Ok_bind (ok_X4_add i63 f64 z74 (by first | omega | assumption | (try simp only [tl0, tl1, tl2, tl3, tl4, tl5, tl6, tl8, tl9, tl10, tl50, tl81, tl100, tl1000, tl9999, tlm1, tlm9, tlm50, tl2147483647]; omega))) (fun z78 hz78 => ?_)
            try dsimp only at hz78
            try simp only [tl0, tl1, tl2, tl3, tl4, tl5, tl6, tl8, tl9, tl10, tl50, tl81, tl100, tl1000, tl9999, tlm1, tlm9, tlm50, tl2147483647] at hz78
            try (have e274 := inc_iv (x := i62) (by omega))
            exact ih z74 i77 (i62 + (1 : Int32)) z78.1 z78.2 (by first | omega | assumption | (try simp only [tl0, tl1, tl2, tl3, tl4, tl5, tl6, tl8, tl9, tl10, tl50, tl81, tl100, tl1000, tl9999, tlm1, tlm9, tlm50, tl2147483647]; omega)) (by first | omega | assumption | (try simp only [tl0, tl1, tl2, tl3, tl4, tl5, tl6, tl8, tl9, tl10, tl50, tl81, tl100, tl1000, tl9999, tlm1, tlm9, tlm50, tl2147483647]; omega)) (by first | omega | assumption | (try simp only [tl0, tl1, tl2, tl3, tl4, tl5, tl6, tl8, tl9, tl10, tl50, tl81, tl100, tl1000, tl9999, tlm1, tlm9, tlm50, tl2147483647]; omega)) (by first | omega | assumption | (try simp only [tl0, tl1, tl2, tl3, tl4, tl5, tl6, tl8, tl9, tl10, tl50, tl81, tl100, tl1000, tl9999, tlm1, tlm9, tlm50, tl2147483647]; omega)) (by first | omega | assumption | (try simp only [tl0, tl1, tl2, tl3, tl4, tl5, tl6, tl8, tl9, tl10, tl50, tl81, tl100, tl1000, tl9999, tlm1, tlm9, tlm50, tl2147483647]; omega))
set_option maxRecDepth 4000 in
theorem ok_X5_find (f9 : Nat → Int32) (f10 : Nat → Int32) (i11 : Int32) (i12 : Int32) (i13 : Int32) (f17 : Nat → Int32) (f19 : Nat → Int32) (i3 : Int32) (h0 : 2 ≤ i11.toInt ∧ i11.toInt ≤ 9) : Ok (fX5_find f9 f10 i11 i12 i13 f17 f19 i3) (fun z => (0 ≤ z.1.toInt ∧ z.1.toInt ≤ 10)) := by
  unfold fX5_find
  refine Ok_bind (ok_X4_clear) (fun z20 hz20 => ?_)
  refine Ok_bind (ok_X5_look f10 i11 f17 f19 (by first | omega | assumption | (try simp only [tl0, tl1, tl2, tl3, tl4, tl5, tl6, tl8, tl9, tl10, tl50, tl81, tl100, tl1000, tl9999, tlm1, tlm9, tlm50, tl2147483647]; omega))) (fun z21 hz21 => ?_)
  refine Ok_bind (ok_X5_stepsBetween i11 z21 i12 i13 (by first | omega | assumption | (try simp only [tl0, tl1, tl2, tl3, tl4, tl5, tl6, tl8, tl9, tl10, tl50, tl81, tl100, tl1000, tl9999, tlm1, tlm9, tlm50, tl2147483647]; omega))) (fun z22 hz22 => ?_)
  try dsimp only at hz22
  try simp only [tl0, tl1, tl2, tl3, tl4, tl5, tl6, tl8, tl9, tl10, tl50, tl81, tl100, tl1000, tl9999, tlm1, tlm9, tlm50, tl2147483647] at hz22
  refine Ok_if ?_ ?_
  · intro h
    have c258 : z22.toInt = (-1) := i32eq h
    refine Ok_some ?_
    try dsimp only
    try simp only [tl0, tl1, tl2, tl3, tl4, tl5, tl6, tl8, tl9, tl10, tl50, tl81, tl100, tl1000, tl9999, tlm1, tlm9, tlm50, tl2147483647]
    first | trivial | omega | (repeat' first | assumption | omega | apply And.intro)
  · intro h
    have c259 : z22.toInt ≠ (-1) := i32ne h
    refine Ok_nm (fun i23 wi23 => ?_)
    have qi23 := i32eq wi23
    refine Ok_bind (ok_X4_add (0 : Int32) f9 i12 (by first | omega | assumption | (try simp only [tl0, tl1, tl2, tl3, tl4, tl5, tl6, tl8, tl9, tl10, tl50, tl81, tl100, tl1000, tl9999, tlm1, tlm9, tlm50, tl2147483647]; omega))) (fun z24 hz24 => ?_)
    try dsimp only at hz24
    try simp only [tl0, tl1, tl2, tl3, tl4, tl5, tl6, tl8, tl9, tl10, tl50, tl81, tl100, tl1000, tl9999, tlm1, tlm9, tlm50, tl2147483647] at hz24
    refine Ok_mono (okL_X5_find_L55 i11 i13 i3 z22 z21 (by first | omega | assumption | (try simp only [tl0, tl1, tl2, tl3, tl4, tl5, tl6, tl8, tl9, tl10, tl50, tl81, tl100, tl1000, tl9999, tlm1, tlm9, tlm50, tl2147483647]; omega)) (by first | omega | assumption | (try simp only [tl0, tl1, tl2, tl3, tl4, tl5, tl6, tl8, tl9, tl10, tl50, tl81, tl100, tl1000, tl9999, tlm1, tlm9, tlm50, tl2147483647]; omega)) (by first | omega | assumption | (try simp only [tl0, tl1, tl2, tl3, tl4, tl5, tl6, tl8, tl9, tl10, tl50, tl81, tl100, tl1000, tl9999, tlm1, tlm9, tlm50, tl2147483647]; omega)) 12 i12 i23 (1 : Int32) z24.1 z24.2 (by first | omega | assumption | (try simp only [tl0, tl1, tl2, tl3, tl4, tl5, tl6, tl8, tl9, tl10, tl50, tl81, tl100, tl1000, tl9999, tlm1, tlm9, tlm50, tl2147483647]; omega)) (by first | omega | assumption | (try simp only [tl0, tl1, tl2, tl3, tl4, tl5, tl6, tl8, tl9, tl10, tl50, tl81, tl100, tl1000, tl9999, tlm1, tlm9, tlm50, tl2147483647]; omega)) (by first | omega | assumption | (try simp only [tl0, tl1, tl2, tl3, tl4, tl5, tl6, tl8, tl9, tl10, tl50, tl81, tl100, tl1000, tl9999, tlm1, tlm9, tlm50, tl2147483647]; omega)) (by first | omega | assumption | (try simp only [tl0, tl1, tl2, tl3, tl4, tl5, tl6, tl8, tl9, tl10, tl50, tl81, tl100, tl1000, tl9999, tlm1, tlm9, tlm50, tl2147483647]; omega)) (by first | omega | assumption | (try simp only [tl0, tl1, tl2, tl3, tl4, tl5, tl6, tl8, tl9, tl10, tl50, tl81, tl100, tl1000, tl9999, tlm1, tlm9, tlm50, tl2147483647]; omega))) ?_
    intro z hz
    first | exact hz | (simp only [Sx] at *; omega) | (dsimp only at *; omega)
set_option maxRecDepth 4000 in
theorem okL_X5_leastLeft_L5 (i7 : Int32) (f8 : Nat → Int32) (f15 : Nat → Int32) (f17 : Nat → Int32)   (g0 : 0 ≤ i7.toInt ∧ i7.toInt ≤ 10)  : ∀ (n : Nat) (i39 : Int32) (i40 : Int32), 0 ≤ i40.toInt → i7.toInt - i40.toInt < n → 0 < n → Ok (LX5_leastLeft_L5 i7 f8 f15 f17 n i39 i40 ) (fun z => True) := by
  intro n
  induction n with
  | zero => intro i39 i40 v0 hm h0; exact absurd h0 (Nat.lt_irrefl 0)
  | succ n ih =>
    intro i39 i40 v0 hm h0
    show Ok (BX5_leastLeft_L5 i7 f8 f15 f17 i39 i40 (fun i39 i40 => LX5_leastLeft_L5 i7 f8 f15 f17 n i39 i40 ) ) _
    unfold BX5_leastLeft_L5
    refine Ok_if ?_ ?_
    · intro h
      have c275 : i7.toInt ≤ i40.toInt := i32le h
      exact Ok_some trivial
    · intro h
      have c276 : i40.toInt < i7.toInt := i32nle h
      try (have e277 := dec_iv (x := i40) (by omega))
      refine Ok_bind (ok_X4_at f8 (i40 - (1 : Int32))) (fun z41 hz41 => ?_)
      refine Ok_bind (ok_X4_at f8 i40) (fun z42 hz42 => ?_)
      refine Ok_bind (ok_X2_leftOf f15 f17 z41 z42) (fun z43 hz43 => ?_)
      refine Ok_nm (fun i44 wi44 => ?_)
      have qi44 := i32eq wi44
      try (have e278 := inc_iv (x := i40) (by omega))
      exact ih i44 (i40 + (1 : Int32)) (by first | omega | assumption | (try simp only [tl0, tl1, tl2, tl3, tl4, tl5, tl6, tl8, tl9, tl10, tl50, tl81, tl100, tl1000, tl9999, tlm1, tlm9, tlm50, tl2147483647]; omega)) (by first | omega | assumption | (try simp only [tl0, tl1, tl2, tl3, tl4, tl5, tl6, tl8, tl9, tl10, tl50, tl81, tl100, tl1000, tl9999, tlm1, tlm9, tlm50, tl2147483647]; omega)) (by first | omega | assumption | (try simp only [tl0, tl1, tl2, tl3, tl4, tl5, tl6, tl8, tl9, tl10, tl50, tl81, tl100, tl1000, tl9999, tlm1, tlm9, tlm50, tl2147483647]; omega))
set_option maxRecDepth 4000 in
theorem ok_X5_leastLeft (i7 : Int32) (f8 : Nat → Int32) (f15 : Nat → Int32) (f17 : Nat → Int32) (h0 : 0 ≤ i7.toInt ∧ i7.toInt ≤ 10) : Ok (fX5_leastLeft i7 f8 f15 f17) (fun z => True) := by
  unfold fX5_leastLeft
  refine Ok_mono (okL_X5_leastLeft_L5 i7 f8 f15 f17 (by first | omega | assumption | (try simp only [tl0, tl1, tl2, tl3, tl4, tl5, tl6, tl8, tl9, tl10, tl50, tl81, tl100, tl1000, tl9999, tlm1, tlm9, tlm50, tl2147483647]; omega)) 12 (2147483647 : Int32) (1 : Int32) (by first | omega | assumption | (try simp only [tl0, tl1, tl2, tl3, tl4, tl5, tl6, tl8, tl9, tl10, tl50, tl81, tl100, tl1000, tl9999, tlm1, tlm9, tlm50, tl2147483647]; omega)) (by first | omega | assumption | (try simp only [tl0, tl1, tl2, tl3, tl4, tl5, tl6, tl8, tl9, tl10, tl50, tl81, tl100, tl1000, tl9999, tlm1, tlm9, tlm50, tl2147483647]; omega)) (by first | omega | assumption | (try simp only [tl0, tl1, tl2, tl3, tl4, tl5, tl6, tl8, tl9, tl10, tl50, tl81, tl100, tl1000, tl9999, tlm1, tlm9, tlm50, tl2147483647]; omega))) ?_
  intro z hz
  first | exact hz | (simp only [Sx] at *; omega) | (dsimp only at *; omega)
set_option maxRecDepth 4000 in
theorem okL_X5_fillTimes_L3 (i12 : Int32) (i13 : Int32) (i14 : Int32) (f18 : Nat → Int32) (i3 : Int32) (i4 : Int32)   (g0 : 2 ≤ i12.toInt ∧ i12.toInt ≤ 9) (g1 : i4.toInt ≤ 1000)  : ∀ (n : Nat) (i43 : Int32) (i44 : Int32) (i45 : Int32) (f46 : Nat → Int32) (f47 : Nat → Int32) (f48 : Nat → Int32), 0 ≤ i44.toInt → i44.toInt ≤ 9 → 0 ≤ i45.toInt → i45.toInt ≤ 10 → 0 ≤ i43.toInt → i4.toInt - i43.toInt < n → 0 < n → Ok (LX5_fillTimes_L3 i12 i13 i14 f18 i3 i4 n i43 i44 i45 f46 f47 f48 ) (fun z => (0 ≤ z.2.1.toInt ∧ z.2.1.toInt ≤ 9) ∧ (0 ≤ z.2.2.1.toInt ∧ z.2.2.1.toInt ≤ 10)) := by
  intro n
  induction n with
  | zero => intro i43 i44 i45 f46 f47 f48 v0 v1 v2 v3 v4 hm h0; exact absurd h0 (Nat.lt_irrefl 0)
  | succ n ih =>
    intro i43 i44 i45 f46 f47 f48 v0 v1 v2 v3 v4 hm h0
    show Ok (BX5_fillTimes_L3 i12 i13 i14 f18 i3 i4 i43 i44 i45 f46 f47 f48 (fun i43 i44 i45 f46 f47 f48 => LX5_fillTimes_L3 i12 i13 i14 f18 i3 i4 n i43 i44 i45 f46 f47 f48 ) ) _
    unfold BX5_fillTimes_L3
    refine Ok_if ?_ ?_
    · intro h
      have c279 : i4.toInt ≤ i43.toInt := i32le h
      refine Ok_some ?_
      try dsimp only
      try simp only [tl0, tl1, tl2, tl3, tl4, tl5, tl6, tl8, tl9, tl10, tl50, tl81, tl100, tl1000, tl9999, tlm1, tlm9, tlm50, tl2147483647]
      first | trivial | omega | (repeat' first | assumption | omega | apply And.intro)
    · intro h
      have c280 : i43.toInt < i4.toInt := i32nle h
      refine Ok_bind (ok_X5_find f46 f47 i12 i13 i14 f18 f48 i3 (by first | omega | assumption | (try simp only [tl0, tl1, tl2, tl3, tl4, tl5, tl6, tl8, tl9, tl10, tl50, tl81, tl100, tl1000, tl9999, tlm1, tlm9, tlm50, tl2147483647]; omega))) (fun z49 hz49 => ?_)
      try dsimp only at hz49
      try simp only [tl0, tl1, tl2, tl3, tl4, tl5, tl6, tl8, tl9, tl10, tl50, tl81, tl100, tl1000, tl9999, tlm1, tlm9, tlm50, tl2147483647] at hz49
      refine Ok_if ?_ ?_
      · intro h
        have c281 : z49.1.toInt = 0 := i32eq h
        refine Ok_some ?_
        try dsimp only
        try simp only [tl0, tl1, tl2, tl3, tl4, tl5, tl6, tl8, tl9, tl10, tl50, tl81, tl100, tl1000, tl9999, tlm1, tlm9, tlm50, tl2147483647]
        first | trivial | omega | (repeat' first | assumption | omega | apply And.intro)
      · intro h
        have c282 : z49.1.toInt ≠ 0 := i32ne h
        refine Ok_bind (ok_X5_leastLeft z49.1 z49.2.1 f18 f48 (by first | omega | assumption | (try simp only [tl0, tl1, tl2, tl3, tl4, tl5, tl6, tl8, tl9, tl10, tl50, tl81, tl100, tl1000, tl9999, tlm1, tlm9, tlm50, tl2147483647]; omega))) (fun z50 hz50 => ?_)
        refine Ok_bind (ok_X2_carryAlong f48 z49.1 z49.2.1 z50 (by first | omega | assumption | (try simp only [tl0, tl1, tl2, tl3, tl4, tl5, tl6, tl8, tl9, tl10, tl50, tl81, tl100, tl1000, tl9999, tlm1, tlm9, tlm50, tl2147483647]; omega))) (fun z51 hz51 => ?_)
        try (have e283 := inc_iv (x := i43) (by omega))
        exact ih (i43 + (1 : Int32)) i12 z49.1 z49.2.1 z49.2.2 z51 (by first | omega | assumption | (try simp only [tl0, tl1, tl2, tl3, tl4, tl5, tl6, tl8, tl9, tl10, tl50, tl81, tl100, tl1000, tl9999, tlm1, tlm9, tlm50, tl2147483647]; omega)) (by first | omega | assumption | (try simp only [tl0, tl1, tl2, tl3, tl4, tl5, tl6, tl8, tl9, tl10, tl50, tl81, tl100, tl1000, tl9999, tlm1, tlm9, tlm50, tl2147483647]; omega)) (by first | omega | assumption | (try simp only [tl0, tl1, tl2, tl3, tl4, tl5, tl6, tl8, tl9, tl10, tl50, tl81, tl100, tl1000, tl9999, tlm1, tlm9, tlm50, tl2147483647]; omega)) (by first | omega | assumption | (try simp only [tl0, tl1, tl2, tl3, tl4, tl5, tl6, tl8, tl9, tl10, tl50, tl81, tl100, tl1000, tl9999, tlm1, tlm9, tlm50, tl2147483647]; omega)) (by first | omega | assumption | (try simp only [tl0, tl1, tl2, tl3, tl4, tl5, tl6, tl8, tl9, tl10, tl50, tl81, tl100, tl1000, tl9999, tlm1, tlm9, tlm50, tl2147483647]; omega)) (by first | omega | assumption | (try simp only [tl0, tl1, tl2, tl3, tl4, tl5, tl6, tl8, tl9, tl10, tl50, tl81, tl100, tl1000, tl9999, tlm1, tlm9, tlm50, tl2147483647]; omega)) (by first | omega | assumption | (try simp only [tl0, tl1, tl2, tl3, tl4, tl5, tl6, tl8, tl9, tl10, tl50, tl81, tl100, tl1000, tl9999, tlm1, tlm9, tlm50, tl2147483647]; omega))
set_option maxRecDepth 4000 in
theorem ok_X5_fillTimes (i7 : Int32) (i9 : Int32) (f10 : Nat → Int32) (f11 : Nat → Int32) (i12 : Int32) (i13 : Int32) (i14 : Int32) (f18 : Nat → Int32) (f20 : Nat → Int32) (i3 : Int32) (i4 : Int32) (h0 : 0 ≤ i7.toInt ∧ i7.toInt ≤ 9) (h1 : 0 ≤ i9.toInt ∧ i9.toInt ≤ 10) (h2 : 2 ≤ i12.toInt ∧ i12.toInt ≤ 9) (h3 : i4.toInt ≤ 1000) : Ok (fX5_fillTimes i7 i9 f10 f11 i12 i13 i14 f18 f20 i3 i4) (fun z => (0 ≤ z.2.1.toInt ∧ z.2.1.toInt ≤ 9) ∧ (0 ≤ z.2.2.1.toInt ∧ z.2.2.1.toInt ≤ 10)) := by
  unfold fX5_fillTimes
  refine Ok_mono (okL_X5_fillTimes_L3 i12 i13 i14 f18 i3 i4 (by first | omega | assumption | (try simp only [tl0, tl1, tl2, tl3, tl4, tl5, tl6, tl8, tl9, tl10, tl50, tl81, tl100, tl1000, tl9999, tlm1, tlm9, tlm50, tl2147483647]; omega)) (by first | omega | assumption | (try simp only [tl0, tl1, tl2, tl3, tl4, tl5, tl6, tl8, tl9, tl10, tl50, tl81, tl100, tl1000, tl9999, tlm1, tlm9, tlm50, tl2147483647]; omega)) 1002 (0 : Int32) i7 i9 f10 f11 f20 (by first | omega | assumption | (try simp only [tl0, tl1, tl2, tl3, tl4, tl5, tl6, tl8, tl9, tl10, tl50, tl81, tl100, tl1000, tl9999, tlm1, tlm9, tlm50, tl2147483647]; omega)) (by first | omega | assumption | (try simp only [tl0, tl1, tl2, tl3, tl4, tl5, tl6, tl8, tl9, tl10, tl50, tl81, tl100, tl1000, tl9999, tlm1, tlm9, tlm50, tl2147483647]; omega)) (by first | omega | assumption | (try simp only [tl0, tl1, tl2, tl3, tl4, tl5, tl6, tl8, tl9, tl10, tl50, tl81, tl100, tl1000, tl9999, tlm1, tlm9, tlm50, tl2147483647]; omega)) (by first | omega | assumption | (try simp only [tl0, tl1, tl2, tl3, tl4, tl5, tl6, tl8, tl9, tl10, tl50, tl81, tl100, tl1000, tl9999, tlm1, tlm9, tlm50, tl2147483647]; omega)) (by first | omega | assumption | (try simp only [tl0, tl1, tl2, tl3, tl4, tl5, tl6, tl8, tl9, tl10, tl50, tl81, tl100, tl1000, tl9999, tlm1, tlm9, tlm50, tl2147483647]; omega)) (by first | omega | assumption | (try simp only [tl0, tl1, tl2, tl3, tl4, tl5, tl6, tl8, tl9, tl10, tl50, tl81, tl100, tl1000, tl9999, tlm1, tlm9, tlm50, tl2147483647]; omega)) (by first | omega | assumption | (try simp only [tl0, tl1, tl2, tl3, tl4, tl5, tl6, tl8, tl9, tl10, tl50, tl81, tl100, tl1000, tl9999, tlm1, tlm9, tlm50, tl2147483647]; omega))) ?_
  intro z hz
  first | exact hz | (simp only [Sx] at *; omega) | (dsimp only at *; omega)
set_option maxRecDepth 4000 in
theorem ok_X5_layerOf (f7 : Nat → Int32) (i8 : Int32) (i9 : Int32) (f14 : Nat → Int32) (f16 : Nat → Int32) (i3 : Int32) (h0 : 2 ≤ i8.toInt ∧ i8.toInt ≤ 9) : Ok (fX5_layerOf f7 i8 i9 f14 f16 i3) (fun z => True) := by
  unfold fX5_layerOf
  refine Ok_bind (ok_X5_look f7 i8 f14 f16 (by first | omega | assumption | (try simp only [tl0, tl1, tl2, tl3, tl4, tl5, tl6, tl8, tl9, tl10, tl50, tl81, tl100, tl1000, tl9999, tlm1, tlm9, tlm50, tl2147483647]; omega))) (fun z17 hz17 => ?_)
  refine Ok_bind (ok_X5_stepsBetween i8 z17 i9 i3 (by first | omega | assumption | (try simp only [tl0, tl1, tl2, tl3, tl4, tl5, tl6, tl8, tl9, tl10, tl50, tl81, tl100, tl1000, tl9999, tlm1, tlm9, tlm50, tl2147483647]; omega))) (fun z18 hz18 => ?_)
  try dsimp only at hz18
  try simp only [tl0, tl1, tl2, tl3, tl4, tl5, tl6, tl8, tl9, tl10, tl50, tl81, tl100, tl1000, tl9999, tlm1, tlm9, tlm50, tl2147483647] at hz18
  exact Ok_some trivial
