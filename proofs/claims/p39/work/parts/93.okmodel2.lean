/-! by program: what the rest of the reference's functions give -/
set_option maxRecDepth 4000 in
theorem okL_X8_isSoundNow_L50 (i2 : Int32) (f11 : Nat → Int32) (f12 : Nat → Int32) (i69 : Int32) {P : (Int32) → Prop} {k1 : Int32 → Option (Int32)} (g0 : 2 ≤ i2.toInt ∧ i2.toInt ≤ 9) (g1 : 0 ≤ i69.toInt) (g2 : i69.toInt ≤ 8) (hk1 : ∀ (y1 : Int32), Ok (k1 y1) P) : ∀ (n : Nat) (i100 : Int32) (i101 : Int32), 0 ≤ i101.toInt → i2.toInt - i101.toInt < n → 0 < n → Ok (LX8_isSoundNow_L50 i2 f11 f12 i69 n i100 i101 k1) P := by
  intro n
  induction n with
  | zero => intro i100 i101 v0 hm h0; exact absurd h0 (Nat.lt_irrefl 0)
  | succ n ih =>
    intro i100 i101 v0 hm h0
    show Ok (BX8_isSoundNow_L50 i2 f11 f12 i69 i100 i101 (fun i100 i101 => LX8_isSoundNow_L50 i2 f11 f12 i69 n i100 i101 k1) k1) _
    unfold BX8_isSoundNow_L50
    refine Ok_if ?_ ?_
    · intro h
      have c4 : i2.toInt ≤ i101.toInt := i32le h
      exact hk1 i100
    · intro h
      have c5 : i101.toInt < i2.toInt := i32nle h
      refine Ok_bind (ok_X8_left f11 f12 i69 i101 (by first | omega | assumption | (try simp only [tl0, tl1, tl2, tl3, tl4, tl5, tl6, tl8, tl9, tl10, tl50, tl81, tl100, tl1000, tl9999, tlm1, tlm9, tlm50, tl2147483647]; omega)) (by first | omega | assumption | (try simp only [tl0, tl1, tl2, tl3, tl4, tl5, tl6, tl8, tl9, tl10, tl50, tl81, tl100, tl1000, tl9999, tlm1, tlm9, tlm50, tl2147483647]; omega)) (by first | omega | assumption | (try simp only [tl0, tl1, tl2, tl3, tl4, tl5, tl6, tl8, tl9, tl10, tl50, tl81, tl100, tl1000, tl9999, tlm1, tlm9, tlm50, tl2147483647]; omega)) (by first | omega | assumption | (try simp only [tl0, tl1, tl2, tl3, tl4, tl5, tl6, tl8, tl9, tl10, tl50, tl81, tl100, tl1000, tl9999, tlm1, tlm9, tlm50, tl2147483647]; omega))) (fun z102 hz102 => ?_)
      refine Ok_jn (fun k103 wk103 => ?_)
      refine Ok_jn (fun k105 wk105 => ?_)
      refine Ok_if ?_ ?_
      · intro h
        have c6 : z102.toInt < 0 := i32lt h
        rw [wk105]
        show Ok (k103 (0 : Int32)) _
        rw [wk103]
        show Ok (nm (i100 &&& (0 : Int32)) (fun (i110 : Int32) => (fun i100 i101 => LX8_isSoundNow_L50 i2 f11 f12 i69 n i100 i101 k1) i110 (i101 + (1 : Int32)))) _
        refine Ok_nm (fun i110 wi110 => ?_)
        have qi110 := i32eq wi110
        try (have e7 := inc_iv (x := i101) (by omega))
        exact ih i110 (i101 + (1 : Int32)) (by first | omega | assumption | (try simp only [tl0, tl1, tl2, tl3, tl4, tl5, tl6, tl8, tl9, tl10, tl50, tl81, tl100, tl1000, tl9999, tlm1, tlm9, tlm50, tl2147483647]; omega)) (by first | omega | assumption | (try simp only [tl0, tl1, tl2, tl3, tl4, tl5, tl6, tl8, tl9, tl10, tl50, tl81, tl100, tl1000, tl9999, tlm1, tlm9, tlm50, tl2147483647]; omega)) (by first | omega | assumption | (try simp only [tl0, tl1, tl2, tl3, tl4, tl5, tl6, tl8, tl9, tl10, tl50, tl81, tl100, tl1000, tl9999, tlm1, tlm9, tlm50, tl2147483647]; omega))
      · intro h
        have c8 : 0 ≤ z102.toInt := i32nlt h
        refine Ok_bind (ok_X8_flow f12 i69 i101 (by first | omega | assumption | (try simp only [tl0, tl1, tl2, tl3, tl4, tl5, tl6, tl8, tl9, tl10, tl50, tl81, tl100, tl1000, tl9999, tlm1, tlm9, tlm50, tl2147483647]; omega)) (by first | omega | assumption | (try simp only [tl0, tl1, tl2, tl3, tl4, tl5, tl6, tl8, tl9, tl10, tl50, tl81, tl100, tl1000, tl9999, tlm1, tlm9, tlm50, tl2147483647]; omega)) (by first | omega | assumption | (try simp only [tl0, tl1, tl2, tl3, tl4, tl5, tl6, tl8, tl9, tl10, tl50, tl81, tl100, tl1000, tl9999, tlm1, tlm9, tlm50, tl2147483647]; omega)) (by first | omega | assumption | (try simp only [tl0, tl1, tl2, tl3, tl4, tl5, tl6, tl8, tl9, tl10, tl50, tl81, tl100, tl1000, tl9999, tlm1, tlm9, tlm50, tl2147483647]; omega))) (fun z107 hz107 => ?_)
        refine Ok_bind (ok_X8_flow f12 i101 i69 (by first | omega | assumption | (try simp only [tl0, tl1, tl2, tl3, tl4, tl5, tl6, tl8, tl9, tl10, tl50, tl81, tl100, tl1000, tl9999, tlm1, tlm9, tlm50, tl2147483647]; omega)) (by first | omega | assumption | (try simp only [tl0, tl1, tl2, tl3, tl4, tl5, tl6, tl8, tl9, tl10, tl50, tl81, tl100, tl1000, tl9999, tlm1, tlm9, tlm50, tl2147483647]; omega)) (by first | omega | assumption | (try simp only [tl0, tl1, tl2, tl3, tl4, tl5, tl6, tl8, tl9, tl10, tl50, tl81, tl100, tl1000, tl9999, tlm1, tlm9, tlm50, tl2147483647]; omega)) (by first | omega | assumption | (try simp only [tl0, tl1, tl2, tl3, tl4, tl5, tl6, tl8, tl9, tl10, tl50, tl81, tl100, tl1000, tl9999, tlm1, tlm9, tlm50, tl2147483647]; omega))) (fun z108 hz108 => ?_)
        refine Ok_if ?_ ?_
        · intro h
          have c9 : z107.toInt = (-z108).toInt := i32eq h
          rw [wk103]
          show Ok (nm (i100 &&& (1 : Int32)) (fun (i110 : Int32) => (fun i100 i101 => LX8_isSoundNow_L50 i2 f11 f12 i69 n i100 i101 k1) i110 (i101 + (1 : Int32)))) _
          refine Ok_nm (fun i110 wi110 => ?_)
          have qi110 := i32eq wi110
          try (have e10 := inc_iv (x := i101) (by omega))
          exact ih i110 (i101 + (1 : Int32)) (by first | omega | assumption | (try simp only [tl0, tl1, tl2, tl3, tl4, tl5, tl6, tl8, tl9, tl10, tl50, tl81, tl100, tl1000, tl9999, tlm1, tlm9, tlm50, tl2147483647]; omega)) (by first | omega | assumption | (try simp only [tl0, tl1, tl2, tl3, tl4, tl5, tl6, tl8, tl9, tl10, tl50, tl81, tl100, tl1000, tl9999, tlm1, tlm9, tlm50, tl2147483647]; omega)) (by first | omega | assumption | (try simp only [tl0, tl1, tl2, tl3, tl4, tl5, tl6, tl8, tl9, tl10, tl50, tl81, tl100, tl1000, tl9999, tlm1, tlm9, tlm50, tl2147483647]; omega))
        · intro h
          have c11 : z107.toInt ≠ (-z108).toInt := i32ne h
          rw [wk105]
          show Ok (k103 (0 : Int32)) _
          rw [wk103]
          show Ok (nm (i100 &&& (0 : Int32)) (fun (i110 : Int32) => (fun i100 i101 => LX8_isSoundNow_L50 i2 f11 f12 i69 n i100 i101 k1) i110 (i101 + (1 : Int32)))) _
          refine Ok_nm (fun i110 wi110 => ?_)
          have qi110 := i32eq wi110
          try (have e12 := inc_iv (x := i101) (by omega))
          exact ih i110 (i101 + (1 : Int32)) (by first | omega | assumption | (try simp only [tl0, tl1, tl2, tl3, tl4, tl5, tl6, tl8, tl9, tl10, tl50, tl81, tl100, tl1000, tl9999, tlm1, tlm9, tlm50, tl2147483647]; omega)) (by first | omega | assumption | (try simp only [tl0, tl1, tl2, tl3, tl4, tl5, tl6, tl8, tl9, tl10, tl50, tl81, tl100, tl1000, tl9999, tlm1, tlm9, tlm50, tl2147483647]; omega)) (by first | omega | assumption | (try simp only [tl0, tl1, tl2, tl3, tl4, tl5, tl6, tl8, tl9, tl10, tl50, tl81, tl100, tl1000, tl9999, tlm1, tlm9, tlm50, tl2147483647]; omega))
set_option maxRecDepth 4000 in
theorem okL_X8_isSoundNow_L4 (i2 : Int32) (i5 : Int32) (i6 : Int32) (f11 : Nat → Int32) (f12 : Nat → Int32) {P : (Int32) → Prop} {k1 : Int32 → Option (Int32)} (g0 : 2 ≤ i2.toInt ∧ i2.toInt ≤ 9) (g1 : 0 ≤ i5.toInt ∧ i5.toInt ≤ 8) (g2 : 0 ≤ i6.toInt ∧ i6.toInt ≤ 8) (g3 : PFx i2 i5 i6 f12) (hk1 : ∀ (y1 : Int32), Ok (k1 y1) P) : ∀ (n : Nat) (i68 : Int32) (i69 : Int32), 0 ≤ i69.toInt → i2.toInt - i69.toInt < n → 0 < n → Ok (LX8_isSoundNow_L4 i2 i5 i6 f11 f12 n i68 i69 k1) P := by
  intro n
  induction n with
  | zero => intro i68 i69 v0 hm h0; exact absurd h0 (Nat.lt_irrefl 0)
  | succ n ih =>
    intro i68 i69 v0 hm h0
    show Ok (BX8_isSoundNow_L4 i2 i5 i6 f11 f12 i68 i69 (fun i68 i69 => LX8_isSoundNow_L4 i2 i5 i6 f11 f12 n i68 i69 k1) k1) _
    unfold BX8_isSoundNow_L4
    refine Ok_if ?_ ?_
    · intro h
      have c1 : i2.toInt ≤ i69.toInt := i32le h
      exact hk1 i68
    · intro h
      have c2 : i69.toInt < i2.toInt := i32nle h
      refine Ok_jn (fun k70 wk70 => ?_)
      refine Ok_jn (fun k72 wk72 => ?_)
      refine Ok_if ?_ ?_
      · intro h
        have c3 : i69.toInt = i5.toInt := i32eq h
        rw [wk72]
        show Ok (k70 (1 : Int32)) _
        rw [wk70]
        show Ok (nm (i68 &&& (1 : Int32)) (fun (i76 : Int32) => LX8_isSoundNow_L50  i2 f11 f12 i69 600 i76 (0 : Int32) (fun (i111 : Int32) => (fun i68 i69 => LX8_isSoundNow_L4 i2 i5 i6 f11 f12 n i68 i69 k1) i111 (i69 + (1 : Int32))))) _
        refine Ok_nm (fun i76 wi76 => ?_)
        have qi76 := i32eq wi76
        refine okL_X8_isSoundNow_L50 i2 f11 f12 i69 (by first | omega | assumption | (try simp only [tl0, tl1, tl2, tl3, tl4, tl5, tl6, tl8, tl9, tl10, tl50, tl81, tl100, tl1000, tl9999, tlm1, tlm9, tlm50, tl2147483647]; omega)) (by first | omega | assumption | (try simp only [tl0, tl1, tl2, tl3, tl4, tl5, tl6, tl8, tl9, tl10, tl50, tl81, tl100, tl1000, tl9999, tlm1, tlm9, tlm50, tl2147483647]; omega)) (by first | omega | assumption | (try simp only [tl0, tl1, tl2, tl3, tl4, tl5, tl6, tl8, tl9, tl10, tl50, tl81, tl100, tl1000, tl9999, tlm1, tlm9, tlm50, tl2147483647]; omega)) ?_ 600 i76 (0 : Int32) (by first | omega | assumption | (try simp only [tl0, tl1, tl2, tl3, tl4, tl5, tl6, tl8, tl9, tl10, tl50, tl81, tl100, tl1000, tl9999, tlm1, tlm9, tlm50, tl2147483647]; omega)) (by first | omega | assumption | (try simp only [tl0, tl1, tl2, tl3, tl4, tl5, tl6, tl8, tl9, tl10, tl50, tl81, tl100, tl1000, tl9999, tlm1, tlm9, tlm50, tl2147483647]; omega)) (by first | omega | assumption | (try simp only [tl0, tl1, tl2, tl3, tl4, tl5, tl6, tl8, tl9, tl10, tl50, tl81, tl100, tl1000, tl9999, tlm1, tlm9, tlm50, tl2147483647]; omega))
        intro i111
        show Ok ((fun i68 i69 => LX8_isSoundNow_L4 i2 i5 i6 f11 f12 n i68 i69 k1) i111 (i69 + (1 : Int32))) _
        try (have e13 := inc_iv (x := i69) (by omega))
        exact ih i111 (i69 + (1 : Int32)) (by first | omega | assumption | (try simp only [tl0, tl1, tl2, tl3, tl4, tl5, tl6, tl8, tl9, tl10, tl50, tl81, tl100, tl1000, tl9999, tlm1, tlm9, tlm50, tl2147483647]; omega)) (by first | omega | assumption | (try simp only [tl0, tl1, tl2, tl3, tl4, tl5, tl6, tl8, tl9, tl10, tl50, tl81, tl100, tl1000, tl9999, tlm1, tlm9, tlm50, tl2147483647]; omega)) (by first | omega | assumption | (try simp only [tl0, tl1, tl2, tl3, tl4, tl5, tl6, tl8, tl9, tl10, tl50, tl81, tl100, tl1000, tl9999, tlm1, tlm9, tlm50, tl2147483647]; omega))
      · intro h
        have c14 : i69.toInt ≠ i5.toInt := i32ne h
        refine Ok_if ?_ ?_
        · intro h
          have c15 : i69.toInt = i6.toInt := i32eq h
          rw [wk72]
          show Ok (k70 (1 : Int32)) _
          rw [wk70]
          show Ok (nm (i68 &&& (1 : Int32)) (fun (i76 : Int32) => LX8_isSoundNow_L50  i2 f11 f12 i69 600 i76 (0 : Int32) (fun (i111 : Int32) => (fun i68 i69 => LX8_isSoundNow_L4 i2 i5 i6 f11 f12 n i68 i69 k1) i111 (i69 + (1 : Int32))))) _
          refine Ok_nm (fun i76 wi76 => ?_)
          have qi76 := i32eq wi76
          refine okL_X8_isSoundNow_L50 i2 f11 f12 i69 (by first | omega | assumption | (try simp only [tl0, tl1, tl2, tl3, tl4, tl5, tl6, tl8, tl9, tl10, tl50, tl81, tl100, tl1000, tl9999, tlm1, tlm9, tlm50, tl2147483647]; omega)) (by first | omega | assumption | (try simp only [tl0, tl1, tl2, tl3, tl4, tl5, tl6, tl8, tl9, tl10, tl50, tl81, tl100, tl1000, tl9999, tlm1, tlm9, tlm50, tl2147483647]; omega)) (by first | omega | assumption | (try simp only [tl0, tl1, tl2, tl3, tl4, tl5, tl6, tl8, tl9, tl10, tl50, tl81, tl100, tl1000, tl9999, tlm1, tlm9, tlm50, tl2147483647]; omega)) ?_ 600 i76 (0 : Int32) (by first | omega | assumption | (try simp only [tl0, tl1, tl2, tl3, tl4, tl5, tl6, tl8, tl9, tl10, tl50, tl81, tl100, tl1000, tl9999, tlm1, tlm9, tlm50, tl2147483647]; omega)) (by first | omega | assumption | (try simp only [tl0, tl1, tl2, tl3, tl4, tl5, tl6, tl8, tl9, tl10, tl50, tl81, tl100, tl1000, tl9999, tlm1, tlm9, tlm50, tl2147483647]; omega)) (by first | omega | assumption | (try simp only [tl0, tl1, tl2, tl3, tl4, tl5, tl6, tl8, tl9, tl10, tl50, tl81, tl100, tl1000, tl9999, tlm1, tlm9, tlm50, tl2147483647]; omega))
          intro i111
          show Ok ((fun i68 i69 => LX8_isSoundNow_L4 i2 i5 i6 f11 f12 n i68 i69 k1) i111 (i69 + (1 : Int32))) _
          try (have e16 := inc_iv (x := i69) (by omega))
          exact ih i111 (i69 + (1 : Int32)) (by first | omega | assumption | (try simp only [tl0, tl1, tl2, tl3, tl4, tl5, tl6, tl8, tl9, tl10, tl50, tl81, tl100, tl1000, tl9999, tlm1, tlm9, tlm50, tl2147483647]; omega)) (by first | omega | assumption | (try simp only [tl0, tl1, tl2, tl3, tl4, tl5, tl6, tl8, tl9, tl10, tl50, tl81, tl100, tl1000, tl9999, tlm1, tlm9, tlm50, tl2147483647]; omega)) (by first | omega | assumption | (try simp only [tl0, tl1, tl2, tl3, tl4, tl5, tl6, tl8, tl9, tl10, tl50, tl81, tl100, tl1000, tl9999, tlm1, tlm9, tlm50, tl2147483647]; omega))
        · intro h
          have c17 : i69.toInt ≠ i6.toInt := i32ne h
          refine Ok_bind (ok_X8_fromPlace i2 f12 i69 (by first | omega | assumption | (try simp only [tl0, tl1, tl2, tl3, tl4, tl5, tl6, tl8, tl9, tl10, tl50, tl81, tl100, tl1000, tl9999, tlm1, tlm9, tlm50, tl2147483647]; omega)) (by first | omega | assumption | (try simp only [tl0, tl1, tl2, tl3, tl4, tl5, tl6, tl8, tl9, tl10, tl50, tl81, tl100, tl1000, tl9999, tlm1, tlm9, tlm50, tl2147483647]; omega)) (by first | omega | assumption | (try simp only [tl0, tl1, tl2, tl3, tl4, tl5, tl6, tl8, tl9, tl10, tl50, tl81, tl100, tl1000, tl9999, tlm1, tlm9, tlm50, tl2147483647]; omega))) (fun z74 hz74 => ?_)
          refine Ok_if ?_ ?_
          · intro h
            have c18 : z74.toInt = 0 := i32eq h
            rw [wk72]
            show Ok (k70 (1 : Int32)) _
            rw [wk70]
            show Ok (nm (i68 &&& (1 : Int32)) (fun (i76 : Int32) => LX8_isSoundNow_L50  i2 f11 f12 i69 600 i76 (0 : Int32) (fun (i111 : Int32) => (fun i68 i69 => LX8_isSoundNow_L4 i2 i5 i6 f11 f12 n i68 i69 k1) i111 (i69 + (1 : Int32))))) _
            refine Ok_nm (fun i76 wi76 => ?_)
            have qi76 := i32eq wi76
            refine okL_X8_isSoundNow_L50 i2 f11 f12 i69 (by first | omega | assumption | (try simp only [tl0, tl1, tl2, tl3, tl4, tl5, tl6, tl8, tl9, tl10, tl50, tl81, tl100, tl1000, tl9999, tlm1, tlm9, tlm50, tl2147483647]; omega)) (by first | omega | assumption | (try simp only [tl0, tl1, tl2, tl3, tl4, tl5, tl6, tl8, tl9, tl10, tl50, tl81, tl100, tl1000, tl9999, tlm1, tlm9, tlm50, tl2147483647]; omega)) (by first | omega | assumption | (try simp only [tl0, tl1, tl2, tl3, tl4, tl5, tl6, tl8, tl9, tl10, tl50, tl81, tl100, tl1000, tl9999, tlm1, tlm9, tlm50, tl2147483647]; omega)) ?_ 600 i76 (0 : Int32) (by first | omega | assumption | (try simp only [tl0, tl1, tl2, tl3, tl4, tl5, tl6, tl8, tl9, tl10, tl50, tl81, tl100, tl1000, tl9999, tlm1, tlm9, tlm50, tl2147483647]; omega)) (by first | omega | assumption | (try simp only [tl0, tl1, tl2, tl3, tl4, tl5, tl6, tl8, tl9, tl10, tl50, tl81, tl100, tl1000, tl9999, tlm1, tlm9, tlm50, tl2147483647]; omega)) (by first | omega | assumption | (try simp only [tl0, tl1, tl2, tl3, tl4, tl5, tl6, tl8, tl9, tl10, tl50, tl81, tl100, tl1000, tl9999, tlm1, tlm9, tlm50, tl2147483647]; omega))
            intro i111
            show Ok ((fun i68 i69 => LX8_isSoundNow_L4 i2 i5 i6 f11 f12 n i68 i69 k1) i111 (i69 + (1 : Int32))) _
            try (have e19 := inc_iv (x := i69) (by omega))
            exact ih i111 (i69 + (1 : Int32)) (by first | omega | assumption | (try simp only [tl0, tl1, tl2, tl3, tl4, tl5, tl6, tl8, tl9, tl10, tl50, tl81, tl100, tl1000, tl9999, tlm1, tlm9, tlm50, tl2147483647]; omega)) (by first | omega | assumption | (try simp only [tl0, tl1, tl2, tl3, tl4, tl5, tl6, tl8, tl9, tl10, tl50, tl81, tl100, tl1000, tl9999, tlm1, tlm9, tlm50, tl2147483647]; omega)) (by first | omega | assumption | (try simp only [tl0, tl1, tl2, tl3, tl4, tl5, tl6, tl8, tl9, tl10, tl50, tl81, tl100, tl1000, tl9999, tlm1, tlm9, tlm50, tl2147483647]; omega))
          · intro h
            have c20 : z74.toInt ≠ 0 := i32ne h
            rw [wk70]
            show Ok (nm (i68 &&& (0 : Int32)) (fun (i76 : Int32) => LX8_isSoundNow_L50  i2 f11 f12 i69 600 i76 (0 : Int32) (fun (i111 : Int32) => (fun i68 i69 => LX8_isSoundNow_L4 i2 i5 i6 f11 f12 n i68 i69 k1) i111 (i69 + (1 : Int32))))) _
            refine Ok_nm (fun i76 wi76 => ?_)
            have qi76 := i32eq wi76
            refine okL_X8_isSoundNow_L50 i2 f11 f12 i69 (by first | omega | assumption | (try simp only [tl0, tl1, tl2, tl3, tl4, tl5, tl6, tl8, tl9, tl10, tl50, tl81, tl100, tl1000, tl9999, tlm1, tlm9, tlm50, tl2147483647]; omega)) (by first | omega | assumption | (try simp only [tl0, tl1, tl2, tl3, tl4, tl5, tl6, tl8, tl9, tl10, tl50, tl81, tl100, tl1000, tl9999, tlm1, tlm9, tlm50, tl2147483647]; omega)) (by first | omega | assumption | (try simp only [tl0, tl1, tl2, tl3, tl4, tl5, tl6, tl8, tl9, tl10, tl50, tl81, tl100, tl1000, tl9999, tlm1, tlm9, tlm50, tl2147483647]; omega)) ?_ 600 i76 (0 : Int32) (by first | omega | assumption | (try simp only [tl0, tl1, tl2, tl3, tl4, tl5, tl6, tl8, tl9, tl10, tl50, tl81, tl100, tl1000, tl9999, tlm1, tlm9, tlm50, tl2147483647]; omega)) (by first | omega | assumption | (try simp only [tl0, tl1, tl2, tl3, tl4, tl5, tl6, tl8, tl9, tl10, tl50, tl81, tl100, tl1000, tl9999, tlm1, tlm9, tlm50, tl2147483647]; omega)) (by first | omega | assumption | (try simp only [tl0, tl1, tl2, tl3, tl4, tl5, tl6, tl8, tl9, tl10, tl50, tl81, tl100, tl1000, tl9999, tlm1, tlm9, tlm50, tl2147483647]; omega))
            intro i111
            show Ok ((fun i68 i69 => LX8_isSoundNow_L4 i2 i5 i6 f11 f12 n i68 i69 k1) i111 (i69 + (1 : Int32))) _
            try (have e21 := inc_iv (x := i69) (by omega))
            exact ih i111 (i69 + (1 : Int32)) (by first | omega | assumption | (try simp only [tl0, tl1, tl2, tl3, tl4, tl5, tl6, tl8, tl9, tl10, tl50, tl81, tl100, tl1000, tl9999, tlm1, tlm9, tlm50, tl2147483647]; omega)) (by first | omega | assumption | (try simp only [tl0, tl1, tl2, tl3, tl4, tl5, tl6, tl8, tl9, tl10, tl50, tl81, tl100, tl1000, tl9999, tlm1, tlm9, tlm50, tl2147483647]; omega)) (by first | omega | assumption | (try simp only [tl0, tl1, tl2, tl3, tl4, tl5, tl6, tl8, tl9, tl10, tl50, tl81, tl100, tl1000, tl9999, tlm1, tlm9, tlm50, tl2147483647]; omega))
set_option maxRecDepth 4000 in
theorem okL_X8_isSoundNow_L158 (i2 : Int32) (i5 : Int32) (i6 : Int32) (f12 : Nat → Int32) {P : (Int32) → Prop} {k1 : Int32 → Option (Int32)} (g0 : 2 ≤ i2.toInt ∧ i2.toInt ≤ 9) (g1 : 0 ≤ i5.toInt ∧ i5.toInt ≤ 8) (g2 : 0 ≤ i6.toInt ∧ i6.toInt ≤ 8) (g3 : PFx i2 i5 i6 f12) (hk1 : ∀ (y1 : Int32), Ok (k1 y1) P) : ∀ (n : Nat) (i153 : Int32) (i155 : Int32), 0 ≤ i155.toInt → ((1 : Int32) <<< (i2 &&& 31)).toInt - i155.toInt < n → 0 < n → Ok (LX8_isSoundNow_L158 i2 i5 i6 f12 n i153 i155 k1) P := by
  intro n
  induction n with
  | zero => intro i153 i155 v0 hm h0; exact absurd h0 (Nat.lt_irrefl 0)
  | succ n ih =>
    intro i153 i155 v0 hm h0
    show Ok (BX8_isSoundNow_L158 i2 i5 i6 f12 i153 i155 (fun i153 i155 => LX8_isSoundNow_L158 i2 i5 i6 f12 n i153 i155 k1) k1) _
    unfold BX8_isSoundNow_L158
    refine Ok_if ?_ ?_
    · intro h
      try (have e24 := sh9 (x := i2) (by omega) (by omega))
      have c23 : ((1 : Int32) <<< (i2 &&& 31)).toInt ≤ i155.toInt := i32le h
      exact hk1 i153
    · intro h
      try (have e26 := sh9 (x := i2) (by omega) (by omega))
      have c25 : i155.toInt < ((1 : Int32) <<< (i2 &&& 31)).toInt := i32nle h
      refine Ok_bind (ok_X8_isCut i155 i5 i6) (fun z156 hz156 => ?_)
      refine Ok_jn (fun k157 wk157 => ?_)
      refine Ok_if ?_ ?_
      · intro h
        have c27 : z156.toInt = 0 := i32eq h
        rw [wk157]
        show Ok ((fun i153 i155 => LX8_isSoundNow_L158 i2 i5 i6 f12 n i153 i155 k1) i153 (i155 + (1 : Int32))) _
        try (have e28 := inc_iv (x := i155) (by omega))
        exact ih i153 (i155 + (1 : Int32)) (by first | omega | assumption | (try simp only [tl0, tl1, tl2, tl3, tl4, tl5, tl6, tl8, tl9, tl10, tl50, tl81, tl100, tl1000, tl9999, tlm1, tlm9, tlm50, tl2147483647]; omega)) (by first | omega | assumption | (try simp only [tl0, tl1, tl2, tl3, tl4, tl5, tl6, tl8, tl9, tl10, tl50, tl81, tl100, tl1000, tl9999, tlm1, tlm9, tlm50, tl2147483647]; omega)) (by first | omega | assumption | (try simp only [tl0, tl1, tl2, tl3, tl4, tl5, tl6, tl8, tl9, tl10, tl50, tl81, tl100, tl1000, tl9999, tlm1, tlm9, tlm50, tl2147483647]; omega))
      · intro h
        have c29 : z156.toInt ≠ 0 := i32ne h
        refine Ok_bind (ok_X8_through i2 f12 i155 (by first | omega | assumption | (try simp only [tl0, tl1, tl2, tl3, tl4, tl5, tl6, tl8, tl9, tl10, tl50, tl81, tl100, tl1000, tl9999, tlm1, tlm9, tlm50, tl2147483647]; omega))) (fun z159 hz159 => ?_)
        refine Ok_bind (ok_X8_valueNow i2 i5 f12 (by first | omega | assumption | (try simp only [tl0, tl1, tl2, tl3, tl4, tl5, tl6, tl8, tl9, tl10, tl50, tl81, tl100, tl1000, tl9999, tlm1, tlm9, tlm50, tl2147483647]; omega)) (by first | omega | assumption | (try simp only [tl0, tl1, tl2, tl3, tl4, tl5, tl6, tl8, tl9, tl10, tl50, tl81, tl100, tl1000, tl9999, tlm1, tlm9, tlm50, tl2147483647]; omega))) (fun z160 hz160 => ?_)
        refine Ok_jn (fun k161 wk161 => ?_)
        refine Ok_if ?_ ?_
        · intro h
          have c30 : z159.toInt = z160.toInt := i32eq h
          rw [wk161]
          show Ok (nm (i153 &&& (1 : Int32)) (fun (i164 : Int32) => k157 i164)) _
          refine Ok_nm (fun i164 wi164 => ?_)
          have qi164 := i32eq wi164
          rw [wk157]
          show Ok ((fun i153 i155 => LX8_isSoundNow_L158 i2 i5 i6 f12 n i153 i155 k1) i164 (i155 + (1 : Int32))) _
          try (have e31 := inc_iv (x := i155) (by omega))
          exact ih i164 (i155 + (1 : Int32)) (by first | omega | assumption | (try simp only [tl0, tl1, tl2, tl3, tl4, tl5, tl6, tl8, tl9, tl10, tl50, tl81, tl100, tl1000, tl9999, tlm1, tlm9, tlm50, tl2147483647]; omega)) (by first | omega | assumption | (try simp only [tl0, tl1, tl2, tl3, tl4, tl5, tl6, tl8, tl9, tl10, tl50, tl81, tl100, tl1000, tl9999, tlm1, tlm9, tlm50, tl2147483647]; omega)) (by first | omega | assumption | (try simp only [tl0, tl1, tl2, tl3, tl4, tl5, tl6, tl8, tl9, tl10, tl50, tl81, tl100, tl1000, tl9999, tlm1, tlm9, tlm50, tl2147483647]; omega))
        · intro h
          have c32 : z159.toInt ≠ z160.toInt := i32ne h
          rw [wk161]
          show Ok (nm (i153 &&& (0 : Int32)) (fun (i164 : Int32) => k157 i164)) _
          refine Ok_nm (fun i164 wi164 => ?_)
          have qi164 := i32eq wi164
          rw [wk157]
          show Ok ((fun i153 i155 => LX8_isSoundNow_L158 i2 i5 i6 f12 n i153 i155 k1) i164 (i155 + (1 : Int32))) _
          try (have e33 := inc_iv (x := i155) (by omega))
          exact ih i164 (i155 + (1 : Int32)) (by first | omega | assumption | (try simp only [tl0, tl1, tl2, tl3, tl4, tl5, tl6, tl8, tl9, tl10, tl50, tl81, tl100, tl1000, tl9999, tlm1, tlm9, tlm50, tl2147483647]; omega)) (by first | omega | assumption | (try simp only [tl0, tl1, tl2, tl3, tl4, tl5, tl6, tl8, tl9, tl10, tl50, tl81, tl100, tl1000, tl9999, tlm1, tlm9, tlm50, tl2147483647]; omega)) (by first | omega | assumption | (try simp only [tl0, tl1, tl2, tl3, tl4, tl5, tl6, tl8, tl9, tl10, tl50, tl81, tl100, tl1000, tl9999, tlm1, tlm9, tlm50, tl2147483647]; omega))
set_option maxRecDepth 4000 in
theorem ok_X8_isSoundNow (i2 : Int32) (i5 : Int32) (i6 : Int32) (f11 : Nat → Int32) (f12 : Nat → Int32) (h0 : 2 ≤ i2.toInt ∧ i2.toInt ≤ 9) (h1 : 0 ≤ i5.toInt ∧ i5.toInt ≤ 8) (h2 : 0 ≤ i6.toInt ∧ i6.toInt ≤ 8) (h3 : PFx i2 i5 i6 f12) : Ok (fX8_isSoundNow i2 i5 i6 f11 f12) (fun z => (z.toInt = 0 ∨ z.toInt = 1)) := by
  unfold fX8_isSoundNow
  refine okL_X8_isSoundNow_L4 i2 i5 i6 f11 f12 (by first | omega | assumption | (try simp only [tl0, tl1, tl2, tl3, tl4, tl5, tl6, tl8, tl9, tl10, tl50, tl81, tl100, tl1000, tl9999, tlm1, tlm9, tlm50, tl2147483647]; omega)) (by first | omega | assumption | (try simp only [tl0, tl1, tl2, tl3, tl4, tl5, tl6, tl8, tl9, tl10, tl50, tl81, tl100, tl1000, tl9999, tlm1, tlm9, tlm50, tl2147483647]; omega)) (by first | omega | assumption | (try simp only [tl0, tl1, tl2, tl3, tl4, tl5, tl6, tl8, tl9, tl10, tl50, tl81, tl100, tl1000, tl9999, tlm1, tlm9, tlm50, tl2147483647]; omega)) (by first | omega | assumption | (try simp only [tl0, tl1, tl2, tl3, tl4, tl5, tl6, tl8, tl9, tl10, tl50, tl81, tl100, tl1000, tl9999, tlm1, tlm9, tlm50, tl2147483647]; omega)) ?_ 600 (1 : Int32) (0 : Int32) (by first | omega | assumption | (try simp only [tl0, tl1, tl2, tl3, tl4, tl5, tl6, tl8, tl9, tl10, tl50, tl81, tl100, tl1000, tl9999, tlm1, tlm9, tlm50, tl2147483647]; omega)) (by first | omega | assumption | (try simp only [tl0, tl1, tl2, tl3, tl4, tl5, tl6, tl8, tl9, tl10, tl50, tl81, tl100, tl1000, tl9999, tlm1, tlm9, tlm50, tl2147483647]; omega)) (by first | omega | assumption | (try simp only [tl0, tl1, tl2, tl3, tl4, tl5, tl6, tl8, tl9, tl10, tl50, tl81, tl100, tl1000, tl9999, tlm1, tlm9, tlm50, tl2147483647]; omega))
  intro i112
  show Ok ((fX8_leastNow i2 i5 i6 f11).bind (fun z113 => (fX8_valueNow i2 i5 f12).bind (fun z114 => jn (fun (i127 : Int32) => nm (i112 &&& i127) (fun (i128 : Int32) => LX8_isSoundNow_L158  i2 i5 i6 f12 600 i128 (0 : Int32) (fun (i166 : Int32) => if i166 = (0 : Int32) then (some (0 : Int32)) else ((fX8_endNow i2 i5 i6 f11 (0 : Int32)).bind (fun z167 => (fX8_through i2 f11 z167).bind (fun z168 => if z168 = z113 then ((fX8_endNow i2 i5 i6 f11 (1 : Int32)).bind (fun z169 => (fX8_through i2 f11 z169).bind (fun z170 => if z170 = z113 then ((fX8_partsNow i2 i5 i6 f12 (2 : Int32)).bind (fun z171 => (fX8_valueNow i2 i5 f12).bind (fun z172 => if z171 = z172 then (some (1 : Int32)) else (some (0 : Int32))))) else (some (0 : Int32))))) else (some (0 : Int32)))))))) (fun (k115 : Int32 → Option (Int32)) => jn (fun (_ : Unit) => k115 (0 : Int32)) (fun (k117 : Unit → Option (Int32)) => if z113 < z114 then (k117 ()) else ((fX8_valueNow i2 i5 f12).bind (fun z119 => jn (fun (i122 : Int32) => (fX8_layerNow i2 i5 f11 f12 i6).bind (fun z123 => jn (fun (i126 : Int32) => if i122 = i126 then (k115 (1 : Int32)) else (k117 ())) (fun (k124 : Int32 → Option (Int32)) => if (0 : Int32) ≤ z123 then (k124 (0 : Int32)) else (k124 (1 : Int32))))) (fun (k120 : Int32 → Option (Int32)) => if z119 = z113 then (k120 (1 : Int32)) else (k120 (0 : Int32)))))))))) _
  refine Ok_bind (ok_X8_leastNow i2 i5 i6 f11 (by first | omega | assumption | (try simp only [tl0, tl1, tl2, tl3, tl4, tl5, tl6, tl8, tl9, tl10, tl50, tl81, tl100, tl1000, tl9999, tlm1, tlm9, tlm50, tl2147483647]; omega)) (by first | omega | assumption | (try simp only [tl0, tl1, tl2, tl3, tl4, tl5, tl6, tl8, tl9, tl10, tl50, tl81, tl100, tl1000, tl9999, tlm1, tlm9, tlm50, tl2147483647]; omega)) (by first | omega | assumption | (try simp only [tl0, tl1, tl2, tl3, tl4, tl5, tl6, tl8, tl9, tl10, tl50, tl81, tl100, tl1000, tl9999, tlm1, tlm9, tlm50, tl2147483647]; omega))) (fun z113 hz113 => ?_)
  refine Ok_bind (ok_X8_valueNow i2 i5 f12 (by first | omega | assumption | (try simp only [tl0, tl1, tl2, tl3, tl4, tl5, tl6, tl8, tl9, tl10, tl50, tl81, tl100, tl1000, tl9999, tlm1, tlm9, tlm50, tl2147483647]; omega)) (by first | omega | assumption | (try simp only [tl0, tl1, tl2, tl3, tl4, tl5, tl6, tl8, tl9, tl10, tl50, tl81, tl100, tl1000, tl9999, tlm1, tlm9, tlm50, tl2147483647]; omega))) (fun z114 hz114 => ?_)
  refine Ok_jn (fun k115 wk115 => ?_)
  refine Ok_jn (fun k117 wk117 => ?_)
  refine Ok_if ?_ ?_
  · intro h
    have c22 : z113.toInt < z114.toInt := i32lt h
    rw [wk117]
    show Ok (k115 (0 : Int32)) _
    rw [wk115]
    show Ok (nm (i112 &&& (0 : Int32)) (fun (i128 : Int32) => LX8_isSoundNow_L158  i2 i5 i6 f12 600 i128 (0 : Int32) (fun (i166 : Int32) => if i166 = (0 : Int32) then (some (0 : Int32)) else ((fX8_endNow i2 i5 i6 f11 (0 : Int32)).bind (fun z167 => (fX8_through i2 f11 z167).bind (fun z168 => if z168 = z113 then ((fX8_endNow i2 i5 i6 f11 (1 : Int32)).bind (fun z169 => (fX8_through i2 f11 z169).bind (fun z170 => if z170 = z113 then ((fX8_partsNow i2 i5 i6 f12 (2 : Int32)).bind (fun z171 => (fX8_valueNow i2 i5 f12).bind (fun z172 => if z171 = z172 then (some (1 : Int32)) else (some (0 : Int32))))) else (some (0 : Int32))))) else (some (0 : Int32)))))))) _
    refine Ok_nm (fun i128 wi128 => ?_)
    have qi128 := i32eq wi128
    try (have e34 := sh9 (x := i2) (by omega) (by omega))
    refine okL_X8_isSoundNow_L158 i2 i5 i6 f12 (by first | omega | assumption | (try simp only [tl0, tl1, tl2, tl3, tl4, tl5, tl6, tl8, tl9, tl10, tl50, tl81, tl100, tl1000, tl9999, tlm1, tlm9, tlm50, tl2147483647]; omega)) (by first | omega | assumption | (try simp only [tl0, tl1, tl2, tl3, tl4, tl5, tl6, tl8, tl9, tl10, tl50, tl81, tl100, tl1000, tl9999, tlm1, tlm9, tlm50, tl2147483647]; omega)) (by first | omega | assumption | (try simp only [tl0, tl1, tl2, tl3, tl4, tl5, tl6, tl8, tl9, tl10, tl50, tl81, tl100, tl1000, tl9999, tlm1, tlm9, tlm50, tl2147483647]; omega)) (by first | omega | assumption | (try simp only [tl0, tl1, tl2, tl3, tl4, tl5, tl6, tl8, tl9, tl10, tl50, tl81, tl100, tl1000, tl9999, tlm1, tlm9, tlm50, tl2147483647]; omega)) ?_ 600 i128 (0 : Int32) (by first | omega | assumption | (try simp only [tl0, tl1, tl2, tl3, tl4, tl5, tl6, tl8, tl9, tl10, tl50, tl81, tl100, tl1000, tl9999, tlm1, tlm9, tlm50, tl2147483647]; omega)) (by first | omega | assumption | (try simp only [tl0, tl1, tl2, tl3, tl4, tl5, tl6, tl8, tl9, tl10, tl50, tl81, tl100, tl1000, tl9999, tlm1, tlm9, tlm50, tl2147483647]; omega)) (by first | omega | assumption | (try simp only [tl0, tl1, tl2, tl3, tl4, tl5, tl6, tl8, tl9, tl10, tl50, tl81, tl100, tl1000, tl9999, tlm1, tlm9, tlm50, tl2147483647]; omega))
    intro i166
    show Ok (if i166 = (0 : Int32) then (some (0 : Int32)) else ((fX8_endNow i2 i5 i6 f11 (0 : Int32)).bind (fun z167 => (fX8_through i2 f11 z167).bind (fun z168 => if z168 = z113 then ((fX8_endNow i2 i5 i6 f11 (1 : Int32)).bind (fun z169 => (fX8_through i2 f11 z169).bind (fun z170 => if z170 = z113 then ((fX8_partsNow i2 i5 i6 f12 (2 : Int32)).bind (fun z171 => (fX8_valueNow i2 i5 f12).bind (fun z172 => if z171 = z172 then (some (1 : Int32)) else (some (0 : Int32))))) else (some (0 : Int32))))) else (some (0 : Int32)))))) _
    refine Ok_if ?_ ?_
    · intro h
      have c35 : i166.toInt = 0 := i32eq h
      refine Ok_some ?_
      try dsimp only
      try simp only [tl0, tl1, tl2, tl3, tl4, tl5, tl6, tl8, tl9, tl10, tl50, tl81, tl100, tl1000, tl9999, tlm1, tlm9, tlm50, tl2147483647]
      first | trivial | omega | (simp; done) | (simp; omega) | (repeat' first | assumption | omega | apply And.intro)
    · intro h
      have c36 : i166.toInt ≠ 0 := i32ne h
      refine Ok_bind (ok_X8_endNow i2 i5 i6 f11 (0 : Int32) (by first | omega | assumption | (try simp only [tl0, tl1, tl2, tl3, tl4, tl5, tl6, tl8, tl9, tl10, tl50, tl81, tl100, tl1000, tl9999, tlm1, tlm9, tlm50, tl2147483647]; omega)) (by first | omega | assumption | (try simp only [tl0, tl1, tl2, tl3, tl4, tl5, tl6, tl8, tl9, tl10, tl50, tl81, tl100, tl1000, tl9999, tlm1, tlm9, tlm50, tl2147483647]; omega)) (by first | omega | assumption | (try simp only [tl0, tl1, tl2, tl3, tl4, tl5, tl6, tl8, tl9, tl10, tl50, tl81, tl100, tl1000, tl9999, tlm1, tlm9, tlm50, tl2147483647]; omega))) (fun z167 hz167 => ?_)
      refine Ok_bind (ok_X8_through i2 f11 z167 (by first | omega | assumption | (try simp only [tl0, tl1, tl2, tl3, tl4, tl5, tl6, tl8, tl9, tl10, tl50, tl81, tl100, tl1000, tl9999, tlm1, tlm9, tlm50, tl2147483647]; omega))) (fun z168 hz168 => ?_)
      refine Ok_if ?_ ?_
      · intro h
        have c37 : z168.toInt = z113.toInt := i32eq h
        refine Ok_bind (ok_X8_endNow i2 i5 i6 f11 (1 : Int32) (by first | omega | assumption | (try simp only [tl0, tl1, tl2, tl3, tl4, tl5, tl6, tl8, tl9, tl10, tl50, tl81, tl100, tl1000, tl9999, tlm1, tlm9, tlm50, tl2147483647]; omega)) (by first | omega | assumption | (try simp only [tl0, tl1, tl2, tl3, tl4, tl5, tl6, tl8, tl9, tl10, tl50, tl81, tl100, tl1000, tl9999, tlm1, tlm9, tlm50, tl2147483647]; omega)) (by first | omega | assumption | (try simp only [tl0, tl1, tl2, tl3, tl4, tl5, tl6, tl8, tl9, tl10, tl50, tl81, tl100, tl1000, tl9999, tlm1, tlm9, tlm50, tl2147483647]; omega))) (fun z169 hz169 => ?_)
        refine Ok_bind (ok_X8_through i2 f11 z169 (by first | omega | assumption | (try simp only [tl0, tl1, tl2, tl3, tl4, tl5, tl6, tl8, tl9, tl10, tl50, tl81, tl100, tl1000, tl9999, tlm1, tlm9, tlm50, tl2147483647]; omega))) (fun z170 hz170 => ?_)
        refine Ok_if ?_ ?_
        · intro h
          have c38 : z170.toInt = z113.toInt := i32eq h
          refine Ok_bind (ok_X8_partsNow i2 i5 i6 f12 (2 : Int32) (by first | omega | assumption | (try simp only [tl0, tl1, tl2, tl3, tl4, tl5, tl6, tl8, tl9, tl10, tl50, tl81, tl100, tl1000, tl9999, tlm1, tlm9, tlm50, tl2147483647]; omega)) (by first | omega | assumption | (try simp only [tl0, tl1, tl2, tl3, tl4, tl5, tl6, tl8, tl9, tl10, tl50, tl81, tl100, tl1000, tl9999, tlm1, tlm9, tlm50, tl2147483647]; omega)) (by first | omega | assumption | (try simp only [tl0, tl1, tl2, tl3, tl4, tl5, tl6, tl8, tl9, tl10, tl50, tl81, tl100, tl1000, tl9999, tlm1, tlm9, tlm50, tl2147483647]; omega)) (by first | omega | assumption | (try simp only [tl0, tl1, tl2, tl3, tl4, tl5, tl6, tl8, tl9, tl10, tl50, tl81, tl100, tl1000, tl9999, tlm1, tlm9, tlm50, tl2147483647]; omega))) (fun z171 hz171 => ?_)
          refine Ok_bind (ok_X8_valueNow i2 i5 f12 (by first | omega | assumption | (try simp only [tl0, tl1, tl2, tl3, tl4, tl5, tl6, tl8, tl9, tl10, tl50, tl81, tl100, tl1000, tl9999, tlm1, tlm9, tlm50, tl2147483647]; omega)) (by first | omega | assumption | (try simp only [tl0, tl1, tl2, tl3, tl4, tl5, tl6, tl8, tl9, tl10, tl50, tl81, tl100, tl1000, tl9999, tlm1, tlm9, tlm50, tl2147483647]; omega))) (fun z172 hz172 => ?_)
          refine Ok_if ?_ ?_
          · intro h
            have c39 : z171.toInt = z172.toInt := i32eq h
            refine Ok_some ?_
            try dsimp only
            try simp only [tl0, tl1, tl2, tl3, tl4, tl5, tl6, tl8, tl9, tl10, tl50, tl81, tl100, tl1000, tl9999, tlm1, tlm9, tlm50, tl2147483647]
            first | trivial | omega | (simp; done) | (simp; omega) | (repeat' first | assumption | omega | apply And.intro)
          · intro h
            have c40 : z171.toInt ≠ z172.toInt := i32ne h
            refine Ok_some ?_
            try dsimp only
            try simp only [tl0, tl1, tl2, tl3, tl4, tl5, tl6, tl8, tl9, tl10, tl50, tl81, tl100, tl1000, tl9999, tlm1, tlm9, tlm50, tl2147483647]
            first | trivial | omega | (simp; done) | (simp; omega) | (repeat' first | assumption | omega | apply And.intro)
        · intro h
          have c41 : z170.toInt ≠ z113.toInt := i32ne h
          refine Ok_some ?_
          try dsimp only
          try simp only [tl0, tl1, tl2, tl3, tl4, tl5, tl6, tl8, tl9, tl10, tl50, tl81, tl100, tl1000, tl9999, tlm1, tlm9, tlm50, tl2147483647]
          first | trivial | omega | (simp; done) | (simp; omega) | (repeat' first | assumption | omega | apply And.intro)
      · intro h
        have c42 : z168.toInt ≠ z113.toInt := i32ne h
        refine Ok_some ?_
        try dsimp only
        try simp only [tl0, tl1, tl2, tl3, tl4, tl5, tl6, tl8, tl9, tl10, tl50, tl81, tl100, tl1000, tl9999, tlm1, tlm9, tlm50, tl2147483647]
        first | trivial | omega | (simp; done) | (simp; omega) | (repeat' first | assumption | omega | apply And.intro)
  · intro h
    have c43 : z114.toInt ≤ z113.toInt := i32nlt h
    refine Ok_bind (ok_X8_valueNow i2 i5 f12 (by first | omega | assumption | (try simp only [tl0, tl1, tl2, tl3, tl4, tl5, tl6, tl8, tl9, tl10, tl50, tl81, tl100, tl1000, tl9999, tlm1, tlm9, tlm50, tl2147483647]; omega)) (by first | omega | assumption | (try simp only [tl0, tl1, tl2, tl3, tl4, tl5, tl6, tl8, tl9, tl10, tl50, tl81, tl100, tl1000, tl9999, tlm1, tlm9, tlm50, tl2147483647]; omega))) (fun z119 hz119 => ?_)
    refine Ok_jn (fun k120 wk120 => ?_)
    refine Ok_if ?_ ?_
    · intro h
      have c44 : z119.toInt = z113.toInt := i32eq h
      rw [wk120]
      show Ok ((fX8_layerNow i2 i5 f11 f12 i6).bind (fun z123 => jn (fun (i126 : Int32) => if (1 : Int32) = i126 then (k115 (1 : Int32)) else (k117 ())) (fun (k124 : Int32 → Option (Int32)) => if (0 : Int32) ≤ z123 then (k124 (0 : Int32)) else (k124 (1 : Int32))))) _
      refine Ok_bind (ok_X8_layerNow i2 i5 f11 f12 i6 (by first | omega | assumption | (try simp only [tl0, tl1, tl2, tl3, tl4, tl5, tl6, tl8, tl9, tl10, tl50, tl81, tl100, tl1000, tl9999, tlm1, tlm9, tlm50, tl2147483647]; omega)) (by first | omega | assumption | (try simp only [tl0, tl1, tl2, tl3, tl4, tl5, tl6, tl8, tl9, tl10, tl50, tl81, tl100, tl1000, tl9999, tlm1, tlm9, tlm50, tl2147483647]; omega))) (fun z123 hz123 => ?_)
      refine Ok_jn (fun k124 wk124 => ?_)
      refine Ok_if ?_ ?_
      · intro h
        have c45 : 0 ≤ z123.toInt := i32le h
        rw [wk124]
        show Ok (if (1 : Int32) = (0 : Int32) then (k115 (1 : Int32)) else (k117 ())) _
        refine Ok_if ?_ ?_
        · intro h
          exact absurd h (by decide)
        · intro h
          rw [wk117]
          show Ok (k115 (0 : Int32)) _
          rw [wk115]
          show Ok (nm (i112 &&& (0 : Int32)) (fun (i128 : Int32) => LX8_isSoundNow_L158  i2 i5 i6 f12 600 i128 (0 : Int32) (fun (i166 : Int32) => if i166 = (0 : Int32) then (some (0 : Int32)) else ((fX8_endNow i2 i5 i6 f11 (0 : Int32)).bind (fun z167 => (fX8_through i2 f11 z167).bind (fun z168 => if z168 = z113 then ((fX8_endNow i2 i5 i6 f11 (1 : Int32)).bind (fun z169 => (fX8_through i2 f11 z169).bind (fun z170 => if z170 = z113 then ((fX8_partsNow i2 i5 i6 f12 (2 : Int32)).bind (fun z171 => (fX8_valueNow i2 i5 f12).bind (fun z172 => if z171 = z172 then (some (1 : Int32)) else (some (0 : Int32))))) else (some (0 : Int32))))) else (some (0 : Int32)))))))) _
          refine Ok_nm (fun i128 wi128 => ?_)
          have qi128 := i32eq wi128
          try (have e57 := sh9 (x := i2) (by omega) (by omega))
          refine okL_X8_isSoundNow_L158 i2 i5 i6 f12 (by first | omega | assumption | (try simp only [tl0, tl1, tl2, tl3, tl4, tl5, tl6, tl8, tl9, tl10, tl50, tl81, tl100, tl1000, tl9999, tlm1, tlm9, tlm50, tl2147483647]; omega)) (by first | omega | assumption | (try simp only [tl0, tl1, tl2, tl3, tl4, tl5, tl6, tl8, tl9, tl10, tl50, tl81, tl100, tl1000, tl9999, tlm1, tlm9, tlm50, tl2147483647]; omega)) (by first | omega | assumption | (try simp only [tl0, tl1, tl2, tl3, tl4, tl5, tl6, tl8, tl9, tl10, tl50, tl81, tl100, tl1000, tl9999, tlm1, tlm9, tlm50, tl2147483647]; omega)) (by first | omega | assumption | (try simp only [tl0, tl1, tl2, tl3, tl4, tl5, tl6, tl8, tl9, tl10, tl50, tl81, tl100, tl1000, tl9999, tlm1, tlm9, tlm50, tl2147483647]; omega)) ?_ 600 i128 (0 : Int32) (by first | omega | assumption | (try simp only [tl0, tl1, tl2, tl3, tl4, tl5, tl6, tl8, tl9, tl10, tl50, tl81, tl100, tl1000, tl9999, tlm1, tlm9, tlm50, tl2147483647]; omega)) (by first | omega | assumption | (try simp only [tl0, tl1, tl2, tl3, tl4, tl5, tl6, tl8, tl9, tl10, tl50, tl81, tl100, tl1000, tl9999, tlm1, tlm9, tlm50, tl2147483647]; omega)) (by first | omega | assumption | (try simp only [tl0, tl1, tl2, tl3, tl4, tl5, tl6, tl8, tl9, tl10, tl50, tl81, tl100, tl1000, tl9999, tlm1, tlm9, tlm50, tl2147483647]; omega))
          intro i166
          show Ok (if i166 = (0 : Int32) then (some (0 : Int32)) else ((fX8_endNow i2 i5 i6 f11 (0 : Int32)).bind (fun z167 => (fX8_through i2 f11 z167).bind (fun z168 => if z168 = z113 then ((fX8_endNow i2 i5 i6 f11 (1 : Int32)).bind (fun z169 => (fX8_through i2 f11 z169).bind (fun z170 => if z170 = z113 then ((fX8_partsNow i2 i5 i6 f12 (2 : Int32)).bind (fun z171 => (fX8_valueNow i2 i5 f12).bind (fun z172 => if z171 = z172 then (some (1 : Int32)) else (some (0 : Int32))))) else (some (0 : Int32))))) else (some (0 : Int32)))))) _
          refine Ok_if ?_ ?_
          · intro h
            have c58 : i166.toInt = 0 := i32eq h
            refine Ok_some ?_
            try dsimp only
            try simp only [tl0, tl1, tl2, tl3, tl4, tl5, tl6, tl8, tl9, tl10, tl50, tl81, tl100, tl1000, tl9999, tlm1, tlm9, tlm50, tl2147483647]
            first | trivial | omega | (simp; done) | (simp; omega) | (repeat' first | assumption | omega | apply And.intro)
          · intro h
            have c59 : i166.toInt ≠ 0 := i32ne h
            refine Ok_bind (ok_X8_endNow i2 i5 i6 f11 (0 : Int32) (by first | omega | assumption | (try simp only [tl0, tl1, tl2, tl3, tl4, tl5, tl6, tl8, tl9, tl10, tl50, tl81, tl100, tl1000, tl9999, tlm1, tlm9, tlm50, tl2147483647]; omega)) (by first | omega | assumption | (try simp only [tl0, tl1, tl2, tl3, tl4, tl5, tl6, tl8, tl9, tl10, tl50, tl81, tl100, tl1000, tl9999, tlm1, tlm9, tlm50, tl2147483647]; omega)) (by first | omega | assumption | (try simp only [tl0, tl1, tl2, tl3, tl4, tl5, tl6, tl8, tl9, tl10, tl50, tl81, tl100, tl1000, tl9999, tlm1, tlm9, tlm50, tl2147483647]; omega))) (fun z167 hz167 => ?_)
            refine Ok_bind (ok_X8_through i2 f11 z167 (by first | omega | assumption | (try simp only [tl0, tl1, tl2, tl3, tl4, tl5, tl6, tl8, tl9, tl10, tl50, tl81, tl100, tl1000, tl9999, tlm1, tlm9, tlm50, tl2147483647]; omega))) (fun z168 hz168 => ?_)
            refine Ok_if ?_ ?_
            · intro h
              have c60 : z168.toInt = z113.toInt := i32eq h
              refine Ok_bind (ok_X8_endNow i2 i5 i6 f11 (1 : Int32) (by first | omega | assumption | (try simp only [tl0, tl1, tl2, tl3, tl4, tl5, tl6, tl8, tl9, tl10, tl50, tl81, tl100, tl1000, tl9999, tlm1, tlm9, tlm50, tl2147483647]; omega)) (by first | omega | assumption | (try simp only [tl0, tl1, tl2, tl3, tl4, tl5, tl6, tl8, tl9, tl10, tl50, tl81, tl100, tl1000, tl9999, tlm1, tlm9, tlm50, tl2147483647]; omega)) (by first | omega | assumption | (try simp only [tl0, tl1, tl2, tl3, tl4, tl5, tl6, tl8, tl9, tl10, tl50, tl81, tl100, tl1000, tl9999, tlm1, tlm9, tlm50, tl2147483647]; omega))) (fun z169 hz169 => ?_)
              refine Ok_bind (ok_X8_through i2 f11 z169 (by first | omega | assumption | (try simp only [tl0, tl1, tl2, tl3, tl4, tl5, tl6, tl8, tl9, tl10, tl50, tl81, tl100, tl1000, tl9999, tlm1, tlm9, tlm50, tl2147483647]; omega))) (fun z170 hz170 => ?_)
              refine Ok_if ?_ ?_
              · intro h
                have c61 : z170.toInt = z113.toInt := i32eq h
                refine Ok_bind (ok_X8_partsNow i2 i5 i6 f12 (2 : Int32) (by first | omega | assumption | (try simp only [tl0, tl1, tl2, tl3, tl4, tl5, tl6, tl8, tl9, tl10, tl50, tl81, tl100, tl1000, tl9999, tlm1, tlm9, tlm50, tl2147483647]; omega)) (by first | omega | assumption | (try simp only [tl0, tl1, tl2, tl3, tl4, tl5, tl6, tl8, tl9, tl10, tl50, tl81, tl100, tl1000, tl9999, tlm1, tlm9, tlm50, tl2147483647]; omega)) (by first | omega | assumption | (try simp only [tl0, tl1, tl2, tl3, tl4, tl5, tl6, tl8, tl9, tl10, tl50, tl81, tl100, tl1000, tl9999, tlm1, tlm9, tlm50, tl2147483647]; omega)) (by first | omega | assumption | (try simp only [tl0, tl1, tl2, tl3, tl4, tl5, tl6, tl8, tl9, tl10, tl50, tl81, tl100, tl1000, tl9999, tlm1, tlm9, tlm50, tl2147483647]; omega))) (fun z171 hz171 => ?_)
                refine Ok_bind (ok_X8_valueNow i2 i5 f12 (by first | omega | assumption | (try simp only [tl0, tl1, tl2, tl3, tl4, tl5, tl6, tl8, tl9, tl10, tl50, tl81, tl100, tl1000, tl9999, tlm1, tlm9, tlm50, tl2147483647]; omega)) (by first | omega | assumption | (try simp only [tl0, tl1, tl2, tl3, tl4, tl5, tl6, tl8, tl9, tl10, tl50, tl81, tl100, tl1000, tl9999, tlm1, tlm9, tlm50, tl2147483647]; omega))) (fun z172 hz172 => ?_)
                refine Ok_if ?_ ?_
                · intro h
                  have c62 : z171.toInt = z172.toInt := i32eq h
                  refine Ok_some ?_
                  try dsimp only
                  try simp only [tl0, tl1, tl2, tl3, tl4, tl5, tl6, tl8, tl9, tl10, tl50, tl81, tl100, tl1000, tl9999, tlm1, tlm9, tlm50, tl2147483647]
                  first | trivial | omega | (simp; done) | (simp; omega) | (repeat' first | assumption | omega | apply And.intro)
                · intro h
                  have c63 : z171.toInt ≠ z172.toInt := i32ne h
                  refine Ok_some ?_
                  try dsimp only
                  try simp only [tl0, tl1, tl2, tl3, tl4, tl5, tl6, tl8, tl9, tl10, tl50, tl81, tl100, tl1000, tl9999, tlm1, tlm9, tlm50, tl2147483647]
                  first | trivial | omega | (simp; done) | (simp; omega) | (repeat' first | assumption | omega | apply And.intro)
              · intro h
                have c64 : z170.toInt ≠ z113.toInt := i32ne h
                refine Ok_some ?_
                try dsimp only
                try simp only [tl0, tl1, tl2, tl3, tl4, tl5, tl6, tl8, tl9, tl10, tl50, tl81, tl100, tl1000, tl9999, tlm1, tlm9, tlm50, tl2147483647]
                first | trivial | omega | (simp; done) | (simp; omega) | (repeat' first | assumption | omega | apply And.intro)
            · intro h
              have c65 : z168.toInt ≠ z113.toInt := i32ne h
              refine Ok_some ?_
              try dsimp only
              try simp only [tl0, tl1, tl2, tl3, tl4, tl5, tl6, tl8, tl9, tl10, tl50, tl81, tl100, tl1000, tl9999, tlm1, tlm9, tlm50, tl2147483647]
              first | trivial | omega | (simp; done) | (simp; omega) | (repeat' first | assumption | omega | apply And.intro)
      · intro h
        have c66 : z123.toInt < 0 := i32nle h
        rw [wk124]
        show Ok (if (1 : Int32) = (1 : Int32) then (k115 (1 : Int32)) else (k117 ())) _
        refine Ok_if ?_ ?_
        · intro h
          rw [wk115]
          show Ok (nm (i112 &&& (1 : Int32)) (fun (i128 : Int32) => LX8_isSoundNow_L158  i2 i5 i6 f12 600 i128 (0 : Int32) (fun (i166 : Int32) => if i166 = (0 : Int32) then (some (0 : Int32)) else ((fX8_endNow i2 i5 i6 f11 (0 : Int32)).bind (fun z167 => (fX8_through i2 f11 z167).bind (fun z168 => if z168 = z113 then ((fX8_endNow i2 i5 i6 f11 (1 : Int32)).bind (fun z169 => (fX8_through i2 f11 z169).bind (fun z170 => if z170 = z113 then ((fX8_partsNow i2 i5 i6 f12 (2 : Int32)).bind (fun z171 => (fX8_valueNow i2 i5 f12).bind (fun z172 => if z171 = z172 then (some (1 : Int32)) else (some (0 : Int32))))) else (some (0 : Int32))))) else (some (0 : Int32)))))))) _
          refine Ok_nm (fun i128 wi128 => ?_)
          have qi128 := i32eq wi128
          try (have e68 := sh9 (x := i2) (by omega) (by omega))
          refine okL_X8_isSoundNow_L158 i2 i5 i6 f12 (by first | omega | assumption | (try simp only [tl0, tl1, tl2, tl3, tl4, tl5, tl6, tl8, tl9, tl10, tl50, tl81, tl100, tl1000, tl9999, tlm1, tlm9, tlm50, tl2147483647]; omega)) (by first | omega | assumption | (try simp only [tl0, tl1, tl2, tl3, tl4, tl5, tl6, tl8, tl9, tl10, tl50, tl81, tl100, tl1000, tl9999, tlm1, tlm9, tlm50, tl2147483647]; omega)) (by first | omega | assumption | (try simp only [tl0, tl1, tl2, tl3, tl4, tl5, tl6, tl8, tl9, tl10, tl50, tl81, tl100, tl1000, tl9999, tlm1, tlm9, tlm50, tl2147483647]; omega)) (by first | omega | assumption | (try simp only [tl0, tl1, tl2, tl3, tl4, tl5, tl6, tl8, tl9, tl10, tl50, tl81, tl100, tl1000, tl9999, tlm1, tlm9, tlm50, tl2147483647]; omega)) ?_ 600 i128 (0 : Int32) (by first | omega | assumption | (try simp only [tl0, tl1, tl2, tl3, tl4, tl5, tl6, tl8, tl9, tl10, tl50, tl81, tl100, tl1000, tl9999, tlm1, tlm9, tlm50, tl2147483647]; omega)) (by first | omega | assumption | (try simp only [tl0, tl1, tl2, tl3, tl4, tl5, tl6, tl8, tl9, tl10, tl50, tl81, tl100, tl1000, tl9999, tlm1, tlm9, tlm50, tl2147483647]; omega)) (by first | omega | assumption | (try simp only [tl0, tl1, tl2, tl3, tl4, tl5, tl6, tl8, tl9, tl10, tl50, tl81, tl100, tl1000, tl9999, tlm1, tlm9, tlm50, tl2147483647]; omega))
          intro i166
          show Ok (if i166 = (0 : Int32) then (some (0 : Int32)) else ((fX8_endNow i2 i5 i6 f11 (0 : Int32)).bind (fun z167 => (fX8_through i2 f11 z167).bind (fun z168 => if z168 = z113 then ((fX8_endNow i2 i5 i6 f11 (1 : Int32)).bind (fun z169 => (fX8_through i2 f11 z169).bind (fun z170 => if z170 = z113 then ((fX8_partsNow i2 i5 i6 f12 (2 : Int32)).bind (fun z171 => (fX8_valueNow i2 i5 f12).bind (fun z172 => if z171 = z172 then (some (1 : Int32)) else (some (0 : Int32))))) else (some (0 : Int32))))) else (some (0 : Int32)))))) _
          refine Ok_if ?_ ?_
          · intro h
            have c69 : i166.toInt = 0 := i32eq h
            refine Ok_some ?_
            try dsimp only
            try simp only [tl0, tl1, tl2, tl3, tl4, tl5, tl6, tl8, tl9, tl10, tl50, tl81, tl100, tl1000, tl9999, tlm1, tlm9, tlm50, tl2147483647]
            first | trivial | omega | (simp; done) | (simp; omega) | (repeat' first | assumption | omega | apply And.intro)
          · intro h
            have c70 : i166.toInt ≠ 0 := i32ne h
            refine Ok_bind (ok_X8_endNow i2 i5 i6 f11 (0 : Int32) (by first | omega | assumption | (try simp only [tl0, tl1, tl2, tl3, tl4, tl5, tl6, tl8, tl9, tl10, tl50, tl81, tl100, tl1000, tl9999, tlm1, tlm9, tlm50, tl2147483647]; omega)) (by first | omega | assumption | (try simp only [tl0, tl1, tl2, tl3, tl4, tl5, tl6, tl8, tl9, tl10, tl50, tl81, tl100, tl1000, tl9999, tlm1, tlm9, tlm50, tl2147483647]; omega)) (by first | omega | assumption | (try simp only [tl0, tl1, tl2, tl3, tl4, tl5, tl6, tl8, tl9, tl10, tl50, tl81, tl100, tl1000, tl9999, tlm1, tlm9, tlm50, tl2147483647]; omega))) (fun z167 hz167 => ?_)
            refine Ok_bind (ok_X8_through i2 f11 z167 (by first | omega | assumption | (try simp only [tl0, tl1, tl2, tl3, tl4, tl5, tl6, tl8, tl9, tl10, tl50, tl81, tl100, tl1000, tl9999, tlm1, tlm9, tlm50, tl2147483647]; omega))) (fun z168 hz168 => ?_)
            refine Ok_if ?_ ?_
            · intro h
              have c71 : z168.toInt = z113.toInt := i32eq h
              refine Ok_bind (ok_X8_endNow i2 i5 i6 f11 (1 : Int32) (by first | omega | assumption | (try simp only [tl0, tl1, tl2, tl3, tl4, tl5, tl6, tl8, tl9, tl10, tl50, tl81, tl100, tl1000, tl9999, tlm1, tlm9, tlm50, tl2147483647]; omega)) (by first | omega | assumption | (try simp only [tl0, tl1, tl2, tl3, tl4, tl5, tl6, tl8, tl9, tl10, tl50, tl81, tl100, tl1000, tl9999, tlm1, tlm9, tlm50, tl2147483647]; omega)) (by first | omega | assumption | (try simp only [tl0, tl1, tl2, tl3, tl4, tl5, tl6, tl8, tl9, tl10, tl50, tl81, tl100, tl1000, tl9999, tlm1, tlm9, tlm50, tl2147483647]; omega))) (fun z169 hz169 => ?_)
              refine Ok_bind (ok_X8_through i2 f11 z169 (by first | omega | assumption | (try simp only [tl0, tl1, tl2, tl3, tl4, tl5, tl6, tl8, tl9, tl10, tl50, tl81, tl100, tl1000, tl9999, tlm1, tlm9, tlm50, tl2147483647]; omega))) (fun z170 hz170 => ?_)
              refine Ok_if ?_ ?_
              · intro h
                have c72 : z170.toInt = z113.toInt := i32eq h
                refine Ok_bind (ok_X8_partsNow i2 i5 i6 f12 (2 : Int32) (by first | omega | assumption | (try simp only [tl0, tl1, tl2, tl3, tl4, tl5, tl6, tl8, tl9, tl10, tl50, tl81, tl100, tl1000, tl9999, tlm1, tlm9, tlm50, tl2147483647]; omega)) (by first | omega | assumption | (try simp only [tl0, tl1, tl2, tl3, tl4, tl5, tl6, tl8, tl9, tl10, tl50, tl81, tl100, tl1000, tl9999, tlm1, tlm9, tlm50, tl2147483647]; omega)) (by first | omega | assumption | (try simp only [tl0, tl1, tl2, tl3, tl4, tl5, tl6, tl8, tl9, tl10, tl50, tl81, tl100, tl1000, tl9999, tlm1, tlm9, tlm50, tl2147483647]; omega)) (by first | omega | assumption | (try simp only [tl0, tl1, tl2, tl3, tl4, tl5, tl6, tl8, tl9, tl10, tl50, tl81, tl100, tl1000, tl9999, tlm1, tlm9, tlm50, tl2147483647]; omega))) (fun z171 hz171 => ?_)
                refine Ok_bind (ok_X8_valueNow i2 i5 f12 (by first | omega | assumption | (try simp only [tl0, tl1, tl2, tl3, tl4, tl5, tl6, tl8, tl9, tl10, tl50, tl81, tl100, tl1000, tl9999, tlm1, tlm9, tlm50, tl2147483647]; omega)) (by first | omega | assumption | (try simp only [tl0, tl1, tl2, tl3, tl4, tl5, tl6, tl8, tl9, tl10, tl50, tl81, tl100, tl1000, tl9999, tlm1, tlm9, tlm50, tl2147483647]; omega))) (fun z172 hz172 => ?_)
                refine Ok_if ?_ ?_
                · intro h
                  have c73 : z171.toInt = z172.toInt := i32eq h
                  refine Ok_some ?_
                  try dsimp only
                  try simp only [tl0, tl1, tl2, tl3, tl4, tl5, tl6, tl8, tl9, tl10, tl50, tl81, tl100, tl1000, tl9999, tlm1, tlm9, tlm50, tl2147483647]
                  first | trivial | omega | (simp; done) | (simp; omega) | (repeat' first | assumption | omega | apply And.intro)
                · intro h
                  have c74 : z171.toInt ≠ z172.toInt := i32ne h
                  refine Ok_some ?_
                  try dsimp only
                  try simp only [tl0, tl1, tl2, tl3, tl4, tl5, tl6, tl8, tl9, tl10, tl50, tl81, tl100, tl1000, tl9999, tlm1, tlm9, tlm50, tl2147483647]
                  first | trivial | omega | (simp; done) | (simp; omega) | (repeat' first | assumption | omega | apply And.intro)
              · intro h
                have c75 : z170.toInt ≠ z113.toInt := i32ne h
                refine Ok_some ?_
                try dsimp only
                try simp only [tl0, tl1, tl2, tl3, tl4, tl5, tl6, tl8, tl9, tl10, tl50, tl81, tl100, tl1000, tl9999, tlm1, tlm9, tlm50, tl2147483647]
                first | trivial | omega | (simp; done) | (simp; omega) | (repeat' first | assumption | omega | apply And.intro)
            · intro h
              have c76 : z168.toInt ≠ z113.toInt := i32ne h
              refine Ok_some ?_
              try dsimp only
              try simp only [tl0, tl1, tl2, tl3, tl4, tl5, tl6, tl8, tl9, tl10, tl50, tl81, tl100, tl1000, tl9999, tlm1, tlm9, tlm50, tl2147483647]
              first | trivial | omega | (simp; done) | (simp; omega) | (repeat' first | assumption | omega | apply And.intro)
        · intro h
          exact absurd (show (1 : Int32) = (1 : Int32) by decide) h
    · intro h
      have c87 : z119.toInt ≠ z113.toInt := i32ne h
      rw [wk120]
      show Ok ((fX8_layerNow i2 i5 f11 f12 i6).bind (fun z123 => jn (fun (i126 : Int32) => if (0 : Int32) = i126 then (k115 (1 : Int32)) else (k117 ())) (fun (k124 : Int32 → Option (Int32)) => if (0 : Int32) ≤ z123 then (k124 (0 : Int32)) else (k124 (1 : Int32))))) _
      refine Ok_bind (ok_X8_layerNow i2 i5 f11 f12 i6 (by first | omega | assumption | (try simp only [tl0, tl1, tl2, tl3, tl4, tl5, tl6, tl8, tl9, tl10, tl50, tl81, tl100, tl1000, tl9999, tlm1, tlm9, tlm50, tl2147483647]; omega)) (by first | omega | assumption | (try simp only [tl0, tl1, tl2, tl3, tl4, tl5, tl6, tl8, tl9, tl10, tl50, tl81, tl100, tl1000, tl9999, tlm1, tlm9, tlm50, tl2147483647]; omega))) (fun z123 hz123 => ?_)
      refine Ok_jn (fun k124 wk124 => ?_)
      refine Ok_if ?_ ?_
      · intro h
        have c88 : 0 ≤ z123.toInt := i32le h
        rw [wk124]
        show Ok (if (0 : Int32) = (0 : Int32) then (k115 (1 : Int32)) else (k117 ())) _
        refine Ok_if ?_ ?_
        · intro h
          rw [wk115]
          show Ok (nm (i112 &&& (1 : Int32)) (fun (i128 : Int32) => LX8_isSoundNow_L158  i2 i5 i6 f12 600 i128 (0 : Int32) (fun (i166 : Int32) => if i166 = (0 : Int32) then (some (0 : Int32)) else ((fX8_endNow i2 i5 i6 f11 (0 : Int32)).bind (fun z167 => (fX8_through i2 f11 z167).bind (fun z168 => if z168 = z113 then ((fX8_endNow i2 i5 i6 f11 (1 : Int32)).bind (fun z169 => (fX8_through i2 f11 z169).bind (fun z170 => if z170 = z113 then ((fX8_partsNow i2 i5 i6 f12 (2 : Int32)).bind (fun z171 => (fX8_valueNow i2 i5 f12).bind (fun z172 => if z171 = z172 then (some (1 : Int32)) else (some (0 : Int32))))) else (some (0 : Int32))))) else (some (0 : Int32)))))))) _
          refine Ok_nm (fun i128 wi128 => ?_)
          have qi128 := i32eq wi128
          try (have e90 := sh9 (x := i2) (by omega) (by omega))
          refine okL_X8_isSoundNow_L158 i2 i5 i6 f12 (by first | omega | assumption | (try simp only [tl0, tl1, tl2, tl3, tl4, tl5, tl6, tl8, tl9, tl10, tl50, tl81, tl100, tl1000, tl9999, tlm1, tlm9, tlm50, tl2147483647]; omega)) (by first | omega | assumption | (try simp only [tl0, tl1, tl2, tl3, tl4, tl5, tl6, tl8, tl9, tl10, tl50, tl81, tl100, tl1000, tl9999, tlm1, tlm9, tlm50, tl2147483647]; omega)) (by first | omega | assumption | (try simp only [tl0, tl1, tl2, tl3, tl4, tl5, tl6, tl8, tl9, tl10, tl50, tl81, tl100, tl1000, tl9999, tlm1, tlm9, tlm50, tl2147483647]; omega)) (by first | omega | assumption | (try simp only [tl0, tl1, tl2, tl3, tl4, tl5, tl6, tl8, tl9, tl10, tl50, tl81, tl100, tl1000, tl9999, tlm1, tlm9, tlm50, tl2147483647]; omega)) ?_ 600 i128 (0 : Int32) (by first | omega | assumption | (try simp only [tl0, tl1, tl2, tl3, tl4, tl5, tl6, tl8, tl9, tl10, tl50, tl81, tl100, tl1000, tl9999, tlm1, tlm9, tlm50, tl2147483647]; omega)) (by first | omega | assumption | (try simp only [tl0, tl1, tl2, tl3, tl4, tl5, tl6, tl8, tl9, tl10, tl50, tl81, tl100, tl1000, tl9999, tlm1, tlm9, tlm50, tl2147483647]; omega)) (by first | omega | assumption | (try simp only [tl0, tl1, tl2, tl3, tl4, tl5, tl6, tl8, tl9, tl10, tl50, tl81, tl100, tl1000, tl9999, tlm1, tlm9, tlm50, tl2147483647]; omega))
          intro i166
          show Ok (if i166 = (0 : Int32) then (some (0 : Int32)) else ((fX8_endNow i2 i5 i6 f11 (0 : Int32)).bind (fun z167 => (fX8_through i2 f11 z167).bind (fun z168 => if z168 = z113 then ((fX8_endNow i2 i5 i6 f11 (1 : Int32)).bind (fun z169 => (fX8_through i2 f11 z169).bind (fun z170 => if z170 = z113 then ((fX8_partsNow i2 i5 i6 f12 (2 : Int32)).bind (fun z171 => (fX8_valueNow i2 i5 f12).bind (fun z172 => if z171 = z172 then (some (1 : Int32)) else (some (0 : Int32))))) else (some (0 : Int32))))) else (some (0 : Int32)))))) _
          refine Ok_if ?_ ?_
          · intro h
            have c91 : i166.toInt = 0 := i32eq h
            refine Ok_some ?_
            try dsimp only
            try simp only [tl0, tl1, tl2, tl3, tl4, tl5, tl6, tl8, tl9, tl10, tl50, tl81, tl100, tl1000, tl9999, tlm1, tlm9, tlm50, tl2147483647]
            first | trivial | omega | (simp; done) | (simp; omega) | (repeat' first | assumption | omega | apply And.intro)
          · intro h
            have c92 : i166.toInt ≠ 0 := i32ne h
            refine Ok_bind (ok_X8_endNow i2 i5 i6 f11 (0 : Int32) (by first | omega | assumption | (try simp only [tl0, tl1, tl2, tl3, tl4, tl5, tl6, tl8, tl9, tl10, tl50, tl81, tl100, tl1000, tl9999, tlm1, tlm9, tlm50, tl2147483647]; omega)) (by first | omega | assumption | (try simp only [tl0, tl1, tl2, tl3, tl4, tl5, tl6, tl8, tl9, tl10, tl50, tl81, tl100, tl1000, tl9999, tlm1, tlm9, tlm50, tl2147483647]; omega)) (by first | omega | assumption | (try simp only [tl0, tl1, tl2, tl3, tl4, tl5, tl6, tl8, tl9, tl10, tl50, tl81, tl100, tl1000, tl9999, tlm1, tlm9, tlm50, tl2147483647]; omega))) (fun z167 hz167 => ?_)
            refine Ok_bind (ok_X8_through i2 f11 z167 (by first | omega | assumption | (try simp only [tl0, tl1, tl2, tl3, tl4, tl5, tl6, tl8, tl9, tl10, tl50, tl81, tl100, tl1000, tl9999, tlm1, tlm9, tlm50, tl2147483647]; omega))) (fun z168 hz168 => ?_)
            refine Ok_if ?_ ?_
            · intro h
              have c93 : z168.toInt = z113.toInt := i32eq h
              refine Ok_bind (ok_X8_endNow i2 i5 i6 f11 (1 : Int32) (by first | omega | assumption | (try simp only [tl0, tl1, tl2, tl3, tl4, tl5, tl6, tl8, tl9, tl10, tl50, tl81, tl100, tl1000, tl9999, tlm1, tlm9, tlm50, tl2147483647]; omega)) (by first | omega | assumption | (try simp only [tl0, tl1, tl2, tl3, tl4, tl5, tl6, tl8, tl9, tl10, tl50, tl81, tl100, tl1000, tl9999, tlm1, tlm9, tlm50, tl2147483647]; omega)) (by first | omega | assumption | (try simp only [tl0, tl1, tl2, tl3, tl4, tl5, tl6, tl8, tl9, tl10, tl50, tl81, tl100, tl1000, tl9999, tlm1, tlm9, tlm50, tl2147483647]; omega))) (fun z169 hz169 => ?_)
              refine Ok_bind (ok_X8_through i2 f11 z169 (by first | omega | assumption | (try simp only [tl0, tl1, tl2, tl3, tl4, tl5, tl6, tl8, tl9, tl10, tl50, tl81, tl100, tl1000, tl9999, tlm1, tlm9, tlm50, tl2147483647]; omega))) (fun z170 hz170 => ?_)
              refine Ok_if ?_ ?_
              · intro h
                have c94 : z170.toInt = z113.toInt := i32eq h
                refine Ok_bind (ok_X8_partsNow i2 i5 i6 f12 (2 : Int32) (by first | omega | assumption | (try simp only [tl0, tl1, tl2, tl3, tl4, tl5, tl6, tl8, tl9, tl10, tl50, tl81, tl100, tl1000, tl9999, tlm1, tlm9, tlm50, tl2147483647]; omega)) (by first | omega | assumption | (try simp only [tl0, tl1, tl2, tl3, tl4, tl5, tl6, tl8, tl9, tl10, tl50, tl81, tl100, tl1000, tl9999, tlm1, tlm9, tlm50, tl2147483647]; omega)) (by first | omega | assumption | (try simp only [tl0, tl1, tl2, tl3, tl4, tl5, tl6, tl8, tl9, tl10, tl50, tl81, tl100, tl1000, tl9999, tlm1, tlm9, tlm50, tl2147483647]; omega)) (by first | omega | assumption | (try simp only [tl0, tl1, tl2, tl3, tl4, tl5, tl6, tl8, tl9, tl10, tl50, tl81, tl100, tl1000, tl9999, tlm1, tlm9, tlm50, tl2147483647]; omega))) (fun z171 hz171 => ?_)
                refine Ok_bind (ok_X8_valueNow i2 i5 f12 (by first | omega | assumption | (try simp only [tl0, tl1, tl2, tl3, tl4, tl5, tl6, tl8, tl9, tl10, tl50, tl81, tl100, tl1000, tl9999, tlm1, tlm9, tlm50, tl2147483647]; omega)) (by first | omega | assumption | (try simp only [tl0, tl1, tl2, tl3, tl4, tl5, tl6, tl8, tl9, tl10, tl50, tl81, tl100, tl1000, tl9999, tlm1, tlm9, tlm50, tl2147483647]; omega))) (fun z172 hz172 => ?_)
                refine Ok_if ?_ ?_
                · intro h
                  have c95 : z171.toInt = z172.toInt := i32eq h
                  refine Ok_some ?_
                  try dsimp only
                  try simp only [tl0, tl1, tl2, tl3, tl4, tl5, tl6, tl8, tl9, tl10, tl50, tl81, tl100, tl1000, tl9999, tlm1, tlm9, tlm50, tl2147483647]
                  first | trivial | omega | (simp; done) | (simp; omega) | (repeat' first | assumption | omega | apply And.intro)
                · intro h
                  have c96 : z171.toInt ≠ z172.toInt := i32ne h
                  refine Ok_some ?_
                  try dsimp only
                  try simp only [tl0, tl1, tl2, tl3, tl4, tl5, tl6, tl8, tl9, tl10, tl50, tl81, tl100, tl1000, tl9999, tlm1, tlm9, tlm50, tl2147483647]
                  first | trivial | omega | (simp; done) | (simp; omega) | (repeat' first | assumption | omega | apply And.intro)
              · intro h
                have c97 : z170.toInt ≠ z113.toInt := i32ne h
                refine Ok_some ?_
                try dsimp only
                try simp only [tl0, tl1, tl2, tl3, tl4, tl5, tl6, tl8, tl9, tl10, tl50, tl81, tl100, tl1000, tl9999, tlm1, tlm9, tlm50, tl2147483647]
                first | trivial | omega | (simp; done) | (simp; omega) | (repeat' first | assumption | omega | apply And.intro)
            · intro h
              have c98 : z168.toInt ≠ z113.toInt := i32ne h
              refine Ok_some ?_
              try dsimp only
              try simp only [tl0, tl1, tl2, tl3, tl4, tl5, tl6, tl8, tl9, tl10, tl50, tl81, tl100, tl1000, tl9999, tlm1, tlm9, tlm50, tl2147483647]
              first | trivial | omega | (simp; done) | (simp; omega) | (repeat' first | assumption | omega | apply And.intro)
        · intro h
          exact absurd (show (0 : Int32) = (0 : Int32) by decide) h
      · intro h
        have c109 : z123.toInt < 0 := i32nle h
        rw [wk124]
        show Ok (if (0 : Int32) = (1 : Int32) then (k115 (1 : Int32)) else (k117 ())) _
        refine Ok_if ?_ ?_
        · intro h
          exact absurd h (by decide)
        · intro h
          rw [wk117]
          show Ok (k115 (0 : Int32)) _
          rw [wk115]
          show Ok (nm (i112 &&& (0 : Int32)) (fun (i128 : Int32) => LX8_isSoundNow_L158  i2 i5 i6 f12 600 i128 (0 : Int32) (fun (i166 : Int32) => if i166 = (0 : Int32) then (some (0 : Int32)) else ((fX8_endNow i2 i5 i6 f11 (0 : Int32)).bind (fun z167 => (fX8_through i2 f11 z167).bind (fun z168 => if z168 = z113 then ((fX8_endNow i2 i5 i6 f11 (1 : Int32)).bind (fun z169 => (fX8_through i2 f11 z169).bind (fun z170 => if z170 = z113 then ((fX8_partsNow i2 i5 i6 f12 (2 : Int32)).bind (fun z171 => (fX8_valueNow i2 i5 f12).bind (fun z172 => if z171 = z172 then (some (1 : Int32)) else (some (0 : Int32))))) else (some (0 : Int32))))) else (some (0 : Int32)))))))) _
          refine Ok_nm (fun i128 wi128 => ?_)
          have qi128 := i32eq wi128
          try (have e121 := sh9 (x := i2) (by omega) (by omega))
          refine okL_X8_isSoundNow_L158 i2 i5 i6 f12 (by first | omega | assumption | (try simp only [tl0, tl1, tl2, tl3, tl4, tl5, tl6, tl8, tl9, tl10, tl50, tl81, tl100, tl1000, tl9999, tlm1, tlm9, tlm50, tl2147483647]; omega)) (by first | omega | assumption | (try simp only [tl0, tl1, tl2, tl3, tl4, tl5, tl6, tl8, tl9, tl10, tl50, tl81, tl100, tl1000, tl9999, tlm1, tlm9, tlm50, tl2147483647]; omega)) (by first | omega | assumption | (try simp only [tl0, tl1, tl2, tl3, tl4, tl5, tl6, tl8, tl9, tl10, tl50, tl81, tl100, tl1000, tl9999, tlm1, tlm9, tlm50, tl2147483647]; omega)) (by first | omega | assumption | (try simp only [tl0, tl1, tl2, tl3, tl4, tl5, tl6, tl8, tl9, tl10, tl50, tl81, tl100, tl1000, tl9999, tlm1, tlm9, tlm50, tl2147483647]; omega)) ?_ 600 i128 (0 : Int32) (by first | omega | assumption | (try simp only [tl0, tl1, tl2, tl3, tl4, tl5, tl6, tl8, tl9, tl10, tl50, tl81, tl100, tl1000, tl9999, tlm1, tlm9, tlm50, tl2147483647]; omega)) (by first | omega | assumption | (try simp only [tl0, tl1, tl2, tl3, tl4, tl5, tl6, tl8, tl9, tl10, tl50, tl81, tl100, tl1000, tl9999, tlm1, tlm9, tlm50, tl2147483647]; omega)) (by first | omega | assumption | (try simp only [tl0, tl1, tl2, tl3, tl4, tl5, tl6, tl8, tl9, tl10, tl50, tl81, tl100, tl1000, tl9999, tlm1, tlm9, tlm50, tl2147483647]; omega))
          intro i166
          show Ok (if i166 = (0 : Int32) then (some (0 : Int32)) else ((fX8_endNow i2 i5 i6 f11 (0 : Int32)).bind (fun z167 => (fX8_through i2 f11 z167).bind (fun z168 => if z168 = z113 then ((fX8_endNow i2 i5 i6 f11 (1 : Int32)).bind (fun z169 => (fX8_through i2 f11 z169).bind (fun z170 => if z170 = z113 then ((fX8_partsNow i2 i5 i6 f12 (2 : Int32)).bind (fun z171 => (fX8_valueNow i2 i5 f12).bind (fun z172 => if z171 = z172 then (some (1 : Int32)) else (some (0 : Int32))))) else (some (0 : Int32))))) else (some (0 : Int32)))))) _
          refine Ok_if ?_ ?_
          · intro h
            have c122 : i166.toInt = 0 := i32eq h
            refine Ok_some ?_
            try dsimp only
            try simp only [tl0, tl1, tl2, tl3, tl4, tl5, tl6, tl8, tl9, tl10, tl50, tl81, tl100, tl1000, tl9999, tlm1, tlm9, tlm50, tl2147483647]
            first | trivial | omega | (simp; done) | (simp; omega) | (repeat' first | assumption | omega | apply And.intro)
          · intro h
            have c123 : i166.toInt ≠ 0 := i32ne h
            refine Ok_bind (ok_X8_endNow i2 i5 i6 f11 (0 : Int32) (by first | omega | assumption | (try simp only [tl0, tl1, tl2, tl3, tl4, tl5, tl6, tl8, tl9, tl10, tl50, tl81, tl100, tl1000, tl9999, tlm1, tlm9, tlm50, tl2147483647]; omega)) (by first | omega | assumption | (try simp only [tl0, tl1, tl2, tl3, tl4, tl5, tl6, tl8, tl9, tl10, tl50, tl81, tl100, tl1000, tl9999, tlm1, tlm9, tlm50, tl2147483647]; omega)) (by first | omega | assumption | (try simp only [tl0, tl1, tl2, tl3, tl4, tl5, tl6, tl8, tl9, tl10, tl50, tl81, tl100, tl1000, tl9999, tlm1, tlm9, tlm50, tl2147483647]; omega))) (fun z167 hz167 => ?_)
            refine Ok_bind (ok_X8_through i2 f11 z167 (by first | omega | assumption | (try simp only [tl0, tl1, tl2, tl3, tl4, tl5, tl6, tl8, tl9, tl10, tl50, tl81, tl100, tl1000, tl9999, tlm1, tlm9, tlm50, tl2147483647]; omega))) (fun z168 hz168 => ?_)
            refine Ok_if ?_ ?_
            · intro h
              have c124 : z168.toInt = z113.toInt := i32eq h
              refine Ok_bind (ok_X8_endNow i2 i5 i6 f11 (1 : Int32) (by first | omega | assumption | (try simp only [tl0, tl1, tl2, tl3, tl4, tl5, tl6, tl8, tl9, tl10, tl50, tl81, tl100, tl1000, tl9999, tlm1, tlm9, tlm50, tl2147483647]; omega)) (by first | omega | assumption | (try simp only [tl0, tl1, tl2, tl3, tl4, tl5, tl6, tl8, tl9, tl10, tl50, tl81, tl100, tl1000, tl9999, tlm1, tlm9, tlm50, tl2147483647]; omega)) (by first | omega | assumption | (try simp only [tl0, tl1, tl2, tl3, tl4, tl5, tl6, tl8, tl9, tl10, tl50, tl81, tl100, tl1000, tl9999, tlm1, tlm9, tlm50, tl2147483647]; omega))) (fun z169 hz169 => ?_)
              refine Ok_bind (ok_X8_through i2 f11 z169 (by first | omega | assumption | (try simp only [tl0, tl1, tl2, tl3, tl4, tl5, tl6, tl8, tl9, tl10, tl50, tl81, tl100, tl1000, tl9999, tlm1, tlm9, tlm50, tl2147483647]; omega))) (fun z170 hz170 => ?_)
              refine Ok_if ?_ ?_
              · intro h
                have c125 : z170.toInt = z113.toInt := i32eq h
                refine Ok_bind (ok_X8_partsNow i2 i5 i6 f12 (2 : Int32) (by first | omega | assumption | (try simp only [tl0, tl1, tl2, tl3, tl4, tl5, tl6, tl8, tl9, tl10, tl50, tl81, tl100, tl1000, tl9999, tlm1, tlm9, tlm50, tl2147483647]; omega)) (by first | omega | assumption | (try simp only [tl0, tl1, tl2, tl3, tl4, tl5, tl6, tl8, tl9, tl10, tl50, tl81, tl100, tl1000, tl9999, tlm1, tlm9, tlm50, tl2147483647]; omega)) (by first | omega | assumption | (try simp only [tl0, tl1, tl2, tl3, tl4, tl5, tl6, tl8, tl9, tl10, tl50, tl81, tl100, tl1000, tl9999, tlm1, tlm9, tlm50, tl2147483647]; omega)) (by first | omega | assumption | (try simp only [tl0, tl1, tl2, tl3, tl4, tl5, tl6, tl8, tl9, tl10, tl50, tl81, tl100, tl1000, tl9999, tlm1, tlm9, tlm50, tl2147483647]; omega))) (fun z171 hz171 => ?_)
                refine Ok_bind (ok_X8_valueNow i2 i5 f12 (by first | omega | assumption | (try simp only [tl0, tl1, tl2, tl3, tl4, tl5, tl6, tl8, tl9, tl10, tl50, tl81, tl100, tl1000, tl9999, tlm1, tlm9, tlm50, tl2147483647]; omega)) (by first | omega | assumption | (try simp only [tl0, tl1, tl2, tl3, tl4, tl5, tl6, tl8, tl9, tl10, tl50, tl81, tl100, tl1000, tl9999, tlm1, tlm9, tlm50, tl2147483647]; omega))) (fun z172 hz172 => ?_)
                refine Ok_if ?_ ?_
                · intro h
                  have c126 : z171.toInt = z172.toInt := i32eq h
                  refine Ok_some ?_
                  try dsimp only
                  try simp only [tl0, tl1, tl2, tl3, tl4, tl5, tl6, tl8, tl9, tl10, tl50, tl81, tl100, tl1000, tl9999, tlm1, tlm9, tlm50, tl2147483647]
                  first | trivial | omega | (simp; done) | (simp; omega) | (repeat' first | assumption | omega | apply And.intro)
                · intro h
                  have c127 : z171.toInt ≠ z172.toInt := i32ne h
                  refine Ok_some ?_
                  try dsimp only
                  try simp only [tl0, tl1, tl2, tl3, tl4, tl5, tl6, tl8, tl9, tl10, tl50, tl81, tl100, tl1000, tl9999, tlm1, tlm9, tlm50, tl2147483647]
                  first | trivial | omega | (simp; done) | (simp; omega) | (repeat' first | assumption | omega | apply And.intro)
              · intro h
                have c128 : z170.toInt ≠ z113.toInt := i32ne h
                refine Ok_some ?_
                try dsimp only
                try simp only [tl0, tl1, tl2, tl3, tl4, tl5, tl6, tl8, tl9, tl10, tl50, tl81, tl100, tl1000, tl9999, tlm1, tlm9, tlm50, tl2147483647]
                first | trivial | omega | (simp; done) | (simp; omega) | (repeat' first | assumption | omega | apply And.intro)
            · intro h
              have c129 : z168.toInt ≠ z113.toInt := i32ne h
              refine Ok_some ?_
              try dsimp only
              try simp only [tl0, tl1, tl2, tl3, tl4, tl5, tl6, tl8, tl9, tl10, tl50, tl81, tl100, tl1000, tl9999, tlm1, tlm9, tlm50, tl2147483647]
              first | trivial | omega | (simp; done) | (simp; omega) | (repeat' first | assumption | omega | apply And.intro)
set_option maxRecDepth 4000 in
theorem ok_X8_isSound (i2 : Int32) (i5 : Int32) (i6 : Int32) (f11 : Nat → Int32) (f12 : Nat → Int32) (h0 : 2 ≤ i2.toInt ∧ i2.toInt ≤ 9) (h1 : 0 ≤ i5.toInt ∧ i5.toInt ≤ 8) (h2 : 0 ≤ i6.toInt ∧ i6.toInt ≤ 8) (h3 : PFx i2 i5 i6 f12) : Ok (fX8_isSound i2 i5 i6 f11 f12) (fun z => True) := by
  unfold fX8_isSound
  refine Ok_bind (ok_X8_isSoundNow i2 i5 i6 f11 f12 (by first | omega | assumption | (try simp only [tl0, tl1, tl2, tl3, tl4, tl5, tl6, tl8, tl9, tl10, tl50, tl81, tl100, tl1000, tl9999, tlm1, tlm9, tlm50, tl2147483647]; omega)) (by first | omega | assumption | (try simp only [tl0, tl1, tl2, tl3, tl4, tl5, tl6, tl8, tl9, tl10, tl50, tl81, tl100, tl1000, tl9999, tlm1, tlm9, tlm50, tl2147483647]; omega)) (by first | omega | assumption | (try simp only [tl0, tl1, tl2, tl3, tl4, tl5, tl6, tl8, tl9, tl10, tl50, tl81, tl100, tl1000, tl9999, tlm1, tlm9, tlm50, tl2147483647]; omega)) (by first | omega | assumption | (try simp only [tl0, tl1, tl2, tl3, tl4, tl5, tl6, tl8, tl9, tl10, tl50, tl81, tl100, tl1000, tl9999, tlm1, tlm9, tlm50, tl2147483647]; omega))) (fun z13 hz13 => ?_)
  try dsimp only at hz13
  try simp only [tl0, tl1, tl2, tl3, tl4, tl5, tl6, tl8, tl9, tl10, tl50, tl81, tl100, tl1000, tl9999, tlm1, tlm9, tlm50, tl2147483647] at hz13
  refine Ok_bz (by first | exact Or.inl rfl | exact Or.inr rfl | exact bz_of (by omega) (by omega)) ?_
  exact Ok_some trivial
set_option maxRecDepth 4000 in
theorem ok_X8_parts (i3 : Int32) (i6 : Int32) (i7 : Int32) (f12 : Nat → Int32) (i2 : Int32) (h0 : 2 ≤ i3.toInt ∧ i3.toInt ≤ 9) (h1 : 0 ≤ i6.toInt ∧ i6.toInt ≤ 8) (h2 : 0 ≤ i7.toInt ∧ i7.toInt ≤ 8) (h3 : PFx i3 i6 i7 f12) : Ok (fX8_parts i3 i6 i7 f12 i2) (fun z => True) := by
  unfold fX8_parts
  refine Ok_jn (fun k13 wk13 => ?_)
  refine Ok_if ?_ ?_
  · intro h
    have c130 : i2.toInt = 0 := i32eq h
    rw [wk13]
    show Ok ((fX8_partsNow i3 i6 i7 f12 (1 : Int32)).bind (fun z16 => some z16)) _
    refine Ok_bind (ok_X8_partsNow i3 i6 i7 f12 (1 : Int32) (by first | omega | assumption | (try simp only [tl0, tl1, tl2, tl3, tl4, tl5, tl6, tl8, tl9, tl10, tl50, tl81, tl100, tl1000, tl9999, tlm1, tlm9, tlm50, tl2147483647]; omega)) (by first | omega | assumption | (try simp only [tl0, tl1, tl2, tl3, tl4, tl5, tl6, tl8, tl9, tl10, tl50, tl81, tl100, tl1000, tl9999, tlm1, tlm9, tlm50, tl2147483647]; omega)) (by first | omega | assumption | (try simp only [tl0, tl1, tl2, tl3, tl4, tl5, tl6, tl8, tl9, tl10, tl50, tl81, tl100, tl1000, tl9999, tlm1, tlm9, tlm50, tl2147483647]; omega)) (by first | omega | assumption | (try simp only [tl0, tl1, tl2, tl3, tl4, tl5, tl6, tl8, tl9, tl10, tl50, tl81, tl100, tl1000, tl9999, tlm1, tlm9, tlm50, tl2147483647]; omega))) (fun z16 hz16 => ?_)
    exact Ok_some trivial
  · intro h
    have c131 : i2.toInt ≠ 0 := i32ne h
    rw [wk13]
    show Ok ((fX8_partsNow i3 i6 i7 f12 (0 : Int32)).bind (fun z16 => some z16)) _
    refine Ok_bind (ok_X8_partsNow i3 i6 i7 f12 (0 : Int32) (by first | omega | assumption | (try simp only [tl0, tl1, tl2, tl3, tl4, tl5, tl6, tl8, tl9, tl10, tl50, tl81, tl100, tl1000, tl9999, tlm1, tlm9, tlm50, tl2147483647]; omega)) (by first | omega | assumption | (try simp only [tl0, tl1, tl2, tl3, tl4, tl5, tl6, tl8, tl9, tl10, tl50, tl81, tl100, tl1000, tl9999, tlm1, tlm9, tlm50, tl2147483647]; omega)) (by first | omega | assumption | (try simp only [tl0, tl1, tl2, tl3, tl4, tl5, tl6, tl8, tl9, tl10, tl50, tl81, tl100, tl1000, tl9999, tlm1, tlm9, tlm50, tl2147483647]; omega)) (by first | omega | assumption | (try simp only [tl0, tl1, tl2, tl3, tl4, tl5, tl6, tl8, tl9, tl10, tl50, tl81, tl100, tl1000, tl9999, tlm1, tlm9, tlm50, tl2147483647]; omega))) (fun z16 hz16 => ?_)
    exact Ok_some trivial
set_option maxRecDepth 4000 in
theorem ok_X8_partsText (i2 : Int32) (i5 : Int32) (i6 : Int32) (f11 : Nat → Int32) (h0 : 2 ≤ i2.toInt ∧ i2.toInt ≤ 9) (h1 : 0 ≤ i5.toInt ∧ i5.toInt ≤ 8) (h2 : 0 ≤ i6.toInt ∧ i6.toInt ≤ 8) (h3 : PFx i2 i5 i6 f11) : Ok (fX8_partsText i2 i5 i6 f11) (fun z => True) := by
  unfold fX8_partsText
  refine Ok_bind (ok_X8_partsNowText i2 i5 i6 f11 (by first | omega | assumption | (try simp only [tl0, tl1, tl2, tl3, tl4, tl5, tl6, tl8, tl9, tl10, tl50, tl81, tl100, tl1000, tl9999, tlm1, tlm9, tlm50, tl2147483647]; omega)) (by first | omega | assumption | (try simp only [tl0, tl1, tl2, tl3, tl4, tl5, tl6, tl8, tl9, tl10, tl50, tl81, tl100, tl1000, tl9999, tlm1, tlm9, tlm50, tl2147483647]; omega)) (by first | omega | assumption | (try simp only [tl0, tl1, tl2, tl3, tl4, tl5, tl6, tl8, tl9, tl10, tl50, tl81, tl100, tl1000, tl9999, tlm1, tlm9, tlm50, tl2147483647]; omega)) (by first | omega | assumption | (try simp only [tl0, tl1, tl2, tl3, tl4, tl5, tl6, tl8, tl9, tl10, tl50, tl81, tl100, tl1000, tl9999, tlm1, tlm9, tlm50, tl2147483647]; omega))) (fun z12 hz12 => ?_)
  exact Ok_some trivial
set_option maxRecDepth 4000 in
theorem okL_X8_digest_L11 (i2 : Int32) (i5 : Int32) (i6 : Int32) (f11 : Nat → Int32) {P : (Int64) → Prop} {k1 : Int64 → Option (Int64)} (g0 : 2 ≤ i2.toInt ∧ i2.toInt ≤ 9) (g1 : 0 ≤ i5.toInt ∧ i5.toInt ≤ 8) (g2 : 0 ≤ i6.toInt ∧ i6.toInt ≤ 8) (hk1 : ∀ (y1 : Int64), Ok (k1 y1) P) : ∀ (n : Nat) (l28 : Int64) (i29 : Int32), 0 ≤ i29.toInt → 5 - i29.toInt < n → 0 < n → Ok (LX8_digest_L11 i2 i5 i6 f11 n l28 i29 k1) P := by
  intro n
  induction n with
  | zero => intro l28 i29 v0 hm h0; exact absurd h0 (Nat.lt_irrefl 0)
  | succ n ih =>
    intro l28 i29 v0 hm h0
    show Ok (BX8_digest_L11 i2 i5 i6 f11 l28 i29 (fun l28 i29 => LX8_digest_L11 i2 i5 i6 f11 n l28 i29 k1) k1) _
    unfold BX8_digest_L11
    refine Ok_if ?_ ?_
    · intro h
      have c132 : 5 ≤ i29.toInt := i32le h
      exact hk1 l28
    · intro h
      have c133 : i29.toInt < 5 := i32nle h
      refine Ok_bind (ok_X8_toldNow i2 i5 i6 f11 i29 (by first | omega | assumption | (try simp only [tl0, tl1, tl2, tl3, tl4, tl5, tl6, tl8, tl9, tl10, tl50, tl81, tl100, tl1000, tl9999, tlm1, tlm9, tlm50, tl2147483647]; omega)) (by first | omega | assumption | (try simp only [tl0, tl1, tl2, tl3, tl4, tl5, tl6, tl8, tl9, tl10, tl50, tl81, tl100, tl1000, tl9999, tlm1, tlm9, tlm50, tl2147483647]; omega)) (by first | omega | assumption | (try simp only [tl0, tl1, tl2, tl3, tl4, tl5, tl6, tl8, tl9, tl10, tl50, tl81, tl100, tl1000, tl9999, tlm1, tlm9, tlm50, tl2147483647]; omega))) (fun z30 hz30 => ?_)
      refine Ok_nm (fun l31 wl31 => ?_)
      try (have e134 := inc_iv (x := i29) (by omega))
      exact ih l31 (i29 + (1 : Int32)) (by first | omega | assumption | (try simp only [tl0, tl1, tl2, tl3, tl4, tl5, tl6, tl8, tl9, tl10, tl50, tl81, tl100, tl1000, tl9999, tlm1, tlm9, tlm50, tl2147483647]; omega)) (by first | omega | assumption | (try simp only [tl0, tl1, tl2, tl3, tl4, tl5, tl6, tl8, tl9, tl10, tl50, tl81, tl100, tl1000, tl9999, tlm1, tlm9, tlm50, tl2147483647]; omega)) (by first | omega | assumption | (try simp only [tl0, tl1, tl2, tl3, tl4, tl5, tl6, tl8, tl9, tl10, tl50, tl81, tl100, tl1000, tl9999, tlm1, tlm9, tlm50, tl2147483647]; omega))
set_option maxRecDepth 4000 in
theorem okL_X8_digest_L48 (i2 : Int32) (f11 : Nat → Int32) (f12 : Nat → Int32) (i93 : Int32) {P : (Int64) → Prop} {k1 : Int64 → Option (Int64)} (g0 : 2 ≤ i2.toInt ∧ i2.toInt ≤ 9) (g1 : 0 ≤ i93.toInt) (g2 : i93.toInt ≤ 8) (hk1 : ∀ (y1 : Int64), Ok (k1 y1) P) : ∀ (n : Nat) (l110 : Int64) (i111 : Int32), 0 ≤ i111.toInt → 4 - i111.toInt < n → 0 < n → Ok (LX8_digest_L48 i2 f11 f12 i93 n l110 i111 k1) P := by
  intro n
  induction n with
  | zero => intro l110 i111 v0 hm h0; exact absurd h0 (Nat.lt_irrefl 0)
  | succ n ih =>
    intro l110 i111 v0 hm h0
    show Ok (BX8_digest_L48 i2 f11 f12 i93 l110 i111 (fun l110 i111 => LX8_digest_L48 i2 f11 f12 i93 n l110 i111 k1) k1) _
    unfold BX8_digest_L48
    refine Ok_if ?_ ?_
    · intro h
      have c137 : 4 ≤ i111.toInt := i32le h
      exact hk1 l110
    · intro h
      have c138 : i111.toInt < 4 := i32nle h
      refine Ok_bind (ok_X8_ofPlaceNow i2 f11 f12 i93 i111 (by first | omega | assumption | (try simp only [tl0, tl1, tl2, tl3, tl4, tl5, tl6, tl8, tl9, tl10, tl50, tl81, tl100, tl1000, tl9999, tlm1, tlm9, tlm50, tl2147483647]; omega)) (by first | omega | assumption | (try simp only [tl0, tl1, tl2, tl3, tl4, tl5, tl6, tl8, tl9, tl10, tl50, tl81, tl100, tl1000, tl9999, tlm1, tlm9, tlm50, tl2147483647]; omega)) (by first | omega | assumption | (try simp only [tl0, tl1, tl2, tl3, tl4, tl5, tl6, tl8, tl9, tl10, tl50, tl81, tl100, tl1000, tl9999, tlm1, tlm9, tlm50, tl2147483647]; omega))) (fun z112 hz112 => ?_)
      refine Ok_nm (fun l113 wl113 => ?_)
      try (have e139 := inc_iv (x := i111) (by omega))
      exact ih l113 (i111 + (1 : Int32)) (by first | omega | assumption | (try simp only [tl0, tl1, tl2, tl3, tl4, tl5, tl6, tl8, tl9, tl10, tl50, tl81, tl100, tl1000, tl9999, tlm1, tlm9, tlm50, tl2147483647]; omega)) (by first | omega | assumption | (try simp only [tl0, tl1, tl2, tl3, tl4, tl5, tl6, tl8, tl9, tl10, tl50, tl81, tl100, tl1000, tl9999, tlm1, tlm9, tlm50, tl2147483647]; omega)) (by first | omega | assumption | (try simp only [tl0, tl1, tl2, tl3, tl4, tl5, tl6, tl8, tl9, tl10, tl50, tl81, tl100, tl1000, tl9999, tlm1, tlm9, tlm50, tl2147483647]; omega))
set_option maxRecDepth 4000 in
theorem okL_X8_digest_L91 (i2 : Int32) (f11 : Nat → Int32) (f12 : Nat → Int32) (i93 : Int32) {P : (Int64) → Prop} {k1 : Int64 → Option (Int64)} (g0 : 2 ≤ i2.toInt ∧ i2.toInt ≤ 9) (g1 : 0 ≤ i93.toInt) (g2 : i93.toInt ≤ 8) (hk1 : ∀ (y1 : Int64), Ok (k1 y1) P) : ∀ (n : Nat) (l134 : Int64) (i135 : Int32), 0 ≤ i135.toInt → i2.toInt - i135.toInt < n → 0 < n → Ok (LX8_digest_L91 i2 f11 f12 i93 n l134 i135 k1) P := by
  intro n
  induction n with
  | zero => intro l134 i135 v0 hm h0; exact absurd h0 (Nat.lt_irrefl 0)
  | succ n ih =>
    intro l134 i135 v0 hm h0
    show Ok (BX8_digest_L91 i2 f11 f12 i93 l134 i135 (fun l134 i135 => LX8_digest_L91 i2 f11 f12 i93 n l134 i135 k1) k1) _
    unfold BX8_digest_L91
    refine Ok_if ?_ ?_
    · intro h
      have c140 : i2.toInt ≤ i135.toInt := i32le h
      exact hk1 l134
    · intro h
      have c141 : i135.toInt < i2.toInt := i32nle h
      refine Ok_bind (ok_X8_pairNow f11 f12 i93 i135 (0 : Int32) (by first | omega | assumption | (try simp only [tl0, tl1, tl2, tl3, tl4, tl5, tl6, tl8, tl9, tl10, tl50, tl81, tl100, tl1000, tl9999, tlm1, tlm9, tlm50, tl2147483647]; omega)) (by first | omega | assumption | (try simp only [tl0, tl1, tl2, tl3, tl4, tl5, tl6, tl8, tl9, tl10, tl50, tl81, tl100, tl1000, tl9999, tlm1, tlm9, tlm50, tl2147483647]; omega)) (by first | omega | assumption | (try simp only [tl0, tl1, tl2, tl3, tl4, tl5, tl6, tl8, tl9, tl10, tl50, tl81, tl100, tl1000, tl9999, tlm1, tlm9, tlm50, tl2147483647]; omega)) (by first | omega | assumption | (try simp only [tl0, tl1, tl2, tl3, tl4, tl5, tl6, tl8, tl9, tl10, tl50, tl81, tl100, tl1000, tl9999, tlm1, tlm9, tlm50, tl2147483647]; omega))) (fun z136 hz136 => ?_)
      refine Ok_bind (ok_X8_pairNow f11 f12 i93 i135 (1 : Int32) (by first | omega | assumption | (try simp only [tl0, tl1, tl2, tl3, tl4, tl5, tl6, tl8, tl9, tl10, tl50, tl81, tl100, tl1000, tl9999, tlm1, tlm9, tlm50, tl2147483647]; omega)) (by first | omega | assumption | (try simp only [tl0, tl1, tl2, tl3, tl4, tl5, tl6, tl8, tl9, tl10, tl50, tl81, tl100, tl1000, tl9999, tlm1, tlm9, tlm50, tl2147483647]; omega)) (by first | omega | assumption | (try simp only [tl0, tl1, tl2, tl3, tl4, tl5, tl6, tl8, tl9, tl10, tl50, tl81, tl100, tl1000, tl9999, tlm1, tlm9, tlm50, tl2147483647]; omega)) (by first | omega | assumption | (try simp only [tl0, tl1, tl2, tl3, tl4, tl5, tl6, tl8, tl9, tl10, tl50, tl81, tl100, tl1000, tl9999, tlm1, tlm9, tlm50, tl2147483647]; omega))) (fun z137 hz137 => ?_)
      refine Ok_nm (fun l138 wl138 => ?_)
      try (have e142 := inc_iv (x := i135) (by omega))
      exact ih l138 (i135 + (1 : Int32)) (by first | omega | assumption | (try simp only [tl0, tl1, tl2, tl3, tl4, tl5, tl6, tl8, tl9, tl10, tl50, tl81, tl100, tl1000, tl9999, tlm1, tlm9, tlm50, tl2147483647]; omega)) (by first | omega | assumption | (try simp only [tl0, tl1, tl2, tl3, tl4, tl5, tl6, tl8, tl9, tl10, tl50, tl81, tl100, tl1000, tl9999, tlm1, tlm9, tlm50, tl2147483647]; omega)) (by first | omega | assumption | (try simp only [tl0, tl1, tl2, tl3, tl4, tl5, tl6, tl8, tl9, tl10, tl50, tl81, tl100, tl1000, tl9999, tlm1, tlm9, tlm50, tl2147483647]; omega))
set_option maxRecDepth 4000 in
theorem okL_X8_digest_L37 (i2 : Int32) (i5 : Int32) (f11 : Nat → Int32) (f12 : Nat → Int32) {P : (Int64) → Prop} {k1 : Int64 → Option (Int64)} (g0 : 2 ≤ i2.toInt ∧ i2.toInt ≤ 9) (g1 : 0 ≤ i5.toInt ∧ i5.toInt ≤ 8) (hk1 : ∀ (y1 : Int64), Ok (k1 y1) P) : ∀ (n : Nat) (l92 : Int64) (i93 : Int32), 0 ≤ i93.toInt → i2.toInt - i93.toInt < n → 0 < n → Ok (LX8_digest_L37 i2 i5 f11 f12 n l92 i93 k1) P := by
  intro n
  induction n with
  | zero => intro l92 i93 v0 hm h0; exact absurd h0 (Nat.lt_irrefl 0)
  | succ n ih =>
    intro l92 i93 v0 hm h0
    show Ok (BX8_digest_L37 i2 i5 f11 f12 l92 i93 (fun l92 i93 => LX8_digest_L37 i2 i5 f11 f12 n l92 i93 k1) k1) _
    unfold BX8_digest_L37
    refine Ok_if ?_ ?_
    · intro h
      have c135 : i2.toInt ≤ i93.toInt := i32le h
      exact hk1 l92
    · intro h
      have c136 : i93.toInt < i2.toInt := i32nle h
      refine okL_X8_digest_L48 i2 f11 f12 i93 (by first | omega | assumption | (try simp only [tl0, tl1, tl2, tl3, tl4, tl5, tl6, tl8, tl9, tl10, tl50, tl81, tl100, tl1000, tl9999, tlm1, tlm9, tlm50, tl2147483647]; omega)) (by first | omega | assumption | (try simp only [tl0, tl1, tl2, tl3, tl4, tl5, tl6, tl8, tl9, tl10, tl50, tl81, tl100, tl1000, tl9999, tlm1, tlm9, tlm50, tl2147483647]; omega)) (by first | omega | assumption | (try simp only [tl0, tl1, tl2, tl3, tl4, tl5, tl6, tl8, tl9, tl10, tl50, tl81, tl100, tl1000, tl9999, tlm1, tlm9, tlm50, tl2147483647]; omega)) ?_ 600 l92 (0 : Int32) (by first | omega | assumption | (try simp only [tl0, tl1, tl2, tl3, tl4, tl5, tl6, tl8, tl9, tl10, tl50, tl81, tl100, tl1000, tl9999, tlm1, tlm9, tlm50, tl2147483647]; omega)) (by first | omega | assumption | (try simp only [tl0, tl1, tl2, tl3, tl4, tl5, tl6, tl8, tl9, tl10, tl50, tl81, tl100, tl1000, tl9999, tlm1, tlm9, tlm50, tl2147483647]; omega)) (by first | omega | assumption | (try simp only [tl0, tl1, tl2, tl3, tl4, tl5, tl6, tl8, tl9, tl10, tl50, tl81, tl100, tl1000, tl9999, tlm1, tlm9, tlm50, tl2147483647]; omega))
      intro l114
      show Ok ((fX8_layerNow i2 i5 f11 f12 i93).bind (fun z115 => nm ((l114 * (31 : Int64)) + z115.toInt64) (fun (l116 : Int64) => LX8_digest_L91  i2 f11 f12 i93 600 l116 (0 : Int32) (fun (l139 : Int64) => (fun l92 i93 => LX8_digest_L37 i2 i5 f11 f12 n l92 i93 k1) l139 (i93 + (1 : Int32)))))) _
      refine Ok_bind (ok_X8_layerNow i2 i5 f11 f12 i93 (by first | omega | assumption | (try simp only [tl0, tl1, tl2, tl3, tl4, tl5, tl6, tl8, tl9, tl10, tl50, tl81, tl100, tl1000, tl9999, tlm1, tlm9, tlm50, tl2147483647]; omega)) (by first | omega | assumption | (try simp only [tl0, tl1, tl2, tl3, tl4, tl5, tl6, tl8, tl9, tl10, tl50, tl81, tl100, tl1000, tl9999, tlm1, tlm9, tlm50, tl2147483647]; omega))) (fun z115 hz115 => ?_)
      refine Ok_nm (fun l116 wl116 => ?_)
      refine okL_X8_digest_L91 i2 f11 f12 i93 (by first | omega | assumption | (try simp only [tl0, tl1, tl2, tl3, tl4, tl5, tl6, tl8, tl9, tl10, tl50, tl81, tl100, tl1000, tl9999, tlm1, tlm9, tlm50, tl2147483647]; omega)) (by first | omega | assumption | (try simp only [tl0, tl1, tl2, tl3, tl4, tl5, tl6, tl8, tl9, tl10, tl50, tl81, tl100, tl1000, tl9999, tlm1, tlm9, tlm50, tl2147483647]; omega)) (by first | omega | assumption | (try simp only [tl0, tl1, tl2, tl3, tl4, tl5, tl6, tl8, tl9, tl10, tl50, tl81, tl100, tl1000, tl9999, tlm1, tlm9, tlm50, tl2147483647]; omega)) ?_ 600 l116 (0 : Int32) (by first | omega | assumption | (try simp only [tl0, tl1, tl2, tl3, tl4, tl5, tl6, tl8, tl9, tl10, tl50, tl81, tl100, tl1000, tl9999, tlm1, tlm9, tlm50, tl2147483647]; omega)) (by first | omega | assumption | (try simp only [tl0, tl1, tl2, tl3, tl4, tl5, tl6, tl8, tl9, tl10, tl50, tl81, tl100, tl1000, tl9999, tlm1, tlm9, tlm50, tl2147483647]; omega)) (by first | omega | assumption | (try simp only [tl0, tl1, tl2, tl3, tl4, tl5, tl6, tl8, tl9, tl10, tl50, tl81, tl100, tl1000, tl9999, tlm1, tlm9, tlm50, tl2147483647]; omega))
      intro l139
      show Ok ((fun l92 i93 => LX8_digest_L37 i2 i5 f11 f12 n l92 i93 k1) l139 (i93 + (1 : Int32))) _
      try (have e143 := inc_iv (x := i93) (by omega))
      exact ih l139 (i93 + (1 : Int32)) (by first | omega | assumption | (try simp only [tl0, tl1, tl2, tl3, tl4, tl5, tl6, tl8, tl9, tl10, tl50, tl81, tl100, tl1000, tl9999, tlm1, tlm9, tlm50, tl2147483647]; omega)) (by first | omega | assumption | (try simp only [tl0, tl1, tl2, tl3, tl4, tl5, tl6, tl8, tl9, tl10, tl50, tl81, tl100, tl1000, tl9999, tlm1, tlm9, tlm50, tl2147483647]; omega)) (by first | omega | assumption | (try simp only [tl0, tl1, tl2, tl3, tl4, tl5, tl6, tl8, tl9, tl10, tl50, tl81, tl100, tl1000, tl9999, tlm1, tlm9, tlm50, tl2147483647]; omega))
set_option maxRecDepth 4000 in
theorem okL_X8_digest_L247 (i7 : Int32) (i8 : Int32) (i9 : Int32) {P : (Int64) → Prop} {k1 : Int64 → Option (Int64)}  (hk1 : ∀ (y1 : Int64), Ok (k1 y1) P) : ∀ (n : Nat) (l171 : Int64) (i172 : Int32), 0 ≤ i172.toInt → 3 - i172.toInt < n → 0 < n → Ok (LX8_digest_L247 i7 i8 i9 n l171 i172 k1) P := by
  intro n
  induction n with
  | zero => intro l171 i172 v0 hm h0; exact absurd h0 (Nat.lt_irrefl 0)
  | succ n ih =>
    intro l171 i172 v0 hm h0
    show Ok (BX8_digest_L247 i7 i8 i9 l171 i172 (fun l171 i172 => LX8_digest_L247 i7 i8 i9 n l171 i172 k1) k1) _
    unfold BX8_digest_L247
    refine Ok_if ?_ ?_
    · intro h
      have c144 : 3 ≤ i172.toInt := i32le h
      exact hk1 l171
    · intro h
      have c145 : i172.toInt < 3 := i32nle h
      refine Ok_bind (ok_X8_houseNow i7 i8 i9 i172) (fun z173 hz173 => ?_)
      refine Ok_nm (fun l174 wl174 => ?_)
      try (have e146 := inc_iv (x := i172) (by omega))
      exact ih l174 (i172 + (1 : Int32)) (by first | omega | assumption | (try simp only [tl0, tl1, tl2, tl3, tl4, tl5, tl6, tl8, tl9, tl10, tl50, tl81, tl100, tl1000, tl9999, tlm1, tlm9, tlm50, tl2147483647]; omega)) (by first | omega | assumption | (try simp only [tl0, tl1, tl2, tl3, tl4, tl5, tl6, tl8, tl9, tl10, tl50, tl81, tl100, tl1000, tl9999, tlm1, tlm9, tlm50, tl2147483647]; omega)) (by first | omega | assumption | (try simp only [tl0, tl1, tl2, tl3, tl4, tl5, tl6, tl8, tl9, tl10, tl50, tl81, tl100, tl1000, tl9999, tlm1, tlm9, tlm50, tl2147483647]; omega))
set_option maxRecDepth 4000 in
theorem ok_X8_digest (i2 : Int32) (i5 : Int32) (i6 : Int32) (i7 : Int32) (i8 : Int32) (i9 : Int32) (f11 : Nat → Int32) (f12 : Nat → Int32) (h0 : 2 ≤ i2.toInt ∧ i2.toInt ≤ 9) (h1 : 0 ≤ i5.toInt ∧ i5.toInt ≤ 8) (h2 : 0 ≤ i6.toInt ∧ i6.toInt ≤ 8) (h3 : PFx i2 i5 i6 f12) : Ok (fX8_digest i2 i5 i6 i7 i8 i9 f11 f12) (fun z => True) := by
  unfold fX8_digest
  refine okL_X8_digest_L11 i2 i5 i6 f11 (by first | omega | assumption | (try simp only [tl0, tl1, tl2, tl3, tl4, tl5, tl6, tl8, tl9, tl10, tl50, tl81, tl100, tl1000, tl9999, tlm1, tlm9, tlm50, tl2147483647]; omega)) (by first | omega | assumption | (try simp only [tl0, tl1, tl2, tl3, tl4, tl5, tl6, tl8, tl9, tl10, tl50, tl81, tl100, tl1000, tl9999, tlm1, tlm9, tlm50, tl2147483647]; omega)) (by first | omega | assumption | (try simp only [tl0, tl1, tl2, tl3, tl4, tl5, tl6, tl8, tl9, tl10, tl50, tl81, tl100, tl1000, tl9999, tlm1, tlm9, tlm50, tl2147483647]; omega)) ?_ 600 (8026 : Int64) (0 : Int32) (by first | omega | assumption | (try simp only [tl0, tl1, tl2, tl3, tl4, tl5, tl6, tl8, tl9, tl10, tl50, tl81, tl100, tl1000, tl9999, tlm1, tlm9, tlm50, tl2147483647]; omega)) (by first | omega | assumption | (try simp only [tl0, tl1, tl2, tl3, tl4, tl5, tl6, tl8, tl9, tl10, tl50, tl81, tl100, tl1000, tl9999, tlm1, tlm9, tlm50, tl2147483647]; omega)) (by first | omega | assumption | (try simp only [tl0, tl1, tl2, tl3, tl4, tl5, tl6, tl8, tl9, tl10, tl50, tl81, tl100, tl1000, tl9999, tlm1, tlm9, tlm50, tl2147483647]; omega))
  intro l32
  show Ok (LX8_digest_L37  i2 i5 f11 f12 600 l32 (0 : Int32) (fun (l140 : Int64) => (fX8_valueNow i2 i5 f12).bind (fun z141 => (fX8_leastNow i2 i5 i6 f11).bind (fun z142 => (fX8_leastsNow i2 i5 i6 f11).bind (fun z143 => nm ((((((l140 * (31 : Int64)) + z141.toInt64) * (31 : Int64)) + z142.toInt64) * (31 : Int64)) + z143.toInt64) (fun (l144 : Int64) => (fX8_endNow i2 i5 i6 f11 (0 : Int32)).bind (fun z145 => (fX8_endNow i2 i5 i6 f11 (1 : Int32)).bind (fun z146 => (fX8_partsNow i2 i5 i6 f12 (1 : Int32)).bind (fun z147 => nm ((((((l144 * (31 : Int64)) + z145.toInt64) * (31 : Int64)) + z146.toInt64) * (31 : Int64)) + z147.toInt64) (fun (l148 : Int64) => (fX8_partsNow i2 i5 i6 f12 (0 : Int32)).bind (fun z149 => (fX8_partsNowText i2 i5 i6 f12).bind (fun z150 => (fJ0_lengthO z150.1).bind (fun z153 => (fX8_apartNow i2 i5 i6 f11).bind (fun z154 => nm ((((((l148 * (31 : Int64)) + z149.toInt64) * (31 : Int64)) + z153.toInt64) * (31 : Int64)) + z154.toInt64) (fun (l155 : Int64) => LX8_digest_L247  i7 i8 i9 600 l155 (0 : Int32) (fun (l175 : Int64) => (fX8_isSoundNow i2 i5 i6 f11 f12).bind (fun z176 => if z176 = (0 : Int32) then (some ((l175 * (31 : Int64)) + ((0 : Int32).toInt64))) else (some ((l175 * (31 : Int64)) + ((1 : Int32).toInt64)))))))))))))))))))) _
  refine okL_X8_digest_L37 i2 i5 f11 f12 (by first | omega | assumption | (try simp only [tl0, tl1, tl2, tl3, tl4, tl5, tl6, tl8, tl9, tl10, tl50, tl81, tl100, tl1000, tl9999, tlm1, tlm9, tlm50, tl2147483647]; omega)) (by first | omega | assumption | (try simp only [tl0, tl1, tl2, tl3, tl4, tl5, tl6, tl8, tl9, tl10, tl50, tl81, tl100, tl1000, tl9999, tlm1, tlm9, tlm50, tl2147483647]; omega)) ?_ 600 l32 (0 : Int32) (by first | omega | assumption | (try simp only [tl0, tl1, tl2, tl3, tl4, tl5, tl6, tl8, tl9, tl10, tl50, tl81, tl100, tl1000, tl9999, tlm1, tlm9, tlm50, tl2147483647]; omega)) (by first | omega | assumption | (try simp only [tl0, tl1, tl2, tl3, tl4, tl5, tl6, tl8, tl9, tl10, tl50, tl81, tl100, tl1000, tl9999, tlm1, tlm9, tlm50, tl2147483647]; omega)) (by first | omega | assumption | (try simp only [tl0, tl1, tl2, tl3, tl4, tl5, tl6, tl8, tl9, tl10, tl50, tl81, tl100, tl1000, tl9999, tlm1, tlm9, tlm50, tl2147483647]; omega))
  intro l140
  show Ok ((fX8_valueNow i2 i5 f12).bind (fun z141 => (fX8_leastNow i2 i5 i6 f11).bind (fun z142 => (fX8_leastsNow i2 i5 i6 f11).bind (fun z143 => nm ((((((l140 * (31 : Int64)) + z141.toInt64) * (31 : Int64)) + z142.toInt64) * (31 : Int64)) + z143.toInt64) (fun (l144 : Int64) => (fX8_endNow i2 i5 i6 f11 (0 : Int32)).bind (fun z145 => (fX8_endNow i2 i5 i6 f11 (1 : Int32)).bind (fun z146 => (fX8_partsNow i2 i5 i6 f12 (1 : Int32)).bind (fun z147 => nm ((((((l144 * (31 : Int64)) + z145.toInt64) * (31 : Int64)) + z146.toInt64) * (31 : Int64)) + z147.toInt64) (fun (l148 : Int64) => (fX8_partsNow i2 i5 i6 f12 (0 : Int32)).bind (fun z149 => (fX8_partsNowText i2 i5 i6 f12).bind (fun z150 => (fJ0_lengthO z150.1).bind (fun z153 => (fX8_apartNow i2 i5 i6 f11).bind (fun z154 => nm ((((((l148 * (31 : Int64)) + z149.toInt64) * (31 : Int64)) + z153.toInt64) * (31 : Int64)) + z154.toInt64) (fun (l155 : Int64) => LX8_digest_L247  i7 i8 i9 600 l155 (0 : Int32) (fun (l175 : Int64) => (fX8_isSoundNow i2 i5 i6 f11 f12).bind (fun z176 => if z176 = (0 : Int32) then (some ((l175 * (31 : Int64)) + ((0 : Int32).toInt64))) else (some ((l175 * (31 : Int64)) + ((1 : Int32).toInt64))))))))))))))))))) _
  refine Ok_bind (ok_X8_valueNow i2 i5 f12 (by first | omega | assumption | (try simp only [tl0, tl1, tl2, tl3, tl4, tl5, tl6, tl8, tl9, tl10, tl50, tl81, tl100, tl1000, tl9999, tlm1, tlm9, tlm50, tl2147483647]; omega)) (by first | omega | assumption | (try simp only [tl0, tl1, tl2, tl3, tl4, tl5, tl6, tl8, tl9, tl10, tl50, tl81, tl100, tl1000, tl9999, tlm1, tlm9, tlm50, tl2147483647]; omega))) (fun z141 hz141 => ?_)
  refine Ok_bind (ok_X8_leastNow i2 i5 i6 f11 (by first | omega | assumption | (try simp only [tl0, tl1, tl2, tl3, tl4, tl5, tl6, tl8, tl9, tl10, tl50, tl81, tl100, tl1000, tl9999, tlm1, tlm9, tlm50, tl2147483647]; omega)) (by first | omega | assumption | (try simp only [tl0, tl1, tl2, tl3, tl4, tl5, tl6, tl8, tl9, tl10, tl50, tl81, tl100, tl1000, tl9999, tlm1, tlm9, tlm50, tl2147483647]; omega)) (by first | omega | assumption | (try simp only [tl0, tl1, tl2, tl3, tl4, tl5, tl6, tl8, tl9, tl10, tl50, tl81, tl100, tl1000, tl9999, tlm1, tlm9, tlm50, tl2147483647]; omega))) (fun z142 hz142 => ?_)
  refine Ok_bind (ok_X8_leastsNow i2 i5 i6 f11 (by first | omega | assumption | (try simp only [tl0, tl1, tl2, tl3, tl4, tl5, tl6, tl8, tl9, tl10, tl50, tl81, tl100, tl1000, tl9999, tlm1, tlm9, tlm50, tl2147483647]; omega)) (by first | omega | assumption | (try simp only [tl0, tl1, tl2, tl3, tl4, tl5, tl6, tl8, tl9, tl10, tl50, tl81, tl100, tl1000, tl9999, tlm1, tlm9, tlm50, tl2147483647]; omega)) (by first | omega | assumption | (try simp only [tl0, tl1, tl2, tl3, tl4, tl5, tl6, tl8, tl9, tl10, tl50, tl81, tl100, tl1000, tl9999, tlm1, tlm9, tlm50, tl2147483647]; omega))) (fun z143 hz143 => ?_)
  refine Ok_nm (fun l144 wl144 => ?_)
  refine Ok_bind (ok_X8_endNow i2 i5 i6 f11 (0 : Int32) (by first | omega | assumption | (try simp only [tl0, tl1, tl2, tl3, tl4, tl5, tl6, tl8, tl9, tl10, tl50, tl81, tl100, tl1000, tl9999, tlm1, tlm9, tlm50, tl2147483647]; omega)) (by first | omega | assumption | (try simp only [tl0, tl1, tl2, tl3, tl4, tl5, tl6, tl8, tl9, tl10, tl50, tl81, tl100, tl1000, tl9999, tlm1, tlm9, tlm50, tl2147483647]; omega)) (by first | omega | assumption | (try simp only [tl0, tl1, tl2, tl3, tl4, tl5, tl6, tl8, tl9, tl10, tl50, tl81, tl100, tl1000, tl9999, tlm1, tlm9, tlm50, tl2147483647]; omega))) (fun z145 hz145 => ?_)
  refine Ok_bind (ok_X8_endNow i2 i5 i6 f11 (1 : Int32) (by first | omega | assumption | (try simp only [tl0, tl1, tl2, tl3, tl4, tl5, tl6, tl8, tl9, tl10, tl50, tl81, tl100, tl1000, tl9999, tlm1, tlm9, tlm50, tl2147483647]; omega)) (by first | omega | assumption | (try simp only [tl0, tl1, tl2, tl3, tl4, tl5, tl6, tl8, tl9, tl10, tl50, tl81, tl100, tl1000, tl9999, tlm1, tlm9, tlm50, tl2147483647]; omega)) (by first | omega | assumption | (try simp only [tl0, tl1, tl2, tl3, tl4, tl5, tl6, tl8, tl9, tl10, tl50, tl81, tl100, tl1000, tl9999, tlm1, tlm9, tlm50, tl2147483647]; omega))) (fun z146 hz146 => ?_)
  refine Ok_bind (ok_X8_partsNow i2 i5 i6 f12 (1 : Int32) (by first | omega | assumption | (try simp only [tl0, tl1, tl2, tl3, tl4, tl5, tl6, tl8, tl9, tl10, tl50, tl81, tl100, tl1000, tl9999, tlm1, tlm9, tlm50, tl2147483647]; omega)) (by first | omega | assumption | (try simp only [tl0, tl1, tl2, tl3, tl4, tl5, tl6, tl8, tl9, tl10, tl50, tl81, tl100, tl1000, tl9999, tlm1, tlm9, tlm50, tl2147483647]; omega)) (by first | omega | assumption | (try simp only [tl0, tl1, tl2, tl3, tl4, tl5, tl6, tl8, tl9, tl10, tl50, tl81, tl100, tl1000, tl9999, tlm1, tlm9, tlm50, tl2147483647]; omega)) (by first | omega | assumption | (try simp only [tl0, tl1, tl2, tl3, tl4, tl5, tl6, tl8, tl9, tl10, tl50, tl81, tl100, tl1000, tl9999, tlm1, tlm9, tlm50, tl2147483647]; omega))) (fun z147 hz147 => ?_)
  refine Ok_nm (fun l148 wl148 => ?_)
  refine Ok_bind (ok_X8_partsNow i2 i5 i6 f12 (0 : Int32) (by first | omega | assumption | (try simp only [tl0, tl1, tl2, tl3, tl4, tl5, tl6, tl8, tl9, tl10, tl50, tl81, tl100, tl1000, tl9999, tlm1, tlm9, tlm50, tl2147483647]; omega)) (by first | omega | assumption | (try simp only [tl0, tl1, tl2, tl3, tl4, tl5, tl6, tl8, tl9, tl10, tl50, tl81, tl100, tl1000, tl9999, tlm1, tlm9, tlm50, tl2147483647]; omega)) (by first | omega | assumption | (try simp only [tl0, tl1, tl2, tl3, tl4, tl5, tl6, tl8, tl9, tl10, tl50, tl81, tl100, tl1000, tl9999, tlm1, tlm9, tlm50, tl2147483647]; omega)) (by first | omega | assumption | (try simp only [tl0, tl1, tl2, tl3, tl4, tl5, tl6, tl8, tl9, tl10, tl50, tl81, tl100, tl1000, tl9999, tlm1, tlm9, tlm50, tl2147483647]; omega))) (fun z149 hz149 => ?_)
  refine Ok_bind (ok_X8_partsNowText i2 i5 i6 f12 (by first | omega | assumption | (try simp only [tl0, tl1, tl2, tl3, tl4, tl5, tl6, tl8, tl9, tl10, tl50, tl81, tl100, tl1000, tl9999, tlm1, tlm9, tlm50, tl2147483647]; omega)) (by first | omega | assumption | (try simp only [tl0, tl1, tl2, tl3, tl4, tl5, tl6, tl8, tl9, tl10, tl50, tl81, tl100, tl1000, tl9999, tlm1, tlm9, tlm50, tl2147483647]; omega)) (by first | omega | assumption | (try simp only [tl0, tl1, tl2, tl3, tl4, tl5, tl6, tl8, tl9, tl10, tl50, tl81, tl100, tl1000, tl9999, tlm1, tlm9, tlm50, tl2147483647]; omega)) (by first | omega | assumption | (try simp only [tl0, tl1, tl2, tl3, tl4, tl5, tl6, tl8, tl9, tl10, tl50, tl81, tl100, tl1000, tl9999, tlm1, tlm9, tlm50, tl2147483647]; omega))) (fun z150 hz150 => ?_)
  refine Ok_bind (ok_J0_lengthO z150.1) (fun z153 hz153 => ?_)
  refine Ok_bind (ok_X8_apartNow i2 i5 i6 f11 (by first | omega | assumption | (try simp only [tl0, tl1, tl2, tl3, tl4, tl5, tl6, tl8, tl9, tl10, tl50, tl81, tl100, tl1000, tl9999, tlm1, tlm9, tlm50, tl2147483647]; omega)) (by first | omega | assumption | (try simp only [tl0, tl1, tl2, tl3, tl4, tl5, tl6, tl8, tl9, tl10, tl50, tl81, tl100, tl1000, tl9999, tlm1, tlm9, tlm50, tl2147483647]; omega)) (by first | omega | assumption | (try simp only [tl0, tl1, tl2, tl3, tl4, tl5, tl6, tl8, tl9, tl10, tl50, tl81, tl100, tl1000, tl9999, tlm1, tlm9, tlm50, tl2147483647]; omega))) (fun z154 hz154 => ?_)
  refine Ok_nm (fun l155 wl155 => ?_)
  refine okL_X8_digest_L247 i7 i8 i9 ?_ 600 l155 (0 : Int32) (by first | omega | assumption | (try simp only [tl0, tl1, tl2, tl3, tl4, tl5, tl6, tl8, tl9, tl10, tl50, tl81, tl100, tl1000, tl9999, tlm1, tlm9, tlm50, tl2147483647]; omega)) (by first | omega | assumption | (try simp only [tl0, tl1, tl2, tl3, tl4, tl5, tl6, tl8, tl9, tl10, tl50, tl81, tl100, tl1000, tl9999, tlm1, tlm9, tlm50, tl2147483647]; omega)) (by first | omega | assumption | (try simp only [tl0, tl1, tl2, tl3, tl4, tl5, tl6, tl8, tl9, tl10, tl50, tl81, tl100, tl1000, tl9999, tlm1, tlm9, tlm50, tl2147483647]; omega))
  intro l175
  show Ok ((fX8_isSoundNow i2 i5 i6 f11 f12).bind (fun z176 => if z176 = (0 : Int32) then (some ((l175 * (31 : Int64)) + ((0 : Int32).toInt64))) else (some ((l175 * (31 : Int64)) + ((1 : Int32).toInt64))))) _
  refine Ok_bind (ok_X8_isSoundNow i2 i5 i6 f11 f12 (by first | omega | assumption | (try simp only [tl0, tl1, tl2, tl3, tl4, tl5, tl6, tl8, tl9, tl10, tl50, tl81, tl100, tl1000, tl9999, tlm1, tlm9, tlm50, tl2147483647]; omega)) (by first | omega | assumption | (try simp only [tl0, tl1, tl2, tl3, tl4, tl5, tl6, tl8, tl9, tl10, tl50, tl81, tl100, tl1000, tl9999, tlm1, tlm9, tlm50, tl2147483647]; omega)) (by first | omega | assumption | (try simp only [tl0, tl1, tl2, tl3, tl4, tl5, tl6, tl8, tl9, tl10, tl50, tl81, tl100, tl1000, tl9999, tlm1, tlm9, tlm50, tl2147483647]; omega)) (by first | omega | assumption | (try simp only [tl0, tl1, tl2, tl3, tl4, tl5, tl6, tl8, tl9, tl10, tl50, tl81, tl100, tl1000, tl9999, tlm1, tlm9, tlm50, tl2147483647]; omega))) (fun z176 hz176 => ?_)
  try dsimp only at hz176
  try simp only [tl0, tl1, tl2, tl3, tl4, tl5, tl6, tl8, tl9, tl10, tl50, tl81, tl100, tl1000, tl9999, tlm1, tlm9, tlm50, tl2147483647] at hz176
  refine Ok_if ?_ ?_
  · intro h
    have c147 : z176.toInt = 0 := i32eq h
    exact Ok_some trivial
  · intro h
    have c148 : z176.toInt ≠ 0 := i32ne h
    exact Ok_some trivial
