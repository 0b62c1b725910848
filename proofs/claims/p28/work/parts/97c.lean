/-! LEAST CUTS -/
theorem min_iv {w y : Int32} : (if w < y then w else y).toInt = if w.toInt < y.toInt then w.toInt else y.toInt := by
  by_cases h : w < y
  · rw [if_pos h, if_pos (i32lt h)]
  · rw [if_neg h, if_neg (by have := i32nlt h; omega)]
def lsN (n s g : Nat) (R : Nat → Int32) : Nat → Int
  | 0 => 2147483647
  | k + 1 => if ctb s g (Int32.ofNat k) = true then (if cap n R (Int32.ofNat k) < lsN n s g R k then cap n R (Int32.ofNat k) else lsN n s g R k) else lsN n s g R k
theorem lsN_s {n s g : Nat} {R : Nat → Int32} (k : Nat) : lsN n s g R (k + 1) = if ctb s g (Int32.ofNat k) = true then (if cap n R (Int32.ofNat k) < lsN n s g R k then cap n R (Int32.ofNat k) else lsN n s g R k) else lsN n s g R k := rfl
def least (n s g : Nat) (R : Nat → Int32) : Int := lsN n s g R (2 ^ n)
theorem leastNow_iv {n s g : Nat} {R : Nat → Int32} {i2 i5 i6 : Int32} (n9 : n ≤ 9) (hs : s < n) (hg : g < n) (hsm : sm R) (h2 : i2.toInt = n) (h5 : i5.toInt = s) (h6 : i6.toInt = g) : Ok (fX8_leastNow i2 i5 i6 R) (fun z => z.toInt = least n s g R) := by
  have p := (pwN n (by omega)).2
  have e2 := shl2 h2 n9
  unfold fX8_leastNow fX8_least least
  refine Ok_bind (R := fun z => z.toInt = lsN n s g R (2 ^ n)) ?_ (fun z hz => Ok_some hz)
  generalize (2 ^ n : Nat) = N at *
  refine lpQ (L := fun c y i => LX8_least_L7 i2 R i5 i6 c y i) (n := N) (Q := fun k y => y.toInt = lsN n s g R k) (fun c y i hi hy => ?_) (fun c y i k hk hi hy rec => ?_) (by omega) rfl
  · show Ok (BX8_least_L7 i2 R i5 i6 y i (fun p q => LX8_least_L7 i2 R i5 i6 c p q)) _
    unfold BX8_least_L7
    refine Ok_if (fun _ => Ok_some hy) (fun h => ?_)
    have h := i32nle h
    omega
  · show Ok (BX8_least_L7 i2 R i5 i6 y i (fun p q => LX8_least_L7 i2 R i5 i6 c p q)) _
    unfold BX8_least_L7
    have ei := inc_iv (x := i) (by omega)
    have ix := idxN hi (by omega)
    refine Ok_if (fun h => ?_) (fun _ => Ok_bind (isCut_iv h5 (by omega) h6 (by omega)) (fun z hz2 => Ok_jn (fun kk wk => ?_)))
    · have h := i32le h
      omega
    · rw [wk]
      refine Ok_if (fun e => rec y _ ?_ (by omega)) (fun e => Ok_bind (through_iv h2 n9 hsm) (fun w hw => Ok_nm (fun u wu => rec u _ ?_ (by omega))))
      · show y.toInt = lsN n s g R (k + 1)
        rw [lsN_s, ← ix, (bit0 hz2).mp e, if_neg (by decide)]
        exact hy
      · show u.toInt = lsN n s g R (k + 1)
        rw [lsN_s, ← ix, bit1 hz2 e, if_pos rfl, ← hw, ← hy, wu]
        exact min_iv