/-! LEAST CUTS -/
theorem min_iv {w y : Int32} : (if w < y then w else y).toInt = if w.toInt < y.toInt then w.toInt else y.toInt := by
  by_cases h : w < y
  · rw [if_pos h, if_pos (i32lt h)]
  · rw [if_neg h, if_neg (by have := i32nlt h; omega)]
def lsN (n s g : Nat) (R : Nat → Int32) : Nat → Int
  | 0 => 2147483647
  | k + 1 => if ctb s g (Int32.ofNat k) = true then (if cap n R (Int32.ofNat k) < lsN n s g R k then cap n R (Int32.ofNat k) else lsN n s g R k) else lsN n s g R k
theorem lsN_s {n s g : Nat} {R : Nat → Int32} (k : Nat) : lsN n s g R (k + 1) = if ctb s g (Int32.ofNat k) = true then (if cap n R (Int32.ofNat k) < lsN n s g R k then cap n R (Int32.ofNat k) else lsN n s g R k) else lsN n s g R k := rfl
def least (n s g : Nat) (R : Nat → Int32) : Int := lsN n s g R (2 ^ n)
theorem cleastRoom_iv {n s g : Nat} {R Rc : Nat → Int32} {i2 i3 i4 : Int32} (n9 : n ≤ 9) (hs : s < n) (hg : g < n) (hR : same Rc R) (hsm : sm R) (h2 : i2.toInt = n) (h3 : i3.toInt = s) (h4 : i4.toInt = g) : Ok (fX0_leastRoom i2 i3 i4 Rc) (fun z => z.toInt = least n s g R) := by
  have p := (pwN n (by omega)).2
  unfold fX0_leastRoom least
  refine Ok_bind (allP_iv h2 n9) (fun z9 hz => ?_)
  have hz := hz.1
  generalize (2 ^ n : Nat) = N at *
  refine lpQ (L := fun c y i => LX0_leastRoom_L10 i2 i3 i4 Rc z9 c y i) (n := N) (Q := fun k y => y.toInt = lsN n s g R k) (fun c y i hi hy => ?_) (fun c y i k hk hi hy rec => ?_) (by omega) rfl
  · show Ok (BX0_leastRoom_L10 i2 i3 i4 Rc z9 y i (fun p q => LX0_leastRoom_L10 i2 i3 i4 Rc z9 c p q)) _
    unfold BX0_leastRoom_L10
    refine Ok_if (fun _ => Ok_some hy) (fun h => ?_)
    have h := i32nlt h
    omega
  · show Ok (BX0_leastRoom_L10 i2 i3 i4 Rc z9 y i (fun p q => LX0_leastRoom_L10 i2 i3 i4 Rc z9 c p q)) _
    unfold BX0_leastRoom_L10
    have ei := inc_iv (x := i) (by omega)
    have ix := idxN hi (by omega)
    refine Ok_if (fun h => ?_) (fun _ => Ok_bind (cisCut_iv h3 (by omega) h4 (by omega)) (fun z hz2 => Ok_jn (fun kk wk => ?_)))
    · have h := i32lt h
      omega
    · rw [wk]
      refine Ok_if (fun e => rec y _ ?_ (by omega)) (fun e => Ok_bind (across_iv h2 n9 hR hsm) (fun w hw => Ok_nm (fun u wu => rec u _ ?_ (by omega))))
      · show y.toInt = lsN n s g R (k + 1)
        rw [lsN_s, ← ix, (bit0 hz2).mp e, if_neg (by decide)]
        exact hy
      · show u.toInt = lsN n s g R (k + 1)
        rw [lsN_s, ← ix, bit1 hz2 e, if_pos rfl, ← hw, ← hy, wu]
        exact min_iv
theorem leastNow_iv {n s g : Nat} {R : Nat → Int32} {i2 i5 i6 : Int32} (n9 : n ≤ 9) (hs : s < n) (hg : g < n) (hsm : sm R) (h2 : i2.toInt = n) (h5 : i5.toInt = s) (h6 : i6.toInt = g) : Ok (fX8_leastNow i2 i5 i6 R) (fun z => z.toInt = least n s g R) := by
  have p := (pwN n (by omega)).2
  have e2 := shl2 h2 n9
  unfold fX8_leastNow fX8_least least
  refine Ok_bind (R := fun z => z.toInt = lsN n s g R (2 ^ n)) ?_ (fun z hz => Ok_some hz)
  generalize (2 ^ n : Nat) = N at *
  refine lpQ (L := fun c y i => LX8_least_L7 i2 R i5 i6 c y i) (n := N) (Q := fun k y => y.toInt = lsN n s g R k) (fun c y i hi hy => ?_) (fun c y i k hk hi hy rec => ?_) (by omega) rfl
  · show Ok (BX8_least_L7 i2 R i5 i6 y i (fun p q => LX8_least_L7 i2 R i5 i6 c p q)) _
    unfold BX8_least_L7
    refine Ok_if (fun _ => Ok_some hy) (fun h => ?_)
    have h := i32nle h
    omega
  · show Ok (BX8_least_L7 i2 R i5 i6 y i (fun p q => LX8_least_L7 i2 R i5 i6 c p q)) _
    unfold BX8_least_L7
    have ei := inc_iv (x := i) (by omega)
    have ix := idxN hi (by omega)
    refine Ok_if (fun h => ?_) (fun _ => Ok_bind (isCut_iv h5 (by omega) h6 (by omega)) (fun z hz2 => Ok_jn (fun kk wk => ?_)))
    · have h := i32le h
      omega
    · rw [wk]
      refine Ok_if (fun e => rec y _ ?_ (by omega)) (fun e => Ok_bind (through_iv h2 n9 hsm) (fun w hw => Ok_nm (fun u wu => rec u _ ?_ (by omega))))
      · show y.toInt = lsN n s g R (k + 1)
        rw [lsN_s, ← ix, (bit0 hz2).mp e, if_neg (by decide)]
        exact hy
      · show u.toInt = lsN n s g R (k + 1)
        rw [lsN_s, ← ix, bit1 hz2 e, if_pos rfl, ← hw, ← hy, wu]
        exact min_iv
theorem cleastA_iv {n s g : Nat} {R F Rc : Nat → Int32} {i10 i11 i12 : Int32} (hI : FI n s g R F) (hR : same Rc R) (h10 : i10.toInt = n) (h11 : i11.toInt = s) (h12 : i12.toInt = g) : Ok (fX6_least i10 i11 i12 Rc) (fun z => z.toInt = least n s g R) := by
  unfold fX6_least
  exact Ok_bind (cleastRoom_iv hI.1.2 hI.2.1.1 hI.2.1.2.1 hR hI.smR h10 h11 h12) (fun z hz => Ok_some hz)
theorem leastA_iv {n s g : Nat} {R F : Nat → Int32} {i2 i5 i6 : Int32} (hI : FI n s g R F) (h2 : i2.toInt = n) (h5 : i5.toInt = s) (h6 : i6.toInt = g) : Ok (fX8_least_ i2 i5 i6 R) (fun z => z.toInt = least n s g R) := by
  unfold fX8_least_
  exact Ok_bind (leastNow_iv hI.1.2 hI.2.1.1 hI.2.1.2.1 hI.smR h2 h5 h6) (fun z hz => Ok_some hz)