/-! LEAST CUTS -/
theorem min_iv {w y : Int32} : (if w < y then w else y).toInt = if w.toInt < y.toInt then w.toInt else y.toInt := by
  by_cases h : w < y
  · rw [if_pos h, if_pos (i32lt h)]
  · rw [if_neg h, if_neg (by have := i32nlt h; omega)]
def lsN (n s g : Nat) (R : Nat → Int32) : Nat → Int
  | 0 => 2147483647
  | k + 1 => if ctb s g (Int32.ofNat k) = true then (if cap n R (Int32.ofNat k) < lsN n s g R k then cap n R (Int32.ofNat k) else lsN n s g R k) else lsN n s g R k
theorem lsN_s {n s g : Nat} {R : Nat → Int32} (k : Nat) : lsN n s g R (k + 1) = if ctb s g (Int32.ofNat k) = true then (if cap n R (Int32.ofNat k) < lsN n s g R k then cap n R (Int32.ofNat k) else lsN n s g R k) else lsN n s g R k := rfl
def least (n s g : Nat) (R : Nat → Int32) : Int := lsN n s g R (2 ^ n)
theorem cleastRoom_iv {n s g : Nat} {R Rc : Nat → Int32} {i2 i3 i4 : Int32} (n9 : n ≤ 9) (hs : s < n) (hg : g < n) (hR : same Rc R) (hsm : sm R) (h2 : i2.toInt = n) (h3 : i3.toInt = s) (h4 : i4.toInt = g) : Ok (fX0_leastRoom i2 i3 i4 Rc) (fun z => z.toInt = least n s g R) := by
  have p := (pwN n (by omega)).2
  unfold fX0_leastRoom least
  refine Ok_bind (allP_iv h2 n9) (fun z9 hz => ?_)
  have hz := hz.1
  generalize (2 ^ n : Nat) = N at *
  refine lpQ (L := fun c y i => LX0_leastRoom_L10 i2 i3 i4 Rc z9 c y i) (n := N) (Q := fun k y => y.toInt = lsN n s g R k) (fun c y i hi hy => ?_) (fun c y i k hk hi hy rec => ?_) (by omega) rfl
  · show Ok (BX0_leastRoom_L10 i2 i3 i4 Rc z9 y i (fun p q => LX0_leastRoom_L10 i2 i3 i4 Rc z9 c p q)) _
    unfold BX0_leastRoom_L10
    refine Ok_if (fun _ => Ok_some hy) (fun h => ?_)
    have h := i32nlt h
    omega
  · show Ok (BX0_leastRoom_L10 i2 i3 i4 Rc z9 y i (fun p q => LX0_leastRoom_L10 i2 i3 i4 Rc z9 c p q)) _
    unfold BX0_leastRoom_L10
    have ei := inc_iv (x := i) (by omega)
    have ix := idxN hi (by omega)
    refine Ok_if (fun h => ?_) (fun _ => Ok_bind (cisCut_iv h3 (by omega) h4 (by omega)) (fun z hz2 => Ok_jn (fun kk wk => ?_)))
    · have h := i32lt h
      omega
    · rw [wk]
      refine Ok_if (fun e => rec y _ ?_ (by omega)) (fun e => Ok_bind (across_iv h2 n9 hR hsm) (fun w hw => Ok_nm (fun u wu => rec u _ ?_ (by omega))))
      · show y.toInt = lsN n s g R (k + 1)
        rw [lsN_s, ← ix, (bit0 hz2).mp e, if_neg (by decide)]
        exact hy
      · show u.toInt = lsN n s g R (k + 1)
        rw [lsN_s, ← ix, bit1 hz2 e, if_pos rfl, ← hw, ← hy, wu]
        exact min_iv
theorem leastNow_iv {n s g : Nat} {R : Nat → Int32} {i2 i5 i6 : Int32} (n9 : n ≤ 9) (hs : s < n) (hg : g < n) (hsm : sm R) (h2 : i2.toInt = n) (h5 : i5.toInt = s) (h6 : i6.toInt = g) : Ok (fX8_leastNow i2 i5 i6 R) (fun z => z.toInt = least n s g R) := by
  have p := (pwN n (by omega)).2
  have e2 := shl2 h2 n9
  unfold fX8_leastNow fX8_least least
  refine Ok_bind (R := fun z => z.toInt = lsN n s g R (2 ^ n)) ?_ (fun z hz => Ok_some hz)
  generalize (2 ^ n : Nat) = N at *
  refine lpQ (L := fun c y i => LX8_least_L7 i2 R i5 i6 c y i) (n := N) (Q := fun k y => y.toInt = lsN n s g R k) (fun c y i hi hy => ?_) (fun c y i k hk hi hy rec => ?_) (by omega) rfl
  · show Ok (BX8_least_L7 i2 R i5 i6 y i (fun p q => LX8_least_L7 i2 R i5 i6 c p q)) _
    unfold BX8_least_L7
    refine Ok_if (fun _ => Ok_some hy) (fun h => ?_)
    have h := i32nle h
    omega
  · show Ok (BX8_least_L7 i2 R i5 i6 y i (fun p q => LX8_least_L7 i2 R i5 i6 c p q)) _
    unfold BX8_least_L7
    have ei := inc_iv (x := i) (by omega)
    have ix := idxN hi (by omega)
    refine Ok_if (fun h => ?_) (fun _ => Ok_bind (isCut_iv h5 (by omega) h6 (by omega)) (fun z hz2 => Ok_jn (fun kk wk => ?_)))
    · have h := i32le h
      omega
    · rw [wk]
      refine Ok_if (fun e => rec y _ ?_ (by omega)) (fun e => Ok_bind (through_iv h2 n9 hsm) (fun w hw => Ok_nm (fun u wu => rec u _ ?_ (by omega))))
      · show y.toInt = lsN n s g R (k + 1)
        rw [lsN_s, ← ix, (bit0 hz2).mp e, if_neg (by decide)]
        exact hy
      · show u.toInt = lsN n s g R (k + 1)
        rw [lsN_s, ← ix, bit1 hz2 e, if_pos rfl, ← hw, ← hy, wu]
        exact min_iv
def isL (n s g : Nat) (R : Nat → Int32) (m : Int) (v : Int32) : Bool := ctb s g v && decide (cap n R v = m)
theorem cisLeast_iv {n s g : Nat} {R Rc : Nat → Int32} {m : Int} {i4 i5 i6 i2 i3 : Int32} (n9 : n ≤ 9) (hs : s < n) (hg : g < n) (hR : same Rc R) (hsm : sm R) (h4 : i4.toInt = n) (h5 : i5.toInt = s) (h6 : i6.toInt = g) (h3 : i3.toInt = m) : Ok (fX0_isLeastCut i4 i5 i6 Rc i2 i3) (fun z => z = if isL n s g R m i2 = true then 1 else 0) := by
  unfold fX0_isLeastCut isL
  refine Ok_bind (cisCut_iv h5 (by omega) h6 (by omega)) (fun z hz => Ok_if (fun e => ?_) (fun e => Ok_bind (across_iv h4 n9 hR hsm) (fun y hy => Ok_if (fun d => ?_) (fun d => ?_))))
  · rw [(bit0 hz).mp e]; exact Ok_some rfl
  · rw [bit1 hz e, decide_eq_true (by rw [← hy, d, h3] : cap n R i2 = m)]; exact Ok_some rfl
  · rw [bit1 hz e, decide_eq_false (fun q => d (Int32.toInt_inj.mp (by rw [hy, q, h3])) : ¬ cap n R i2 = m)]; exact Ok_some rfl
theorem rtest {α : Type} {n s g : Nat} {R : Nat → Int32} {m : Int} {i2 i5 i6 v i31 : Int32} {P : α → Prop} {A B : Option α} (n9 : n ≤ 9) (hs : s < n) (hg : g < n) (hsm : sm R) (h2 : i2.toInt = n) (h5 : i5.toInt = s) (h6 : i6.toInt = g) (h31 : i31.toInt = m) (h0 : isL n s g R m v = false → Ok A P) (h1 : isL n s g R m v = true → Ok B P) : Ok ((fX8_isCut v i5 i6).bind (fun z34 => if z34 = (0 : Int32) then A else ((fX8_through i2 R v).bind (fun z37 => if z37 = i31 then B else A)))) P := by
  unfold isL at h0 h1
  refine Ok_bind (isCut_iv h5 (by omega) h6 (by omega)) (fun z hz => Ok_if (fun e => ?_) (fun e => Ok_bind (through_iv h2 n9 hsm) (fun y hy => Ok_if (fun d => ?_) (fun d => ?_))))
  · exact h0 (by rw [(bit0 hz).mp e]; rfl)
  · exact h1 (by rw [bit1 hz e, decide_eq_true (by rw [← hy, d, h31] : cap n R v = m)]; rfl)
  · exact h0 (by rw [bit1 hz e, decide_eq_false (fun q => d (Int32.toInt_inj.mp (by rw [hy, q, h31])) : ¬ cap n R v = m)]; rfl)
def cnN (n s g : Nat) (R : Nat → Int32) (m : Int) : Nat → Int
  | 0 => 0
  | k + 1 => cnN n s g R m k + (if isL n s g R m (Int32.ofNat k) = true then 1 else 0)
theorem cnN_s {n s g : Nat} {R : Nat → Int32} {m : Int} (k : Nat) : cnN n s g R m (k + 1) = cnN n s g R m k + (if isL n s g R m (Int32.ofNat k) = true then 1 else 0) := rfl
theorem cnN_b {n s g : Nat} {R : Nat → Int32} {m : Int} : ∀ k : Nat, 0 ≤ cnN n s g R m k ∧ cnN n s g R m k ≤ k
  | 0 => ⟨Int.le_refl _, Int.le_refl _⟩
  | k + 1 => by
    have := cnN_b (n := n) (s := s) (g := g) (R := R) (m := m) k
    rw [cnN_s]
    split <;> omega
theorem ccount_iv {n s g : Nat} {R F Rc : Nat → Int32} {i10 i11 i12 : Int32} (hI : FI n s g R F) (hR : same Rc R) (h10 : i10.toInt = n) (h11 : i11.toInt = s) (h12 : i12.toInt = g) : Ok (fX6_leasts i10 i11 i12 Rc) (fun z => z.toInt = cnN n s g R (least n s g R) (2 ^ n)) := by
  have n9 := hI.1
  have se := hI.2.1
  have p := (pwN n (by omega)).2
  unfold fX6_leasts fX0_countOfLeast
  refine Ok_bind (R := fun z => z.toInt = cnN n s g R (least n s g R) (2 ^ n)) ?_ (fun z hz => Ok_some hz)
  refine Ok_bind (allP_iv h10 n9.2) (fun z9 hz => Ok_bind (cleastRoom_iv n9.2 se.1 se.2.1 hR hI.smR h10 h11 h12) (fun m hm => ?_))
  have hz := hz.1
  generalize least n s g R = M at *
  generalize (2 ^ n : Nat) = N at *
  refine lpQ (L := fun c y i => LX0_countOfLeast_L15 i10 i11 i12 Rc z9 m c y i) (n := N) (Q := fun k y => y.toInt = cnN n s g R M k) (fun c y i hi hy => ?_) (fun c y i k hk hi hy rec => ?_) (by omega) rfl
  · show Ok (BX0_countOfLeast_L15 i10 i11 i12 Rc z9 m y i (fun p q => LX0_countOfLeast_L15 i10 i11 i12 Rc z9 m c p q)) _
    unfold BX0_countOfLeast_L15
    refine Ok_if (fun _ => Ok_some hy) (fun h => ?_)
    have h := i32nlt h
    omega
  · show Ok (BX0_countOfLeast_L15 i10 i11 i12 Rc z9 m y i (fun p q => LX0_countOfLeast_L15 i10 i11 i12 Rc z9 m c p q)) _
    unfold BX0_countOfLeast_L15
    have ei := inc_iv (x := i) (by omega)
    have ix := idxN hi (by omega)
    have cb := cnN_b (n := n) (s := s) (g := g) (R := R) (m := M) k
    have ey := inc_iv (x := y) (by omega)
    refine Ok_if (fun h => ?_) (fun _ => Ok_bind (cisLeast_iv n9.2 se.1 se.2.1 hR hI.smR h10 h11 h12 hm) (fun z hz2 => Ok_jn (fun kk wk => ?_)))
    · have h := i32lt h
      omega
    · rw [wk]
      refine Ok_if (fun e => rec y _ ?_ (by omega)) (fun e => rec _ _ ?_ (by omega))
      · show y.toInt = cnN n s g R M (k + 1)
        rw [cnN_s, ← ix, (bit0 hz2).mp e, if_neg (by decide), hy]
        omega
      · show (y + (1 : Int32)).toInt = cnN n s g R M (k + 1)
        rw [cnN_s, ← ix, bit1 hz2 e, if_pos rfl, ey, hy]
theorem leasts_iv {n s g : Nat} {R F : Nat → Int32} {i2 i5 i6 : Int32} (hI : FI n s g R F) (h2 : i2.toInt = n) (h5 : i5.toInt = s) (h6 : i6.toInt = g) : Ok (fX8_leasts i2 i5 i6 R) (fun z => z.toInt = cnN n s g R (least n s g R) (2 ^ n)) := by
  have n9 := hI.1
  have se := hI.2.1
  have p := (pwN n (by omega)).2
  have e2 := shl2 h2 n9.2
  unfold fX8_leasts fX8_leastsNow
  refine Ok_bind (R := fun z => z.toInt = cnN n s g R (least n s g R) (2 ^ n)) ?_ (fun z hz => Ok_some hz)
  refine Ok_bind (leastNow_iv n9.2 se.1 se.2.1 hI.smR h2 h5 h6) (fun m hm => ?_)
  generalize least n s g R = M at *
  generalize (2 ^ n : Nat) = N at *
  refine lpQ (L := fun c y i => LX8_leastsNow_L9 i2 i5 i6 R m c y i) (n := N) (Q := fun k y => y.toInt = cnN n s g R M k) (fun c y i hi hy => ?_) (fun c y i k hk hi hy rec => ?_) (by omega) rfl
  · show Ok (BX8_leastsNow_L9 i2 i5 i6 R m y i (fun p q => LX8_leastsNow_L9 i2 i5 i6 R m c p q)) _
    unfold BX8_leastsNow_L9
    refine Ok_if (fun _ => Ok_some hy) (fun h => ?_)
    have h := i32nle h
    omega
  · show Ok (BX8_leastsNow_L9 i2 i5 i6 R m y i (fun p q => LX8_leastsNow_L9 i2 i5 i6 R m c p q)) _
    unfold BX8_leastsNow_L9
    have ei := inc_iv (x := i) (by omega)
    have ix := idxN hi (by omega)
    have cb := cnN_b (n := n) (s := s) (g := g) (R := R) (m := M) k
    have ey := inc_iv (x := y) (by omega)
    refine Ok_if (fun h => ?_) (fun _ => ?_)
    · have h := i32le h
      omega
    · refine rtest (A := LX8_leastsNow_L9 i2 i5 i6 R m c y (i + (1 : Int32))) (B := LX8_leastsNow_L9 i2 i5 i6 R m c (y + (1 : Int32)) (i + (1 : Int32))) n9.2 se.1 se.2.1 hI.smR h2 h5 h6 hm (fun e => rec y _ ?_ (by omega)) (fun e => rec _ _ ?_ (by omega))
      · show y.toInt = cnN n s g R M (k + 1)
        rw [cnN_s, ← ix, e, if_neg (by decide), hy]
        omega
      · show (y + (1 : Int32)).toInt = cnN n s g R M (k + 1)
        rw [cnN_s, ← ix, e, if_pos rfl, ey, hy]