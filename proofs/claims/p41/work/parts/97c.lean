/-! LEAST CUTS -/
theorem min_iv {w y : Int32} : (if w < y then w else y).toInt = if w.toInt < y.toInt then w.toInt else y.toInt := by
  by_cases h : w < y
  · rw [if_pos h, if_pos (i32lt h)]
  · rw [if_neg h, if_neg (by have := i32nlt h; omega)]
def lsN (n s g : Nat) (R : Nat → Int32) : Nat → Int
  | 0 => 2147483647
  | k + 1 => if ctb s g (Int32.ofNat k) = true then (if cap n R (Int32.ofNat k) < lsN n s g R k then cap n R (Int32.ofNat k) else lsN n s g R k) else lsN n s g R k
theorem lsN_s {n s g : Nat} {R : Nat → Int32} (k : Nat) : lsN n s g R (k + 1) = if ctb s g (Int32.ofNat k) = true then (if cap n R (Int32.ofNat k) < lsN n s g R k then cap n R (Int32.ofNat k) else lsN n s g R k) else lsN n s g R k := rfl
def least (n s g : Nat) (R : Nat → Int32) : Int := lsN n s g R (2 ^ n)
theorem cleastRoom_iv {n s g : Nat} {R Rc : Nat → Int32} {i2 i3 i4 : Int32} (n9 : n ≤ 9) (hs : s < n) (hg : g < n) (hR : same Rc R) (hsm : sm R) (h2 : i2.toInt = n) (h3 : i3.toInt = s) (h4 : i4.toInt = g) : Ok (fX0_leastRoom i2 i3 i4 Rc) (fun z => z.toInt = least n s g R) := by
  have p := (pwN n (by omega)).2
  unfold fX0_leastRoom least
  refine Ok_bind (allP_iv h2 n9) (fun z9 hz => ?_)
  have hz := hz.1
  generalize (2 ^ n : Nat) = N at *
  refine lpQ (L := fun c y i => LX0_leastRoom_L10 i2 i3 i4 Rc z9 c y i) (n := N) (Q := fun k y => y.toInt = lsN n s g R k) (fun c y i hi hy => ?_) (fun c y i k hk hi hy rec => ?_) (by omega) rfl
  · show Ok (BX0_leastRoom_L10 i2 i3 i4 Rc z9 y i (fun p q => LX0_leastRoom_L10 i2 i3 i4 Rc z9 c p q)) _
    unfold BX0_leastRoom_L10
    refine Ok_if (fun _ => Ok_some hy) (fun h => ?_)
    have h := i32nlt h
    omega
  · show Ok (BX0_leastRoom_L10 i2 i3 i4 Rc z9 y i (fun p q => LX0_leastRoom_L10 i2 i3 i4 Rc z9 c p q)) _
    unfold BX0_leastRoom_L10
    have ei := inc_iv (x := i) (by omega)
    have ix := idxN hi (by omega)
    refine Ok_if (fun h => ?_) (fun _ => Ok_bind (cisCut_iv h3 (by omega) h4 (by omega)) (fun z hz2 => Ok_jn (fun kk wk => ?_)))
    · have h := i32lt h
      omega
    · rw [wk]
      refine Ok_if (fun e => rec y _ ?_ (by omega)) (fun e => Ok_bind (across_iv h2 n9 hR hsm) (fun w hw => Ok_nm (fun u wu => rec u _ ?_ (by omega))))
      · show y.toInt = lsN n s g R (k + 1)
        rw [lsN_s, ← ix, (bit0 hz2).mp e, if_neg (by decide)]
        exact hy
      · show u.toInt = lsN n s g R (k + 1)
        rw [lsN_s, ← ix, bit1 hz2 e, if_pos rfl, ← hw, ← hy, wu]
        exact min_iv
theorem leastNow_iv {n s g : Nat} {R : Nat → Int32} {i2 i5 i6 : Int32} (n9 : n ≤ 9) (hs : s < n) (hg : g < n) (hsm : sm R) (h2 : i2.toInt = n) (h5 : i5.toInt = s) (h6 : i6.toInt = g) : Ok (fX8_leastNow i2 i5 i6 R) (fun z => z.toInt = least n s g R) := by
  have p := (pwN n (by omega)).2
  have e2 := shl2 h2 n9
  unfold fX8_leastNow fX8_least least
  refine Ok_bind (R := fun z => z.toInt = lsN n s g R (2 ^ n)) ?_ (fun z hz => Ok_some hz)
  generalize (2 ^ n : Nat) = N at *
  refine lpQ (L := fun c y i => LX8_least_L7 i2 R i5 i6 c y i) (n := N) (Q := fun k y => y.toInt = lsN n s g R k) (fun c y i hi hy => ?_) (fun c y i k hk hi hy rec => ?_) (by omega) rfl
  · show Ok (BX8_least_L7 i2 R i5 i6 y i (fun p q => LX8_least_L7 i2 R i5 i6 c p q)) _
    unfold BX8_least_L7
    refine Ok_if (fun _ => Ok_some hy) (fun h => ?_)
    have h := i32nle h
    omega
  · show Ok (BX8_least_L7 i2 R i5 i6 y i (fun p q => LX8_least_L7 i2 R i5 i6 c p q)) _
    unfold BX8_least_L7
    have ei := inc_iv (x := i) (by omega)
    have ix := idxN hi (by omega)
    refine Ok_if (fun h => ?_) (fun _ => Ok_bind (isCut_iv h5 (by omega) h6 (by omega)) (fun z hz2 => Ok_jn (fun kk wk => ?_)))
    · have h := i32le h
      omega
    · rw [wk]
      refine Ok_if (fun e => rec y _ ?_ (by omega)) (fun e => Ok_bind (through_iv h2 n9 hsm) (fun w hw => Ok_nm (fun u wu => rec u _ ?_ (by omega))))
      · show y.toInt = lsN n s g R (k + 1)
        rw [lsN_s, ← ix, (bit0 hz2).mp e, if_neg (by decide)]
        exact hy
      · show u.toInt = lsN n s g R (k + 1)
        rw [lsN_s, ← ix, bit1 hz2 e, if_pos rfl, ← hw, ← hy, wu]
        exact min_iv
def isL (n s g : Nat) (R : Nat → Int32) (m : Int) (v : Int32) : Bool := ctb s g v && decide (cap n R v = m)
theorem cisLeast_iv {n s g : Nat} {R Rc : Nat → Int32} {m : Int} {i4 i5 i6 i2 i3 : Int32} (n9 : n ≤ 9) (hs : s < n) (hg : g < n) (hR : same Rc R) (hsm : sm R) (h4 : i4.toInt = n) (h5 : i5.toInt = s) (h6 : i6.toInt = g) (h3 : i3.toInt = m) : Ok (fX0_isLeastCut i4 i5 i6 Rc i2 i3) (fun z => z = if isL n s g R m i2 = true then 1 else 0) := by
  unfold fX0_isLeastCut isL
  refine Ok_bind (cisCut_iv h5 (by omega) h6 (by omega)) (fun z hz => Ok_if (fun e => ?_) (fun e => Ok_bind (across_iv h4 n9 hR hsm) (fun y hy => Ok_if (fun d => ?_) (fun d => ?_))))
  · rw [(bit0 hz).mp e]; exact Ok_some rfl
  · rw [bit1 hz e, decide_eq_true (by rw [← hy, d, h3] : cap n R i2 = m)]; exact Ok_some rfl
  · rw [bit1 hz e, decide_eq_false (fun q => d (Int32.toInt_inj.mp (by rw [hy, q, h3])) : ¬ cap n R i2 = m)]; exact Ok_some rfl
theorem rtest {α : Type} {n s g : Nat} {R : Nat → Int32} {m : Int} {i2 i5 i6 v i31 : Int32} {P : α → Prop} {A B : Option α} (n9 : n ≤ 9) (hs : s < n) (hg : g < n) (hsm : sm R) (h2 : i2.toInt = n) (h5 : i5.toInt = s) (h6 : i6.toInt = g) (h31 : i31.toInt = m) (h0 : isL n s g R m v = false → Ok A P) (h1 : isL n s g R m v = true → Ok B P) : Ok ((fX8_isCut v i5 i6).bind (fun z34 => if z34 = (0 : Int32) then A else ((fX8_through i2 R v).bind (fun z37 => if z37 = i31 then B else A)))) P := by
  unfold isL at h0 h1
  refine Ok_bind (isCut_iv h5 (by omega) h6 (by omega)) (fun z hz => Ok_if (fun e => ?_) (fun e => Ok_bind (through_iv h2 n9 hsm) (fun y hy => Ok_if (fun d => ?_) (fun d => ?_))))
  · exact h0 (by rw [(bit0 hz).mp e]; rfl)
  · exact h1 (by rw [bit1 hz e, decide_eq_true (by rw [← hy, d, h31] : cap n R v = m)]; rfl)
  · exact h0 (by rw [bit1 hz e, decide_eq_false (fun q => d (Int32.toInt_inj.mp (by rw [hy, q, h31])) : ¬ cap n R v = m)]; rfl)
def firstN (p : Nat → Prop) (N : Nat) (v : Int) : Prop := (v = -1 ∧ ∀ k, k < N → ¬ p k) ∨ ∃ k : Nat, k < N ∧ v = k ∧ p k ∧ ∀ j, j < k → ¬ p j
def endN (n s g : Nat) (R : Nat → Int32) (m : Int) (w : Bool) (a0 : Int32) : Nat → Int32
  | 0 => a0
  | k + 1 => if isL n s g R m (Int32.ofNat k) = true then (if w = true then endN n s g R m w a0 k &&& Int32.ofNat k else endN n s g R m w a0 k ||| Int32.ofNat k) else endN n s g R m w a0 k
theorem endN_s {n s g : Nat} {R : Nat → Int32} {m : Int} {w : Bool} {a0 : Int32} (k : Nat) : endN n s g R m w a0 (k + 1) = if isL n s g R m (Int32.ofNat k) = true then (if w = true then endN n s g R m w a0 k &&& Int32.ofNat k else endN n s g R m w a0 k ||| Int32.ofNat k) else endN n s g R m w a0 k := rfl
def A_end (n s g : Nat) (R : Nat → Int32) (i2 : Int32) : Int32 := if i2 = 0 then endN n s g R (least n s g R) true (((1 : Int32) <<< (Int32.ofNat n &&& 31)) - (1 : Int32)) (2 ^ n) else endN n s g R (least n s g R) false 0 (2 ^ n)
theorem cend_iv {n s g : Nat} {R F Rc : Nat → Int32} {i11 i12 i13 i2 : Int32} (hI : FI n s g R F) (hR : same Rc R) (h11 : i11.toInt = n) (h12 : i12.toInt = s) (h13 : i13.toInt = g) : Ok (fX6_end i11 i12 i13 Rc i2) (fun z => z = A_end n s g R i2) := by
  have n9 := hI.1
  have se := hI.2.1
  have p := (pwN n (by omega)).2
  unfold fX6_end A_end
  refine Ok_if (fun e => ?_) (fun e => ?_)
  · rw [if_pos e]
    refine Ok_bind (R := fun z => z = endN n s g R (least n s g R) true (((1 : Int32) <<< (Int32.ofNat n &&& 31)) - (1 : Int32)) (2 ^ n)) ?_ (fun z hz => Ok_some hz)
    unfold fX0_nearest
    refine Ok_bind (cleastRoom_iv n9.2 se.1 se.2.1 hR hI.smR h11 h12 h13) (fun m hm => Ok_bind (allP_iv h11 n9.2) (fun z9 hz => ?_))
    obtain ⟨hz, hz9⟩ := hz
    rw [ofN h11 (by omega)] at hz9
    rw [← hz9]
    generalize least n s g R = M at *
    generalize (2 ^ n : Nat) = N at *
    refine lpQ (L := fun c y i => LX0_nearest_L15 i11 i12 i13 Rc m z9 c y i) (n := N) (Q := fun k y => y = endN n s g R M true z9 k) (fun c y i hi hy => ?_) (fun c y i k hk hi hy rec => ?_) (by omega) rfl
    · show Ok (BX0_nearest_L15 i11 i12 i13 Rc m z9 y i (fun p q => LX0_nearest_L15 i11 i12 i13 Rc m z9 c p q)) _
      unfold BX0_nearest_L15
      refine Ok_if (fun _ => Ok_some hy) (fun h => ?_)
      have h := i32nlt h
      omega
    · show Ok (BX0_nearest_L15 i11 i12 i13 Rc m z9 y i (fun p q => LX0_nearest_L15 i11 i12 i13 Rc m z9 c p q)) _
      unfold BX0_nearest_L15
      have ei := inc_iv (x := i) (by omega)
      have ix := idxN hi (by omega)
      refine Ok_if (fun h => ?_) (fun _ => Ok_bind (cisLeast_iv n9.2 se.1 se.2.1 hR hI.smR h11 h12 h13 hm) (fun z hz2 => Ok_jn (fun kk wk => ?_)))
      · have h := i32lt h
        omega
      · rw [wk]
        refine Ok_if (fun e => rec y _ ?_ (by omega)) (fun e => Ok_nm (fun u wu => rec u _ ?_ (by omega)))
        · show y = endN n s g R M true z9 (k + 1)
          rw [endN_s, ← ix, (bit0 hz2).mp e, if_neg (by decide)]
          exact hy
        · show u = endN n s g R M true z9 (k + 1)
          rw [endN_s, ← ix, bit1 hz2 e, if_pos rfl, if_pos rfl, wu, ← hy]
  · rw [if_neg e]
    refine Ok_bind (R := fun z => z = endN n s g R (least n s g R) false 0 (2 ^ n)) ?_ (fun z hz => Ok_some hz)
    unfold fX0_farthest
    refine Ok_bind (allP_iv h11 n9.2) (fun z9 hz => Ok_bind (cleastRoom_iv n9.2 se.1 se.2.1 hR hI.smR h11 h12 h13) (fun m hm => ?_))
    have hz := hz.1
    generalize least n s g R = M at *
    generalize (2 ^ n : Nat) = N at *
    refine lpQ (L := fun c y i => LX0_farthest_L15 i11 i12 i13 Rc z9 m c y i) (n := N) (Q := fun k y => y = endN n s g R M false 0 k) (fun c y i hi hy => ?_) (fun c y i k hk hi hy rec => ?_) (by omega) rfl
    · show Ok (BX0_farthest_L15 i11 i12 i13 Rc z9 m y i (fun p q => LX0_farthest_L15 i11 i12 i13 Rc z9 m c p q)) _
      unfold BX0_farthest_L15
      refine Ok_if (fun _ => Ok_some hy) (fun h => ?_)
      have h := i32nlt h
      omega
    · show Ok (BX0_farthest_L15 i11 i12 i13 Rc z9 m y i (fun p q => LX0_farthest_L15 i11 i12 i13 Rc z9 m c p q)) _
      unfold BX0_farthest_L15
      have ei := inc_iv (x := i) (by omega)
      have ix := idxN hi (by omega)
      refine Ok_if (fun h => ?_) (fun _ => Ok_bind (cisLeast_iv n9.2 se.1 se.2.1 hR hI.smR h11 h12 h13 hm) (fun z hz2 => Ok_jn (fun kk wk => ?_)))
      · have h := i32lt h
        omega
      · rw [wk]
        refine Ok_if (fun e => rec y _ ?_ (by omega)) (fun e => Ok_nm (fun u wu => rec u _ ?_ (by omega)))
        · show y = endN n s g R M false 0 (k + 1)
          rw [endN_s, ← ix, (bit0 hz2).mp e, if_neg (by decide)]
          exact hy
        · show u = endN n s g R M false 0 (k + 1)
          rw [endN_s, ← ix, bit1 hz2 e, if_pos rfl, if_neg (by decide), wu, ← hy]
theorem end_iv {n s g : Nat} {R F : Nat → Int32} {i3 i6 i7 i2 : Int32} (hI : FI n s g R F) (h3 : i3.toInt = n) (h6 : i6.toInt = s) (h7 : i7.toInt = g) : Ok (fX8_end i3 i6 i7 R i2) (fun z => z = A_end n s g R i2) := by
  have n9 := hI.1
  have se := hI.2.1
  have p := (pwN n (by omega)).2
  have e2 := shl2 h3 n9.2
  unfold fX8_end
  refine Ok_bind (R := fun z => z = A_end n s g R i2) ?_ (fun z hz => Ok_some hz)
  unfold fX8_endNow A_end
  refine Ok_bind (leastNow_iv n9.2 se.1 se.2.1 hI.smR h3 h6 h7) (fun m hm => ?_)
  rw [← ofN h3 (by omega)]
  generalize least n s g R = M at *
  generalize (2 ^ n : Nat) = N at *
  have go : ∀ (w : Bool) (a0 : Int32), (i2 = 0 ↔ w = true) → Ok (LX8_endNow_L25 i3 i6 i7 R i2 m 600 a0 0) (fun z => z = endN n s g R M w a0 N) := by
    intro w a0 hw
    refine lpQ (L := fun c y i => LX8_endNow_L25 i3 i6 i7 R i2 m c y i) (n := N) (Q := fun k y => y = endN n s g R M w a0 k) (fun c y i hi hy => ?_) (fun c y i k hk hi hy rec => ?_) (by omega) rfl
    · show Ok (BX8_endNow_L25 i3 i6 i7 R i2 m y i (fun p q => LX8_endNow_L25 i3 i6 i7 R i2 m c p q)) _
      unfold BX8_endNow_L25
      refine Ok_if (fun _ => Ok_some hy) (fun h => ?_)
      have h := i32nle h
      omega
    · show Ok (BX8_endNow_L25 i3 i6 i7 R i2 m y i (fun p q => LX8_endNow_L25 i3 i6 i7 R i2 m c p q)) _
      unfold BX8_endNow_L25
      have ei := inc_iv (x := i) (by omega)
      have ix := idxN hi (by omega)
      refine Ok_if (fun h => ?_) (fun _ => ?_)
      · have h := i32le h
        omega
      · refine rtest (A := LX8_endNow_L25 i3 i6 i7 R i2 m c y (i + (1 : Int32))) (B := if i2 = (0 : Int32) then LX8_endNow_L25 i3 i6 i7 R i2 m c (y &&& i) (i + (1 : Int32)) else LX8_endNow_L25 i3 i6 i7 R i2 m c (y ||| i) (i + (1 : Int32))) n9.2 se.1 se.2.1 hI.smR h3 h6 h7 hm (fun e => rec y _ ?_ (by omega)) (fun e => Ok_if (fun d => rec _ _ ?_ (by omega)) (fun d => rec _ _ ?_ (by omega)))
        · show y = endN n s g R M w a0 (k + 1)
          rw [endN_s, ← ix, e, if_neg (by decide)]
          exact hy
        · show y &&& i = endN n s g R M w a0 (k + 1)
          rw [endN_s, ← ix, e, if_pos rfl, if_pos (hw.mp d), ← hy]
        · show y ||| i = endN n s g R M w a0 (k + 1)
          rw [endN_s, ← ix, e, if_pos rfl, if_neg (fun q => d (hw.mpr q)), ← hy]
  refine Ok_jn (fun kk wk => ?_)
  rw [wk]
  refine Ok_if (fun e => ?_) (fun e => ?_)
  · rw [if_pos e]
    exact go true _ ⟨fun _ => rfl, fun _ => e⟩
  · rw [if_neg e]
    exact go false _ ⟨fun q => absurd q e, fun q => absurd q (by decide)⟩
