/-! LEAST CUTS -/
theorem min_iv {w y : Int32} : (if w < y then w else y).toInt = if w.toInt < y.toInt then w.toInt else y.toInt := by
  by_cases h : w < y
  · rw [if_pos h, if_pos (i32lt h)]
  · rw [if_neg h, if_neg (by have := i32nlt h; omega)]
def lsN (n s g : Nat) (R : Nat → Int32) : Nat → Int
  | 0 => 2147483647
  | k + 1 => if ctb s g (Int32.ofNat k) = true then (if cap n R (Int32.ofNat k) < lsN n s g R k then cap n R (Int32.ofNat k) else lsN n s g R k) else lsN n s g R k
theorem lsN_s {n s g : Nat} {R : Nat → Int32} (k : Nat) : lsN n s g R (k + 1) = if ctb s g (Int32.ofNat k) = true then (if cap n R (Int32.ofNat k) < lsN n s g R k then cap n R (Int32.ofNat k) else lsN n s g R k) else lsN n s g R k := rfl
def least (n s g : Nat) (R : Nat → Int32) : Int := lsN n s g R (2 ^ n)
theorem cleastRoom_iv {n s g : Nat} {R Rc : Nat → Int32} {i2 i3 i4 : Int32} (n9 : n ≤ 9) (hs : s < n) (hg : g < n) (hR : same Rc R) (hsm : sm R) (h2 : i2.toInt = n) (h3 : i3.toInt = s) (h4 : i4.toInt = g) : Ok (fX0_leastRoom i2 i3 i4 Rc) (fun z => z.toInt = least n s g R) := by
  have p := (pwN n (by omega)).2
  unfold fX0_leastRoom least
  refine Ok_bind (allP_iv h2 n9) (fun z9 hz => ?_)
  have hz := hz.1
  generalize (2 ^ n : Nat) = N at *
  refine lpQ (L := fun c y i => LX0_leastRoom_L10 i2 i3 i4 Rc z9 c y i) (n := N) (Q := fun k y => y.toInt = lsN n s g R k) (fun c y i hi hy => ?_) (fun c y i k hk hi hy rec => ?_) (by omega) rfl
  · show Ok (BX0_leastRoom_L10 i2 i3 i4 Rc z9 y i (fun p q => LX0_leastRoom_L10 i2 i3 i4 Rc z9 c p q)) _
    unfold BX0_leastRoom_L10
    refine Ok_if (fun _ => Ok_some hy) (fun h => ?_)
    have h := i32nlt h
    omega
  · show Ok (BX0_leastRoom_L10 i2 i3 i4 Rc z9 y i (fun p q => LX0_leastRoom_L10 i2 i3 i4 Rc z9 c p q)) _
    unfold BX0_leastRoom_L10
    have ei := inc_iv (x := i) (by omega)
    have ix := idxN hi (by omega)
    refine Ok_if (fun h => ?_) (fun _ => Ok_bind (cisCut_iv h3 (by omega) h4 (by omega)) (fun z hz2 => Ok_jn (fun kk wk => ?_)))
    · have h := i32lt h
      omega
    · rw [wk]
      refine Ok_if (fun e => rec y _ ?_ (by omega)) (fun e => Ok_bind (across_iv h2 n9 hR hsm) (fun w hw => Ok_nm (fun u wu => rec u _ ?_ (by omega))))
      · show y.toInt = lsN n s g R (k + 1)
        rw [lsN_s, ← ix, (bit0 hz2).mp e, if_neg (by decide)]
        exact hy
      · show u.toInt = lsN n s g R (k + 1)
        rw [lsN_s, ← ix, bit1 hz2 e, if_pos rfl, ← hw, ← hy, wu]
        exact min_iv
theorem leastNow_iv {n s g : Nat} {R : Nat → Int32} {i2 i5 i6 : Int32} (n9 : n ≤ 9) (hs : s < n) (hg : g < n) (hsm : sm R) (h2 : i2.toInt = n) (h5 : i5.toInt = s) (h6 : i6.toInt = g) : Ok (fX8_leastNow i2 i5 i6 R) (fun z => z.toInt = least n s g R) := by
  have p := (pwN n (by omega)).2
  have e2 := shl2 h2 n9
  unfold fX8_leastNow fX8_least least
  refine Ok_bind (R := fun z => z.toInt = lsN n s g R (2 ^ n)) ?_ (fun z hz => Ok_some hz)
  generalize (2 ^ n : Nat) = N at *
  refine lpQ (L := fun c y i => LX8_least_L7 i2 R i5 i6 c y i) (n := N) (Q := fun k y => y.toInt = lsN n s g R k) (fun c y i hi hy => ?_) (fun c y i k hk hi hy rec => ?_) (by omega) rfl
  · show Ok (BX8_least_L7 i2 R i5 i6 y i (fun p q => LX8_least_L7 i2 R i5 i6 c p q)) _
    unfold BX8_least_L7
    refine Ok_if (fun _ => Ok_some hy) (fun h => ?_)
    have h := i32nle h
    omega
  · show Ok (BX8_least_L7 i2 R i5 i6 y i (fun p q => LX8_least_L7 i2 R i5 i6 c p q)) _
    unfold BX8_least_L7
    have ei := inc_iv (x := i) (by omega)
    have ix := idxN hi (by omega)
    refine Ok_if (fun h => ?_) (fun _ => Ok_bind (isCut_iv h5 (by omega) h6 (by omega)) (fun z hz2 => Ok_jn (fun kk wk => ?_)))
    · have h := i32le h
      omega
    · rw [wk]
      refine Ok_if (fun e => rec y _ ?_ (by omega)) (fun e => Ok_bind (through_iv h2 n9 hsm) (fun w hw => Ok_nm (fun u wu => rec u _ ?_ (by omega))))
      · show y.toInt = lsN n s g R (k + 1)
        rw [lsN_s, ← ix, (bit0 hz2).mp e, if_neg (by decide)]
        exact hy
      · show u.toInt = lsN n s g R (k + 1)
        rw [lsN_s, ← ix, bit1 hz2 e, if_pos rfl, ← hw, ← hy, wu]
        exact min_iv
def isL (n s g : Nat) (R : Nat → Int32) (m : Int) (v : Int32) : Bool := ctb s g v && decide (cap n R v = m)
theorem cisLeast_iv {n s g : Nat} {R Rc : Nat → Int32} {m : Int} {i4 i5 i6 i2 i3 : Int32} (n9 : n ≤ 9) (hs : s < n) (hg : g < n) (hR : same Rc R) (hsm : sm R) (h4 : i4.toInt = n) (h5 : i5.toInt = s) (h6 : i6.toInt = g) (h3 : i3.toInt = m) : Ok (fX0_isLeastCut i4 i5 i6 Rc i2 i3) (fun z => z = if isL n s g R m i2 = true then 1 else 0) := by
  unfold fX0_isLeastCut isL
  refine Ok_bind (cisCut_iv h5 (by omega) h6 (by omega)) (fun z hz => Ok_if (fun e => ?_) (fun e => Ok_bind (across_iv h4 n9 hR hsm) (fun y hy => Ok_if (fun d => ?_) (fun d => ?_))))
  · rw [(bit0 hz).mp e]; exact Ok_some rfl
  · rw [bit1 hz e, decide_eq_true (by rw [← hy, d, h3] : cap n R i2 = m)]; exact Ok_some rfl
  · rw [bit1 hz e, decide_eq_false (fun q => d (Int32.toInt_inj.mp (by rw [hy, q, h3])) : ¬ cap n R i2 = m)]; exact Ok_some rfl
def A_isL (n s g : Nat) (R : Nat → Int32) (v : Int32) : Int := if isL n s g R (least n s g R) v = true then 1 else 0
theorem xcq1b {x : Option (String ⊕ Int32)} {l : Int64} {c : Prop} {A : Int → Prop} (h : Ok x (XQ IAE IAE c True A)) (hb : ∀ v : Int32, A v.toInt → v = 0 ∨ v = 1) : Ok (xc x (fun en => if en = IAE then (some ((1 : Int32), l)) else none) (fun z21 => jn (fun (l24 : Int64) => some ((0 : Int32), l24)) (fun (k22 : Int64 → Option (Int32 × Int64)) => if z21 = (0 : Int32) then (k22 (0 : Int64)) else (k22 (1 : Int64))))) (fun z => CQ c True A z.1 z.2) := by
  obtain ⟨z, rfl, h2⟩ := h
  rcases h2 with ⟨q, rfl⟩ | ⟨q, p, rfl⟩ | ⟨q, p, v, rfl, d⟩
  · show Ok (if IAE = IAE then (some ((1 : Int32), l)) else none) _
    rw [if_pos rfl]
    exact Ok_some (Or.inl ⟨q, rfl⟩)
  · exact absurd trivial p
  · show Ok (if v = (0 : Int32) then (some ((0 : Int32), (0 : Int64))) else (some ((0 : Int32), (1 : Int64)))) _
    rcases hb v d with rfl | rfl
    · rw [if_pos rfl]
      exact Ok_some (Or.inr (Or.inr ⟨q, p, rfl, 0, by decide, d⟩))
    · rw [if_neg one_ne]
      exact Ok_some (Or.inr (Or.inr ⟨q, p, rfl, 1, by decide, d⟩))
theorem bit_or {b : Bool} {z : Int32} (h : z = if b = true then 1 else 0) : z = 0 ∨ z = 1 := by
  cases b
  · exact Or.inl h
  · exact Or.inr h
theorem bit_i {b : Bool} {z : Int32} (h : z = if b = true then 1 else 0) : z.toInt = if b = true then 1 else 0 := by
  cases b
  · rw [h]; rfl
  · rw [h]; rfl
theorem cisLeastA_iv {n s g : Nat} {R F Rc : Nat → Int32} {i12 i13 i14 i2 : Int32} {l19 : Int64} (hI : FI n s g R F) (hR : same Rc R) (h12 : i12.toInt = n) (h13 : i13.toInt = s) (h14 : i14.toInt = g) : Ok (fL_isLeast i12 i13 i14 Rc l19 i2) (fun z => CQ (isst n i2) True (fun v => v = A_isL n s g R i2) z.1 z.2) := by
  have n9 := hI.1
  have se := hI.2.1
  unfold fL_isLeast
  refine xcq1b ?_ (fun v hv => ?_)
  · unfold fX6_isLeast
    refine xb_need (needSet_iv h12 n9.2) (fun q => Or.inl ⟨q, rfl⟩) (fun q => Ok_bind (cleastRoom_iv n9.2 se.1 se.2.1 hR hI.smR h12 h13 h14) (fun y hy => Ok_bind (cisLeast_iv n9.2 se.1 se.2.1 hR hI.smR h12 h13 h14 hy) (fun z hz => Ok_bz (bit_or hz) ?_)))
    exact ⟨_, rfl, Or.inr (Or.inr ⟨q, trivial, _, rfl, bit_i hz⟩)⟩
  · unfold A_isL at hv
    split at hv
    · exact Or.inr (Int32.toInt_inj.mp hv)
    · exact Or.inl (Int32.toInt_inj.mp hv)
theorem isLeastA_iv {n s g : Nat} {R F : Nat → Int32} {i3 i6 i7 i2 : Int32} (hI : FI n s g R F) (h3 : i3.toInt = n) (h6 : i6.toInt = s) (h7 : i7.toInt = g) : Ok (fX8_isLeast i3 i6 i7 R i2) (fun z => RQ (isst n i2) True (fun v => v = A_isL n s g R i2) z.2 z.1) := by
  have n9 := hI.1
  have se := hI.2.1
  unfold fX8_isLeast
  refine fl_of (isSet_iv h3 n9.2) (fun i hi => ?_)
  refine thrown1 hi (fun q => ⟨_, rfl, Or.inl ⟨q, rfl⟩⟩) (fun q => Ok_if (fun _ => ?_) (fun h => absurd rfl h))
  refine Ok_bind (isCut_iv h6 (by omega) h7 (by omega)) (fun z hz => Ok_if (fun e => ?_) (fun e => Ok_bind (through_iv h3 n9.2 hI.smR) (fun y hy => Ok_bind (leastNow_iv n9.2 se.1 se.2.1 hI.smR h3 h6 h7) (fun x hx => Ok_if (fun d => ?_) (fun d => ?_)))))
  · exact ⟨_, rfl, Or.inr (Or.inr ⟨q, trivial, rfl, by unfold A_isL isL; rw [(bit0 hz).mp e]; rfl⟩)⟩
  · exact ⟨_, rfl, Or.inr (Or.inr ⟨q, trivial, rfl, by unfold A_isL isL; rw [bit1 hz e, decide_eq_true (by rw [← hy, d, hx] : cap n R i2 = least n s g R)]; rfl⟩)⟩
  · exact ⟨_, rfl, Or.inr (Or.inr ⟨q, trivial, rfl, by unfold A_isL isL; rw [bit1 hz e, decide_eq_false (fun w => d (Int32.toInt_inj.mp (by rw [hy, w, hx])) : ¬ cap n R i2 = least n s g R)]; rfl⟩)⟩