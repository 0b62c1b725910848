/-! LEAST CUTS -/
theorem min_iv {w y : Int32} : (if w < y then w else y).toInt = if w.toInt < y.toInt then w.toInt else y.toInt := by
  by_cases h : w < y
  · rw [if_pos h, if_pos (i32lt h)]
  · rw [if_neg h, if_neg (by have := i32nlt h; omega)]
def lsN (n s g : Nat) (R : Nat → Int32) : Nat → Int
  | 0 => 2147483647
  | k + 1 => if ctb s g (Int32.ofNat k) = true then (if cap n R (Int32.ofNat k) < lsN n s g R k then cap n R (Int32.ofNat k) else lsN n s g R k) else lsN n s g R k
theorem lsN_s {n s g : Nat} {R : Nat → Int32} (k : Nat) : lsN n s g R (k + 1) = if ctb s g (Int32.ofNat k) = true then (if cap n R (Int32.ofNat k) < lsN n s g R k then cap n R (Int32.ofNat k) else lsN n s g R k) else lsN n s g R k := rfl
def least (n s g : Nat) (R : Nat → Int32) : Int := lsN n s g R (2 ^ n)
theorem cleastRoom_iv {n s g : Nat} {R Rc : Nat → Int32} {i2 i3 i4 : Int32} (n9 : n ≤ 9) (hs : s < n) (hg : g < n) (hR : same Rc R) (hsm : sm R) (h2 : i2.toInt = n) (h3 : i3.toInt = s) (h4 : i4.toInt = g) : Ok (fX0_leastRoom i2 i3 i4 Rc) (fun z => z.toInt = least n s g R) := by
  have p := (pwN n (by omega)).2
  unfold fX0_leastRoom least
  refine Ok_bind (allP_iv h2 n9) (fun z9 hz => ?_)
  have hz := hz.1
  generalize (2 ^ n : Nat) = N at *
  refine lpQ (L := fun c y i => LX0_leastRoom_L10 i2 i3 i4 Rc z9 c y i) (n := N) (Q := fun k y => y.toInt = lsN n s g R k) (fun c y i hi hy => ?_) (fun c y i k hk hi hy rec => ?_) (by omega) rfl
  · show Ok (BX0_leastRoom_L10 i2 i3 i4 Rc z9 y i (fun p q => LX0_leastRoom_L10 i2 i3 i4 Rc z9 c p q)) _
    unfold BX0_leastRoom_L10
    refine Ok_if (fun _ => Ok_some hy) (fun h => ?_)
    have h := i32nlt h
    omega
  · show Ok (BX0_leastRoom_L10 i2 i3 i4 Rc z9 y i (fun p q => LX0_leastRoom_L10 i2 i3 i4 Rc z9 c p q)) _
    unfold BX0_leastRoom_L10
    have ei := inc_iv (x := i) (by omega)
    have ix := idxN hi (by omega)
    refine Ok_if (fun h => ?_) (fun _ => Ok_bind (cisCut_iv h3 (by omega) h4 (by omega)) (fun z hz2 => Ok_jn (fun kk wk => ?_)))
    · have h := i32lt h
      omega
    · rw [wk]
      refine Ok_if (fun e => rec y _ ?_ (by omega)) (fun e => Ok_bind (across_iv h2 n9 hR hsm) (fun w hw => Ok_nm (fun u wu => rec u _ ?_ (by omega))))
      · show y.toInt = lsN n s g R (k + 1)
        rw [lsN_s, ← ix, (bit0 hz2).mp e, if_neg (by decide)]
        exact hy
      · show u.toInt = lsN n s g R (k + 1)
        rw [lsN_s, ← ix, bit1 hz2 e, if_pos rfl, ← hw, ← hy, wu]
        exact min_iv
theorem leastNow_iv {n s g : Nat} {R : Nat → Int32} {i2 i5 i6 : Int32} (n9 : n ≤ 9) (hs : s < n) (hg : g < n) (hsm : sm R) (h2 : i2.toInt = n) (h5 : i5.toInt = s) (h6 : i6.toInt = g) : Ok (fX8_leastNow i2 i5 i6 R) (fun z => z.toInt = least n s g R) := by
  have p := (pwN n (by omega)).2
  have e2 := shl2 h2 n9
  unfold fX8_leastNow fX8_least least
  refine Ok_bind (R := fun z => z.toInt = lsN n s g R (2 ^ n)) ?_ (fun z hz => Ok_some hz)
  generalize (2 ^ n : Nat) = N at *
  refine lpQ (L := fun c y i => LX8_least_L7 i2 R i5 i6 c y i) (n := N) (Q := fun k y => y.toInt = lsN n s g R k) (fun c y i hi hy => ?_) (fun c y i k hk hi hy rec => ?_) (by omega) rfl
  · show Ok (BX8_least_L7 i2 R i5 i6 y i (fun p q => LX8_least_L7 i2 R i5 i6 c p q)) _
    unfold BX8_least_L7
    refine Ok_if (fun _ => Ok_some hy) (fun h => ?_)
    have h := i32nle h
    omega
  · show Ok (BX8_least_L7 i2 R i5 i6 y i (fun p q => LX8_least_L7 i2 R i5 i6 c p q)) _
    unfold BX8_least_L7
    have ei := inc_iv (x := i) (by omega)
    have ix := idxN hi (by omega)
    refine Ok_if (fun h => ?_) (fun _ => Ok_bind (isCut_iv h5 (by omega) h6 (by omega)) (fun z hz2 => Ok_jn (fun kk wk => ?_)))
    · have h := i32le h
      omega
    · rw [wk]
      refine Ok_if (fun e => rec y _ ?_ (by omega)) (fun e => Ok_bind (through_iv h2 n9 hsm) (fun w hw => Ok_nm (fun u wu => rec u _ ?_ (by omega))))
      · show y.toInt = lsN n s g R (k + 1)
        rw [lsN_s, ← ix, (bit0 hz2).mp e, if_neg (by decide)]
        exact hy
      · show u.toInt = lsN n s g R (k + 1)
        rw [lsN_s, ← ix, bit1 hz2 e, if_pos rfl, ← hw, ← hy, wu]
        exact min_iv
def isL (n s g : Nat) (R : Nat → Int32) (m : Int) (v : Int32) : Bool := ctb s g v && decide (cap n R v = m)
theorem cisLeast_iv {n s g : Nat} {R Rc : Nat → Int32} {m : Int} {i4 i5 i6 i2 i3 : Int32} (n9 : n ≤ 9) (hs : s < n) (hg : g < n) (hR : same Rc R) (hsm : sm R) (h4 : i4.toInt = n) (h5 : i5.toInt = s) (h6 : i6.toInt = g) (h3 : i3.toInt = m) : Ok (fX0_isLeastCut i4 i5 i6 Rc i2 i3) (fun z => z = if isL n s g R m i2 = true then 1 else 0) := by
  unfold fX0_isLeastCut isL
  refine Ok_bind (cisCut_iv h5 (by omega) h6 (by omega)) (fun z hz => Ok_if (fun e => ?_) (fun e => Ok_bind (across_iv h4 n9 hR hsm) (fun y hy => Ok_if (fun d => ?_) (fun d => ?_))))
  · rw [(bit0 hz).mp e]; exact Ok_some rfl
  · rw [bit1 hz e, decide_eq_true (by rw [← hy, d, h3] : cap n R i2 = m)]; exact Ok_some rfl
  · rw [bit1 hz e, decide_eq_false (fun q => d (Int32.toInt_inj.mp (by rw [hy, q, h3])) : ¬ cap n R i2 = m)]; exact Ok_some rfl
theorem rtest {α : Type} {n s g : Nat} {R : Nat → Int32} {m : Int} {i2 i5 i6 v i31 : Int32} {P : α → Prop} {A B : Option α} (n9 : n ≤ 9) (hs : s < n) (hg : g < n) (hsm : sm R) (h2 : i2.toInt = n) (h5 : i5.toInt = s) (h6 : i6.toInt = g) (h31 : i31.toInt = m) (h0 : isL n s g R m v = false → Ok A P) (h1 : isL n s g R m v = true → Ok B P) : Ok ((fX8_isCut v i5 i6).bind (fun z34 => if z34 = (0 : Int32) then A else ((fX8_through i2 R v).bind (fun z37 => if z37 = i31 then B else A)))) P := by
  unfold isL at h0 h1
  refine Ok_bind (isCut_iv h5 (by omega) h6 (by omega)) (fun z hz => Ok_if (fun e => ?_) (fun e => Ok_bind (through_iv h2 n9 hsm) (fun y hy => Ok_if (fun d => ?_) (fun d => ?_))))
  · exact h0 (by rw [(bit0 hz).mp e]; rfl)
  · exact h1 (by rw [bit1 hz e, decide_eq_true (by rw [← hy, d, h31] : cap n R v = m)]; rfl)
  · exact h0 (by rw [bit1 hz e, decide_eq_false (fun q => d (Int32.toInt_inj.mp (by rw [hy, q, h31])) : ¬ cap n R v = m)]; rfl)
def cnN (n s g : Nat) (R : Nat → Int32) (m : Int) : Nat → Int
  | 0 => 0
  | k + 1 => cnN n s g R m k + (if isL n s g R m (Int32.ofNat k) = true then 1 else 0)
theorem cnN_s {n s g : Nat} {R : Nat → Int32} {m : Int} (k : Nat) : cnN n s g R m (k + 1) = cnN n s g R m k + (if isL n s g R m (Int32.ofNat k) = true then 1 else 0) := rfl
theorem cnN_b {n s g : Nat} {R : Nat → Int32} {m : Int} : ∀ k : Nat, 0 ≤ cnN n s g R m k ∧ cnN n s g R m k ≤ k
  | 0 => ⟨Int.le_refl _, Int.le_refl _⟩
  | k + 1 => by
    have := cnN_b (n := n) (s := s) (g := g) (R := R) (m := m) k
    rw [cnN_s]
    split <;> omega
def firstN (p : Nat → Prop) (N : Nat) (v : Int) : Prop := (v = -1 ∧ ∀ k, k < N → ¬ p k) ∨ ∃ k : Nat, k < N ∧ v = k ∧ p k ∧ ∀ j, j < k → ¬ p j
theorem firstN_only {p : Nat → Prop} {N : Nat} : only1 (firstN p N) := by
  intro x y hx hy
  rcases hx with ⟨a, b⟩ | ⟨k, k1, k2, k3, k4⟩ <;> rcases hy with ⟨a', b'⟩ | ⟨j, j1, j2, j3, j4⟩
  · omega
  · exact absurd j3 (b j j1)
  · exact absurd k3 (b' k k1)
  · have : k = j := Classical.byContradiction (fun q => by
      by_cases w : k < j
      · exact j4 k w k3
      · exact k4 j (by omega) j3)
    omega
def nthp (n s g : Nat) (R : Nat → Int32) (m : Int) (k : Nat) : Prop := isL n s g R (least n s g R) (Int32.ofNat k) = true ∧ cnN n s g R (least n s g R) k = m
theorem cnth_iv {n s g : Nat} {R F Rc : Nat → Int32} {i12 i13 i14 i2 : Int32} {l19 : Int64} (hI : FI n s g R F) (hR : same Rc R) (h12 : i12.toInt = n) (h13 : i13.toInt = s) (h14 : i14.toInt = g) : Ok (fL_nthLeast i12 i13 i14 Rc l19 i2) (fun z => CQ (0 ≤ i2.toInt) True (firstN (nthp n s g R i2.toInt) (2 ^ n)) z.1 z.2) := by
  have n9 := hI.1
  have se := hI.2.1
  have p := (pwN n (by omega)).2
  unfold fL_nthLeast
  refine xcq1 ?_
  unfold fX6_nthLeast
  refine xb_need (needWithin_iv (lo := 0) (hi := 2147483647) rfl rfl) (fun q => Or.inl ⟨fun c => q ⟨c, by have := i32b (x := i2); omega⟩, rfl⟩) (fun q => ?_)
  refine Ok_bind (R := fun z => firstN (nthp n s g R i2.toInt) (2 ^ n) z.toInt) ?_ (fun z hz => ⟨_, rfl, Or.inr (Or.inr ⟨q.1, trivial, _, rfl, hz⟩)⟩)
  unfold fX0_leastByNumber nthp
  refine Ok_bind (allP_iv h12 n9.2) (fun z9 hz => Ok_bind (cleastRoom_iv n9.2 se.1 se.2.1 hR hI.smR h12 h13 h14) (fun m hm => ?_))
  have hz := hz.1
  generalize least n s g R = M at *
  generalize (2 ^ n : Nat) = N at *
  refine lpQ (L := fun c y i => LX0_leastByNumber_L16 i12 i13 i14 Rc i2 z9 m c y i) (n := N) (Q := fun k y => y.toInt = cnN n s g R M k ∧ ∀ j, j < k → ¬ (isL n s g R M (Int32.ofNat j) = true ∧ cnN n s g R M j = i2.toInt)) (fun c y i hi hy => ?_) (fun c y i k hk hi hy rec => ?_) (by omega) ⟨rfl, fun j hj => absurd hj (by omega)⟩
  · show Ok (BX0_leastByNumber_L16 i12 i13 i14 Rc i2 z9 m y i (fun p q => LX0_leastByNumber_L16 i12 i13 i14 Rc i2 z9 m c p q)) _
    unfold BX0_leastByNumber_L16
    refine Ok_if (fun _ => Ok_some (Or.inl ⟨rfl, hy.2⟩)) (fun h => ?_)
    have h := i32nlt h
    omega
  · show Ok (BX0_leastByNumber_L16 i12 i13 i14 Rc i2 z9 m y i (fun p q => LX0_leastByNumber_L16 i12 i13 i14 Rc i2 z9 m c p q)) _
    unfold BX0_leastByNumber_L16
    have ei := inc_iv (x := i) (by omega)
    have ix := idxN hi (by omega)
    have cb := cnN_b (n := n) (s := s) (g := g) (R := R) (m := M) k
    obtain ⟨hy1, hy2⟩ := hy
    have ey := inc_iv (x := y) (by omega)
    refine Ok_if (fun h => ?_) (fun _ => Ok_bind (cisLeast_iv n9.2 se.1 se.2.1 hR hI.smR h12 h13 h14 hm) (fun z hz2 => Ok_jn (fun kk wk => ?_)))
    · have h := i32lt h
      omega
    · rw [ix] at hz2
      rw [wk]
      refine Ok_if (fun e => rec y _ ⟨?_, ?_⟩ (by omega)) (fun e => Ok_if (fun d => ?_) (fun d => rec _ _ ⟨?_, ?_⟩ (by omega)))
      · rw [cnN_s, (bit0 hz2).mp e, if_neg (by decide), hy1]
        omega
      · intro j hj
        by_cases w : j = k
        · subst w
          rw [(bit0 hz2).mp e]
          exact fun c => absurd c.1 (by decide)
        · exact hy2 j (by omega)
      · exact Ok_some (Or.inr ⟨k, hk, hi, ⟨bit1 hz2 e, by rw [← hy1, d]⟩, hy2⟩)
      · rw [cnN_s, bit1 hz2 e, if_pos rfl, ey, hy1]
      · intro j hj
        by_cases w : j = k
        · subst w
          exact fun c => d (Int32.toInt_inj.mp (hy1.trans c.2))
        · exact hy2 j (by omega)
theorem nth_iv {n s g : Nat} {R F : Nat → Int32} {i3 i6 i7 i2 : Int32} (hI : FI n s g R F) (h3 : i3.toInt = n) (h6 : i6.toInt = s) (h7 : i7.toInt = g) : Ok (fX8_nthLeast i3 i6 i7 R i2) (fun z => RQ (0 ≤ i2.toInt) True (firstN (nthp n s g R i2.toInt) (2 ^ n)) z.2 z.1) := by
  have n9 := hI.1
  have se := hI.2.1
  have p := (pwN n (by omega)).2
  have e2 := shl2 h3 n9.2
  have t0 : (0 : Int32).toInt = 0 := rfl
  have ib := i32b (x := i2)
  unfold fX8_nthLeast
  refine Ok_jn (fun k13 w13 => ?_)
  have go : ∀ i, flag (0 ≤ i2.toInt) i → Ok (k13 i) (fun z => RQ (0 ≤ i2.toInt) True (firstN (nthp n s g R i2.toInt) (2 ^ n)) z.2 z.1) := by
    intro i hi
    rw [w13]
    refine thrown1 hi (fun q => ⟨_, rfl, Or.inl ⟨q, rfl⟩⟩) (fun q => Ok_if (fun _ => ?_) (fun h => absurd rfl h))
    unfold nthp
    refine Ok_bind (leastNow_iv n9.2 se.1 se.2.1 hI.smR h3 h6 h7) (fun m hm => ?_)
    generalize least n s g R = M at *
    generalize (2 ^ n : Nat) = N at *
    refine lpQ (L := fun c y i => LX8_nthLeast_L28 i3 i6 i7 R m (0 : Int32) c y i) (n := N) (Q := fun k y => y.toInt = i2.toInt - cnN n s g R M k ∧ ∀ j, j < k → ¬ (isL n s g R M (Int32.ofNat j) = true ∧ cnN n s g R M j = i2.toInt)) (fun c y i hi hy => ?_) (fun c y i k hk hi hy rec => ?_) (by omega) ⟨by show i2.toInt = i2.toInt - 0; omega, fun j hj => absurd hj (by omega)⟩
    · show Ok (BX8_nthLeast_L28 i3 i6 i7 R m (0 : Int32) y i (fun p q => LX8_nthLeast_L28 i3 i6 i7 R m (0 : Int32) c p q)) _
      unfold BX8_nthLeast_L28
      refine Ok_if (fun _ => Ok_some (Or.inr (Or.inr ⟨q, trivial, rfl, Or.inl ⟨rfl, hy.2⟩⟩))) (fun h => ?_)
      have h := i32nle h
      omega
    · show Ok (BX8_nthLeast_L28 i3 i6 i7 R m (0 : Int32) y i (fun p q => LX8_nthLeast_L28 i3 i6 i7 R m (0 : Int32) c p q)) _
      unfold BX8_nthLeast_L28
      have ei := inc_iv (x := i) (by omega)
      have ix := idxN hi (by omega)
      have cb := cnN_b (n := n) (s := s) (g := g) (R := R) (m := M) k
      obtain ⟨hy1, hy2⟩ := hy
      have ey := decp_iv (x := y) (by omega)
      refine Ok_if (fun h => ?_) (fun _ => ?_)
      · have h := i32le h
        omega
      · refine rtest (A := LX8_nthLeast_L28 i3 i6 i7 R m (0 : Int32) c y (i + (1 : Int32))) (B := if y = (0 : Int32) then (some (i, (0 : Int32))) else LX8_nthLeast_L28 i3 i6 i7 R m (0 : Int32) c (y + (-1 : Int32)) (i + (1 : Int32))) n9.2 se.1 se.2.1 hI.smR h3 h6 h7 hm (fun e => rec y _ ⟨?_, ?_⟩ (by omega)) (fun e => Ok_if (fun d => ?_) (fun d => rec _ _ ⟨?_, ?_⟩ (by omega)))
        · rw [cnN_s, ← ix, e, if_neg (by decide), hy1]
          omega
        · intro j hj
          by_cases w : j = k
          · subst w
            rw [← ix, e]
            exact fun c => absurd c.1 (by decide)
          · exact hy2 j (by omega)
        · have d := i32eq d
          have d2 : cnN n s g R M k = i2.toInt := (Int.sub_eq_zero.mp (hy1.symm.trans (d.trans t0))).symm
          rw [ix] at e
          exact Ok_some (Or.inr (Or.inr ⟨q, trivial, rfl, Or.inr ⟨k, hk, hi, ⟨e, d2⟩, hy2⟩⟩))
        · rw [cnN_s, ← ix, e, if_pos rfl, ey, hy1]
          omega
        · intro j hj
          by_cases w : j = k
          · subst w
            exact fun c => d (Int32.toInt_inj.mp (by rw [hy1, c.2, t0]; omega))
          · exact hy2 j (by omega)
  rw [w13]
  rw [w13] at go
  refine Ok_if (fun h => go 0 (Or.inl ⟨?_, rfl⟩)) (fun h => go 1 (Or.inr ⟨?_, rfl⟩))
  · have h := i32le h
    omega
  · have h := i32nle h
    omega