/-! between, would, about, apart -/
theorem leastQ_iv {n s g : Nat} {R : Nat → Int32} {i5 i3 i4 : Int32} (n9 : n ≤ 9) (hs : s < n) (hg : g < n) (hsm : sm R) (h5 : i5.toInt = n) (h3 : i3.toInt = s) (h4 : i4.toInt = g) : Ok (fX8_least i5 R i3 i4) (fun z => z.toInt = least n s g R) := by
  obtain ⟨z, e, h⟩ := leastNow_iv n9 hs hg hsm h5 h3 h4
  unfold fX8_leastNow at e
  cases q : fX8_least i5 R i3 i4 with
  | none => rw [q] at e; exact absurd e (by simp)
  | some y =>
    rw [q] at e
    have e : some y = some z := e
    exact ⟨y, rfl, by rw [Option.some.inj e]; exact h⟩
/-! about: all ways turned round, the ends exchanged -/
/-! apart: every room above 0 made 1 -/
def oneOf (v : Int) : Int := if 0 < v then 1 else 0
def ones (R R' : Nat → Int32) : Prop := ∀ a b, a < 9 → b < 9 → G R' a b = oneOf (G R a b)
theorem ones_same {R A B : Nat → Int32} (h : ones R A) (h' : ones R B) : same A B := fun a b ha hb => by rw [h a b ha hb, h' a b ha hb]
theorem RM.toOnes {n : Nat} {R R' : Nat → Int32} (h : RM n R) (ho : ones R R') : RM n R' := fun a b ha hb => by
  have q := h a b ha hb
  rw [ho a b ha hb]
  unfold oneOf
  exact ⟨by split <;> omega, fun w => by rw [if_neg (by have := q.2 w; omega)]⟩
theorem nar_L12 {n a : Nat} {R : Nat → Int32} {i2 i33 : Int32} {f0 : Nat → Int32} {P : (Nat → Int32) → Prop} {k1 : (Nat → Int32) → Option (Nat → Int32)} (h2 : i2.toInt = n) (hn : n ≤ 9) (h33 : i33.toInt = a) (ha : a < n) (hR : RM n R) (h0 : ∀ x y, x < 9 → y < 9 → G f0 x y = if x < a then oneOf (G R x y) else G R x y) (hk : ∀ f, (∀ x y, x < 9 → y < 9 → G f x y = if x < a + 1 then oneOf (G R x y) else G R x y) → Ok (k1 f) P) : Ok (LX2_narrowToOne_L12 i2 i33 12 0 f0 k1) P := by
  refine lpQ (L := fun c f i => LX2_narrowToOne_L12 i2 i33 c i f k1) (n := n) (Q := fun k f => ∀ x y, x < 9 → y < 9 → G f x y = if x < a ∨ (x = a ∧ y < k) then oneOf (G R x y) else G R x y) (fun c f i hi hf => ?_) (fun c f i k hk' hi hf rec => ?_) (by omega) (fun x y hx hy => ?_)
  · show Ok (BX2_narrowToOne_L12 i2 i33 i f (fun p q => LX2_narrowToOne_L12 i2 i33 c p q k1) k1) _
    unfold BX2_narrowToOne_L12
    refine Ok_if (fun _ => hk f (fun x y hx hy => ?_)) (fun h => ?_)
    · rw [hf x y hx hy]
      by_cases w : x < a + 1
      · rw [if_pos w]
        by_cases u : x < a ∨ (x = a ∧ y < n)
        · rw [if_pos u]
        · rw [if_neg u]
          have z := (hR x y hx hy).2 (by omega)
          rw [z]
          rfl
      · rw [if_neg w, if_neg (by omega)]
    · have h := i32nle h
      omega
  · show Ok (BX2_narrowToOne_L12 i2 i33 i f (fun p q => LX2_narrowToOne_L12 i2 i33 c p q k1) k1) _
    unfold BX2_narrowToOne_L12
    have ei := inc_iv (x := i) (by omega)
    have t1 : (1 : Int32).toInt = 1 := rfl
    have rb := (hR a k (by omega) (by omega)).1
    refine Ok_if (fun h => ?_) (fun _ => Ok_bind (at_iv h33 hi (by omega) (by omega)) (fun z hz => Ok_bind (put_iv h33 hi (by omega) (by omega)) (fun w hw => rec w _ (fun x y hx hy => ?_) (by omega))))
    · have h := i32le h
      omega
    · rw [hf a k (by omega) (by omega), if_neg (by omega)] at hz
      rw [hw x y hx hy]
      by_cases c : x = a ∧ y = k
      · rw [if_pos c, min_iv, hz, t1, c.1, c.2, if_pos (Or.inr ⟨rfl, Nat.lt_succ_self k⟩)]
        unfold oneOf
        split <;> split <;> omega
      · rw [if_neg c, hf x y hx hy]
        by_cases d : x < a ∨ (x = a ∧ y < k)
        · rw [if_pos d, if_pos (by omega)]
        · rw [if_neg d, if_neg (by omega)]
  · rw [h0 x y hx hy]
    by_cases d : x < a
    · rw [if_pos d, if_pos (Or.inl d)]
    · rw [if_neg d, if_neg (by omega)]
theorem narrow_iv {n : Nat} {R Rc : Nat → Int32} {i2 : Int32} (h2 : i2.toInt = n) (hn : n ≤ 9) (hR : RM n R) (hs : same Rc R) : Ok (fX2_narrowToOne i2 Rc) (ones R) := by
  unfold fX2_narrowToOne
  refine lpQ (L := fun c f i => LX2_narrowToOne_L2 i2 c i f) (n := n) (Q := fun k f => ∀ x y, x < 9 → y < 9 → G f x y = if x < k then oneOf (G R x y) else G R x y) (fun c f i hi hf => ?_) (fun c f i k hk' hi hf rec => ?_) (by omega) (fun x y hx hy => by rw [if_neg (by omega)]; exact hs x y hx hy)
  · show Ok (BX2_narrowToOne_L2 i2 i f (fun p q => LX2_narrowToOne_L2 i2 c p q)) _
    unfold BX2_narrowToOne_L2
    refine Ok_if (fun _ => Ok_some (fun x y hx hy => ?_)) (fun h => ?_)
    · rw [hf x y hx hy]
      by_cases w : x < n
      · rw [if_pos w]
      · rw [if_neg w]
        have z := (hR x y hx hy).2 (by omega)
        rw [z]
        rfl
    · have h := i32nle h
      omega
  · show Ok (BX2_narrowToOne_L2 i2 i f (fun p q => LX2_narrowToOne_L2 i2 c p q)) _
    unfold BX2_narrowToOne_L2
    have ei := inc_iv (x := i) (by omega)
    refine Ok_if (fun h => ?_) (fun _ => ?_)
    · have h := i32le h
      omega
    · exact nar_L12 h2 hn hi hk' hR hf (fun w hw => rec w _ hw (by omega))
theorem capart_iv {n s g : Nat} {R F Rc Fc f27 f29 f35 f36 Z : Nat → Int32} {i12 i13 i14 i21 i22 i23 i32 i34 i2 : Int32} {l37 : Int64} (hI : FI n s g R F) (hR : same Rc R) (hZ : ones R Z) (h12 : i12.toInt = n) (h13 : i13.toInt = s) (h14 : i14.toInt = g) (h32 : 0 ≤ i32.toInt ∧ i32.toInt ≤ 9) (h34 : 0 ≤ i34.toInt ∧ i34.toInt ≤ 10) : Ok (fL_apart i12 i13 i14 Rc Fc i21 i22 i23 f27 f29 i32 i34 f35 f36 l37 i2) (fun z => CQ (0 ≤ i2.toInt ∧ i2.toInt ≤ 1) True (fun v => v = least n s g Z) z.1 z.2.2.2.2.2.2.2.2.2.2 ∧ (0 ≤ z.2.2.2.2.2.2.1.toInt ∧ z.2.2.2.2.2.2.1.toInt ≤ 9) ∧ (0 ≤ z.2.2.2.2.2.2.2.1.toInt ∧ z.2.2.2.2.2.2.2.1.toInt ≤ 10)) := by
  have n9 := hI.1
  have se := hI.2.1
  have t0 : (0 : Int32).toInt = 0 := rfl
  unfold fL_apart
  refine xc_of ?_
  unfold fX6_apart
  refine xb_need (needWithin_iv (lo := 0) (hi := 1) rfl rfl) (fun q => ?_) (fun q => ?_)
  · show Ok (if _ then _ else _) _
    rw [if_pos rfl]
    exact ⟨_, rfl, Or.inl ⟨q, rfl⟩, h32, h34⟩
  · refine Ok_bind (become2_iv f27 f29 Rc Fc) (fun z37 h37 => Ok_bind (narrow_iv h12 n9.2 hI.rm (h37.1.trans hR)) (fun z38 h38 => ?_))
    have e := ones_same h38 hZ
    have hm := hI.rm.toOnes h38
    refine Ok_if (fun _ => ?_) (fun _ => ?_)
    · refine Ok_bind (mostTrial_iv hm n9 se.1 se.2.1 se.2.2 h12 h13 h14 (by omega)) (fun z hz => ?_)
      exact ⟨_, rfl, ⟨_, rfl, Or.inr (Or.inr ⟨q, trivial, rfl, z.1, rfl, by rw [hz.1]; exact least_same n9.2 e⟩), hz.2.1, hz.2.2⟩⟩
    · refine Ok_bind (cleastRoom_iv n9.2 se.1 se.2.1 e (fun a b ha hb => by rw [← e a b ha hb]; have := (hm a b ha hb).1; omega) h12 h13 h14) (fun z hz => ?_)
      exact ⟨_, rfl, ⟨_, rfl, Or.inr (Or.inr ⟨q, trivial, rfl, z, rfl, hz⟩), h32, h34⟩⟩
theorem apartNow_iv {n s g : Nat} {R F Z : Nat → Int32} {i2 i5 i6 : Int32} (hI : FI n s g R F) (hZ : ones R Z) (h2 : i2.toInt = n) (h5 : i5.toInt = s) (h6 : i6.toInt = g) : Ok (fX8_apartNow i2 i5 i6 R) (fun z => z.toInt = least n s g Z) := by
  have n9 := hI.1
  have se := hI.2.1
  have t81 : (81 : Int32).toInt = 81 := rfl
  have t0 : (0 : Int32).toInt = 0 := rfl
  unfold fX8_apartNow
  refine lpQ (L := fun c f i => LX8_apartNow_L10 R c i f (fun (f34 : Nat → Int32) => (fX8_least i2 f34 i5 i6).bind (fun z35 => some z35))) (n := 81) (Q := fun k f => ∀ j, j < k → (f j).toInt = oneOf (R j).toInt) (fun c f i hi hf => ?_) (fun c f i k hk' hi hf rec => ?_) (by omega) (fun j hj => absurd hj (by omega))
  · show Ok (BX8_apartNow_L10 R i f (fun p q => LX8_apartNow_L10 R c p q (fun (f34 : Nat → Int32) => (fX8_least i2 f34 i5 i6).bind (fun z35 => some z35))) (fun (f34 : Nat → Int32) => (fX8_least i2 f34 i5 i6).bind (fun z35 => some z35))) _
    unfold BX8_apartNow_L10
    refine Ok_if (fun _ => ?_) (fun h => ?_)
    · have ho : ones R f := fun a b ha hb => hf (a * 9 + b) (by omega)
      have hm := hI.rm.toOnes ho
      refine Ok_bind (leastQ_iv n9.2 se.1 se.2.1 (fun a b ha hb => by have := (hm a b ha hb).1; omega) h2 h5 h6) (fun z hz => Ok_some ?_)
      rw [hz]
      exact least_same n9.2 (ones_same ho hZ)
    · have h := i32nle h
      omega
  · show Ok (BX8_apartNow_L10 R i f (fun p q => LX8_apartNow_L10 R c p q (fun (f34 : Nat → Int32) => (fX8_least i2 f34 i5 i6).bind (fun z35 => some z35))) (fun (f34 : Nat → Int32) => (fX8_least i2 f34 i5 i6).bind (fun z35 => some z35))) _
    unfold BX8_apartNow_L10
    have ei := inc_iv (x := i) (by omega)
    have en : i.toNatClampNeg = k := toNat_iv hi
    have vi : vp_in i 81 := vp_of (by omega) (by omega)
    have go : ∀ v : Int32, v.toInt = oneOf (R k).toInt → ∀ j, j < k + 1 → (upd f k v j).toInt = oneOf (R j).toInt := by
      intro v hv j hj
      unfold upd
      by_cases c : j = k
      · rw [if_pos c, c]; exact hv
      · rw [if_neg c]; exact hf j (by omega)
    refine Ok_if (fun h => ?_) (fun _ => Ok_inB vi (Ok_jn (fun kk wk => ?_)))
    · have h := i32le h
      omega
    · rw [wk, en]
      refine Ok_if (fun h => Ok_inB vi (rec _ _ (go 0 ?_) (by omega))) (fun h => Ok_inB vi (rec _ _ (go 1 ?_) (by omega)))
      · have h := i32le h
        unfold oneOf
        rw [if_neg (by omega)]
        rfl
      · have h := i32nle h
        unfold oneOf
        rw [if_pos (by omega)]
        rfl
theorem apart_iv {n s g : Nat} {R F Z : Nat → Int32} {i3 i6 i7 i2 : Int32} (hI : FI n s g R F) (hZ : ones R Z) (h3 : i3.toInt = n) (h6 : i6.toInt = s) (h7 : i7.toInt = g) : Ok (fX8_apart i3 i6 i7 R i2) (fun z => RQ (0 ≤ i2.toInt ∧ i2.toInt ≤ 1) True (fun v => v = least n s g Z) z.2 z.1) := by
  unfold fX8_apart
  refine fl_within (lo := 0) (hi := 1) rfl rfl (fun i hi => ?_)
  refine thrown1 hi (fun q => ⟨_, rfl, Or.inl ⟨q, rfl⟩⟩) (fun q => Ok_if (fun _ => ?_) (fun h => absurd rfl h))
  exact Ok_bind (apartNow_iv hI hZ h3 h6 h7) (fun z hz => Ok_some (Or.inr (Or.inr ⟨q, trivial, rfl, hz⟩)))
def onesOf (R : Nat → Int32) : Nat → Int32 := fun j => if 0 < (R j).toInt then 1 else 0
theorem ones_of (R : Nat → Int32) : ones R (onesOf R) := fun a b ha hb => by
  show (if 0 < (R (a * 9 + b)).toInt then (1 : Int32) else 0).toInt = if 0 < (R (a * 9 + b)).toInt then 1 else 0
  split <;> rfl
