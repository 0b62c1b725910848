/-! OF A PLACE; CUTS -/
/-! cuts: a set of places as bits; what lies in it, what it lets through -/
theorem bit0 {b : Bool} {z : Int32} (h : z = if b = true then 1 else 0) : z = 0 ↔ b = false := by
  cases b
  · rw [h]; exact ⟨fun _ => rfl, fun _ => rfl⟩
  · rw [h]; exact ⟨fun q => absurd q (by decide), fun q => absurd q (by decide)⟩
theorem bit1 {b : Bool} {z : Int32} (h : z = if b = true then 1 else 0) (hz : ¬ z = 0) : b = true := by
  cases b
  · exact absurd ((bit0 h).mpr rfl) hz
  · rfl
theorem pwN : ∀ n, n < 10 → ((2 ^ n : Nat) : Int) = (2 : Int) ^ n ∧ 1 ≤ 2 ^ n ∧ 2 ^ n ≤ 512 := by decide +kernel
theorem shl2 {n : Nat} {i : Int32} (h : i.toInt = n) (hn : n ≤ 9) : ((1 : Int32) <<< (i &&& 31)).toInt = (2 ^ n : Nat) := by
  rw [ofN h (by omega), shl_iv n (by omega), (pwN n (by omega)).1]
theorem allP_iv {n : Nat} {i : Int32} (h : i.toInt = n) (hn : n ≤ 9) : Ok (fX2_allPlaces i) (fun z => z.toInt = ((2 ^ n : Nat) : Int) - 1 ∧ z = ((1 : Int32) <<< (i &&& 31)) - (1 : Int32)) := by
  have e := shl2 h hn
  have p := pwN n (by omega)
  have t1 : (1 : Int32).toInt = 1 := rfl
  unfold fX2_allPlaces
  exact Ok_some ⟨by rw [sub_iv (by omega) (by omega), e, t1], rfl⟩
def isst (n : Nat) (v : Int32) : Prop := 0 ≤ v.toInt ∧ v.toInt ≤ ((2 ^ n : Nat) : Int) - 1
theorem needSet_iv {n : Nat} {i11 i2 : Int32} (h : i11.toInt = n) (hn : n ≤ 9) : Ok (fX6_needSet i11 i2) (fun z => (isst n i2 ∧ z = .inr ()) ∨ (¬ isst n i2 ∧ z = .inl IAE)) := by
  unfold fX6_needSet
  exact Ok_bind (allP_iv h hn) (fun z hz => xb_need (needWithin_iv (lo := 0) rfl hz.1) (fun q => Or.inr ⟨q, rfl⟩) (fun q => Ok_some (Or.inl ⟨q, rfl⟩)))
theorem isSet_iv {n : Nat} {i3 i2 : Int32} (h : i3.toInt = n) (hn : n ≤ 9) : Ok (fX8_isSet i3 i2) (fun z => (isst n i2 ∧ z = 1) ∨ (¬ isst n i2 ∧ z = 0)) := by
  have e := shl2 h hn
  have t0 : (0 : Int32).toInt = 0 := rfl
  unfold fX8_isSet isst
  refine Ok_if (fun h => ?_) (fun h => Ok_if (fun g => ?_) (fun g => ?_))
  · have h := i32lt h
    exact Ok_some (Or.inr ⟨by omega, rfl⟩)
  · have g := i32le g
    exact Ok_some (Or.inr ⟨by omega, rfl⟩)
  · have h := i32nlt h
    have g := i32nle g
    exact Ok_some (Or.inl ⟨by omega, rfl⟩)
def ctb (s g : Nat) (v : Int32) : Bool := has v s && !has v g
theorem cisCut_iv {s g : Nat} {i4 i5 i2 : Int32} (h4 : i4.toInt = s) (hs : s < 9) (h5 : i5.toInt = g) (hg : g < 9) : Ok (fX0_isCut i4 i5 i2) (fun z => z = if ctb s g i2 = true then 1 else 0) := by
  unfold fX0_isCut ctb
  refine Ok_bind (holds_iv h4 hs) (fun z hz => Ok_if (fun e => ?_) (fun e => Ok_bind (holds_iv h5 hg) (fun y hy => Ok_if (fun d => ?_) (fun d => ?_))))
  · rw [(bit0 hz).mp e]; exact Ok_some rfl
  · rw [bit1 hz e, (bit0 hy).mp d]; exact Ok_some rfl
  · rw [bit1 hz e, bit1 hy d]; exact Ok_some rfl
theorem isCut_iv {s g : Nat} {i1 i2 i3 : Int32} (h2 : i2.toInt = s) (hs : s < 9) (h3 : i3.toInt = g) (hg : g < 9) : Ok (fX8_isCut i1 i2 i3) (fun z => z = if ctb s g i1 = true then 1 else 0) := by
  unfold fX8_isCut ctb
  rw [bit_iv h2 hs, bit_iv h3 hg]
  cases has i1 s <;> cases has i1 g
  · exact ⟨_, rfl, rfl⟩
  · exact ⟨_, rfl, rfl⟩
  · exact ⟨_, rfl, rfl⟩
  · exact ⟨_, rfl, rfl⟩
def rowc (n : Nat) (R : Nat → Int32) (v : Int32) (a : Nat) : Int := sumN n (fun b => if has v b = true then 0 else G R a b)
def capf (n : Nat) (R : Nat → Int32) (v : Int32) (a : Nat) : Int := if has v a = true then rowc n R v a else 0
def cap (n : Nat) (R : Nat → Int32) (v : Int32) : Int := sumN n (capf n R v)
theorem rowc_b {R : Nat → Int32} (hR : sm R) {v : Int32} {a : Nat} (ha : a < 9) (k : Nat) (hk : k ≤ 9) : -(1000 * (k : Int)) ≤ rowc k R v a ∧ rowc k R v a ≤ 1000 * k :=
  sumN_b k (fun b hb => by
    have := hR a b ha (by omega)
    show -1000 ≤ (if has v b = true then 0 else G R a b) ∧ (if has v b = true then 0 else G R a b) ≤ 1000
    split <;> omega)
theorem capf_b {n : Nat} {R : Nat → Int32} (hR : sm R) (hn : n ≤ 9) {v : Int32} {a : Nat} (ha : a < 9) : -9000 ≤ capf n R v a ∧ capf n R v a ≤ 9000 := by
  have := rowc_b hR (v := v) ha n hn
  unfold capf
  split <;> omega
theorem capk_b {n : Nat} {R : Nat → Int32} (hR : sm R) (hn : n ≤ 9) {v : Int32} (k : Nat) (hk : k ≤ 9) : -81000 ≤ sumN k (capf n R v) ∧ sumN k (capf n R v) ≤ 81000 := by
  have := sumN_b (f := capf n R v) (c := 9000) k (fun b hb => capf_b hR hn (by omega))
  omega
theorem crow_iv {n a : Nat} {R Rc : Nat → Int32} {i4 i3 i50 x : Int32} {X : Int} {P : Int32 → Prop} {k1 : Int32 → Option Int32} (h4 : i4.toInt = n) (hn : n ≤ 9) (h50 : i50.toInt = a) (ha : a < 9) (hR : same Rc R) (hsm : sm R) (hx : x.toInt = X) (hX : -100000 ≤ X ∧ X ≤ 100000) (hk : ∀ i : Int32, i.toInt = X + capf n R i3 a → Ok (k1 i) P) : Ok (LX0_sumAcross_L17 i4 Rc i3 i50 600 x 0 k1) P := by
  refine lpQ (L := fun c y i => LX0_sumAcross_L17 i4 Rc i3 i50 c y i k1) (n := n) (Q := fun k y => y.toInt = X + (if has i3 a = true then rowc k R i3 a else 0)) (fun c y i hi hy => ?_) (fun c y i k hk' hi hy rec => ?_) (by omega) (by show x.toInt = X + (if has i3 a = true then 0 else 0); rw [ite_self]; omega)
  · show Ok (BX0_sumAcross_L17 i4 Rc i3 i50 y i (fun p q => LX0_sumAcross_L17 i4 Rc i3 i50 c p q k1) k1) _
    unfold BX0_sumAcross_L17
    refine Ok_if (fun _ => hk y hy) (fun h => ?_)
    have h := i32nle h
    omega
  · show Ok (BX0_sumAcross_L17 i4 Rc i3 i50 y i (fun p q => LX0_sumAcross_L17 i4 Rc i3 i50 c p q k1) k1) _
    unfold BX0_sumAcross_L17
    have ei := inc_iv (x := i) (by omega)
    have rb := rowc_b hsm (v := i3) ha k (by omega)
    have hg := hsm a k ha (by omega)
    refine Ok_if (fun h => ?_) (fun _ => ?_)
    · have h := i32le h
      omega
    · refine Ok_bind (holds_iv h50 ha) (fun z hz => Ok_if (fun e => ?_) (fun e => Ok_bind (holds_iv hi (by omega)) (fun w hw => Ok_jn (fun kk wk => ?_))))
      · have e := (bit0 hz).mp e
        exact hk y (by rw [hy]; unfold capf; rw [e]; rfl)
      · have e := bit1 hz e
        have re : rowc (k + 1) R i3 a = rowc k R i3 a + (if has i3 k = true then 0 else G R a k) := rfl
        rw [e, if_pos rfl] at hy
        rw [wk]
        refine Ok_if (fun d => ?_) (fun d => ?_)
        · have d := (bit0 hw).mp d
          rw [d, if_neg (by decide)] at re
          refine Ok_bind (at_iv h50 hi ha (by omega)) (fun u hu => Ok_nm (fun q wq => rec q _ ?_ (by omega)))
          rw [hR a k ha (by omega)] at hu
          show q.toInt = X + (if has i3 a = true then rowc (k + 1) R i3 a else 0)
          rw [e, if_pos rfl, re, wq, add_iv (by omega) (by omega), hy, hu]
          omega
        · have d := bit1 hw d
          rw [d, if_pos rfl] at re
          refine rec y _ ?_ (by omega)
          show y.toInt = X + (if has i3 a = true then rowc (k + 1) R i3 a else 0)
          rw [e, if_pos rfl, re, hy]
          omega
theorem across_iv {n : Nat} {R Rc : Nat → Int32} {i4 i3 : Int32} (h4 : i4.toInt = n) (hn : n ≤ 9) (hR : same Rc R) (hsm : sm R) : Ok (fX0_sumAcross i4 Rc i3) (fun z => z.toInt = cap n R i3) := by
  unfold fX0_sumAcross
  refine lpQ (L := fun c y i => LX0_sumAcross_L5 i4 Rc i3 c y i) (n := n) (Q := fun k y => y.toInt = sumN k (capf n R i3)) (fun c y i hi hy => ?_) (fun c y i k hk hi hy rec => ?_) (by omega) rfl
  · show Ok (BX0_sumAcross_L5 i4 Rc i3 y i (fun p q => LX0_sumAcross_L5 i4 Rc i3 c p q)) _
    unfold BX0_sumAcross_L5
    refine Ok_if (fun _ => Ok_some hy) (fun h => ?_)
    have h := i32nle h
    omega
  · show Ok (BX0_sumAcross_L5 i4 Rc i3 y i (fun p q => LX0_sumAcross_L5 i4 Rc i3 c p q)) _
    unfold BX0_sumAcross_L5
    have ei := inc_iv (x := i) (by omega)
    have cb := capk_b hsm hn (v := i3) k (by omega)
    refine Ok_if (fun h => ?_) (fun _ => ?_)
    · have h := i32le h
      omega
    · exact crow_iv h4 hn hi (by omega) hR hsm hy (by omega) (fun q hq => rec q _ hq (by omega))
theorem trow_iv {n a : Nat} {R : Nat → Int32} {i4 i3 i56 x : Int32} {X : Int} {P : Int32 → Prop} {k1 : Int32 → Option Int32} (h4 : i4.toInt = n) (hn : n ≤ 9) (h56 : i56.toInt = a) (ha : a < 9) (hsm : sm R) (hx : x.toInt = X) (hX : -100000 ≤ X ∧ X ≤ 100000) (hk : ∀ i : Int32, i.toInt = X + rowc n R i3 a → Ok (k1 i) P) : Ok (LX8_through_L29 i4 R i3 i56 600 x 0 k1) P := by
  refine lpQ (L := fun c y i => LX8_through_L29 i4 R i3 i56 c y i k1) (n := n) (Q := fun k y => y.toInt = X + rowc k R i3 a) (fun c y i hi hy => ?_) (fun c y i k hk' hi hy rec => ?_) (by omega) (by show x.toInt = X + 0; omega)
  · show Ok (BX8_through_L29 i4 R i3 i56 y i (fun p q => LX8_through_L29 i4 R i3 i56 c p q k1) k1) _
    unfold BX8_through_L29
    refine Ok_if (fun _ => hk y hy) (fun h => ?_)
    have h := i32nle h
    omega
  · show Ok (BX8_through_L29 i4 R i3 i56 y i (fun p q => LX8_through_L29 i4 R i3 i56 c p q k1) k1) _
    unfold BX8_through_L29
    have ei := inc_iv (x := i) (by omega)
    have rb := rowc_b hsm (v := i3) ha k (by omega)
    have hg := hsm a k ha (by omega)
    have re : rowc (k + 1) R i3 a = rowc k R i3 a + (if has i3 k = true then 0 else G R a k) := rfl
    refine Ok_if (fun h => ?_) (fun _ => Ok_jn (fun kk wk => ?_))
    · have h := i32le h
      omega
    · rw [wk]
      refine Ok_if (fun d => ?_) (fun d => ?_)
      · rw [(bit0 (bit_iv hi (by omega))).mp d, if_neg (by decide)] at re
        obtain ⟨g1, g2⟩ := G_idx h56 hi ha (by omega : k < 9)
        refine Ok_inB g1 (Ok_nm (fun q wq => rec q _ ?_ (by omega)))
        rw [g2] at wq
        show q.toInt = X + rowc (k + 1) R i3 a
        rw [re, wq, add_iv (by show -2147483648 ≤ y.toInt + G R a k; omega) (by show y.toInt + G R a k < 2147483648; omega), hy]
        show X + rowc k R i3 a + G R a k = _
        omega
      · rw [bit1 (bit_iv hi (by omega)) d, if_pos rfl] at re
        refine rec y _ ?_ (by omega)
        show y.toInt = X + rowc (k + 1) R i3 a
        rw [re, hy]
        omega
theorem through_iv {n : Nat} {R : Nat → Int32} {i4 i3 : Int32} (h4 : i4.toInt = n) (hn : n ≤ 9) (hsm : sm R) : Ok (fX8_through i4 R i3) (fun z => z.toInt = cap n R i3) := by
  unfold fX8_through
  refine lpQ (L := fun c y i => LX8_through_L5 i4 R i3 c y i) (n := n) (Q := fun k y => y.toInt = sumN k (capf n R i3)) (fun c y i hi hy => ?_) (fun c y i k hk hi hy rec => ?_) (by omega) rfl
  · show Ok (BX8_through_L5 i4 R i3 y i (fun p q => LX8_through_L5 i4 R i3 c p q)) _
    unfold BX8_through_L5
    refine Ok_if (fun _ => Ok_some hy) (fun h => ?_)
    have h := i32nle h
    omega
  · show Ok (BX8_through_L5 i4 R i3 y i (fun p q => LX8_through_L5 i4 R i3 c p q)) _
    unfold BX8_through_L5
    have ei := inc_iv (x := i) (by omega)
    have cb := capk_b hsm hn (v := i3) k (by omega)
    have ce : sumN (k + 1) (capf n R i3) = sumN k (capf n R i3) + capf n R i3 k := rfl
    refine Ok_if (fun h => ?_) (fun _ => Ok_jn (fun kk wk => ?_))
    · have h := i32le h
      omega
    · rw [wk]
      refine Ok_if (fun d => ?_) (fun d => ?_)
      · have d := (bit0 (bit_iv hi (by omega))).mp d
        refine rec y _ ?_ (by omega)
        show y.toInt = sumN (k + 1) (capf n R i3)
        rw [ce, hy]
        unfold capf
        rw [d, if_neg (by decide)]
        omega
      · have d := bit1 (bit_iv hi (by omega)) d
        refine trow_iv h4 hn hi (by omega) hsm hy (by omega) (fun q hq => rec q _ ?_ (by omega))
        show q.toInt = sumN (k + 1) (capf n R i3)
        rw [ce, hq]
        unfold capf
        rw [d, if_pos rfl]
def A_cut (n s g : Nat) (R : Nat → Int32) (v : Int32) : Int := if ctb s g v = true then cap n R v else -9
theorem ccutG_iv {n s g : Nat} {R Rc : Nat → Int32} {i11 i12 i13 i2 : Int32} {x : Option (String ⊕ Int32)} (n9 : n ≤ 9) (hs : s < n) (hg : g < n) (hR : same Rc R) (hsm : sm R) (h11 : i11.toInt = n) (h12 : i12.toInt = s) (h13 : i13.toInt = g) (hx : x = xb (fX6_needSet i11 i2) (fun z18 => (fX0_isCut i12 i13 i2).bind (fun z19 => if z19 = (0 : Int32) then (some (.inr (-9 : Int32))) else ((fX0_sumAcross i11 Rc i2).bind (fun z20 => some (.inr z20)))))) : Ok x (XQ IAE IAE (isst n i2) True (fun v => v = A_cut n s g R i2)) := by
  rw [hx]
  refine xb_need (needSet_iv h11 n9) (fun q => Or.inl ⟨q, rfl⟩) (fun q => Ok_bind (cisCut_iv h12 (by omega) h13 (by omega)) (fun z hz => Ok_if (fun e => ?_) (fun e => Ok_bind (across_iv h11 n9 hR hsm) (fun y hy => ?_))))
  · exact ⟨_, rfl, Or.inr (Or.inr ⟨q, trivial, _, rfl, by unfold A_cut; rw [(bit0 hz).mp e]; rfl⟩)⟩
  · exact ⟨_, rfl, Or.inr (Or.inr ⟨q, trivial, _, rfl, by unfold A_cut; rw [bit1 hz e, if_pos rfl]; exact hy⟩)⟩
theorem cthrough_iv {n s g : Nat} {R F Fc : Nat → Int32} {i12 i13 i14 i2 : Int32} {l19 : Int64} (hI : FI n s g R F) (hF : same Fc F) (h12 : i12.toInt = n) (h13 : i13.toInt = s) (h14 : i14.toInt = g) : Ok (fL_through i12 i13 i14 Fc l19 i2) (fun z => CQ (isst n i2) True (fun v => v = A_cut n s g F i2) z.1 z.2) := by
  unfold fL_through
  exact xcq1 (ccutG_iv hI.1.2 hI.2.1.1 hI.2.1.2.1 hF hI.smF h12 h13 h14 rfl)
theorem cutG_iv {n s g : Nat} {R : Nat → Int32} {i3 i6 i7 i2 : Int32} {x : Option (Int32 × Int32)} (n9 : n ≤ 9) (hs : s < n) (hg : g < n) (hsm : sm R) (h3 : i3.toInt = n) (h6 : i6.toInt = s) (h7 : i7.toInt = g) (hx : x = (fX8_isSet i3 i2).bind (fun z13 => jn (fun (i16 : Int32) => (fX8_isThrown_ i16).bind (fun z17 => if z17.1 = (0 : Int32) then ((fX8_isCut i2 i6 i7).bind (fun z18 => if z18 = (0 : Int32) then (some ((-9 : Int32), z17.2)) else ((fX8_through i3 R i2).bind (fun z19 => some (z19, z17.2))))) else (some ((0 : Int32), z17.2)))) (fun (k14 : Int32 → Option (Int32 × Int32)) => if z13 = (0 : Int32) then (k14 (1 : Int32)) else (k14 (0 : Int32))))) : Ok x (fun z => RQ (isst n i2) True (fun v => v = A_cut n s g R i2) z.2 z.1) := by
  rw [hx]
  refine fl_of (isSet_iv h3 n9) (fun i hi => ?_)
  refine thrown1 hi (fun q => ⟨_, rfl, Or.inl ⟨q, rfl⟩⟩) (fun q => Ok_if (fun _ => ?_) (fun h => absurd rfl h))
  refine Ok_bind (isCut_iv h6 (by omega) h7 (by omega)) (fun z hz => Ok_if (fun e => ?_) (fun e => Ok_bind (through_iv h3 n9 hsm) (fun y hy => ?_)))
  · exact ⟨_, rfl, Or.inr (Or.inr ⟨q, trivial, rfl, by unfold A_cut; rw [(bit0 hz).mp e]; rfl⟩)⟩
  · exact ⟨_, rfl, Or.inr (Or.inr ⟨q, trivial, rfl, by unfold A_cut; rw [bit1 hz e, if_pos rfl]; exact hy⟩)⟩
theorem throughA_iv {n s g : Nat} {R F : Nat → Int32} {i3 i6 i7 i2 : Int32} (hI : FI n s g R F) (h3 : i3.toInt = n) (h6 : i6.toInt = s) (h7 : i7.toInt = g) : Ok (fX8_through_ i3 i6 i7 F i2) (fun z => RQ (isst n i2) True (fun v => v = A_cut n s g F i2) z.2 z.1) := by
  unfold fX8_through_
  exact cutG_iv hI.1.2 hI.2.1.1 hI.2.1.2.1 hI.smF h3 h6 h7 rfl
