/-! OF A PLACE; CUTS -/
/-! cuts: a set of places as bits; what lies in it, what it lets through -/
theorem bit0 {b : Bool} {z : Int32} (h : z = if b = true then 1 else 0) : z = 0 ↔ b = false := by
  cases b
  · rw [h]; exact ⟨fun _ => rfl, fun _ => rfl⟩
  · rw [h]; exact ⟨fun q => absurd q (by decide), fun q => absurd q (by decide)⟩
theorem bit1 {b : Bool} {z : Int32} (h : z = if b = true then 1 else 0) (hz : ¬ z = 0) : b = true := by
  cases b
  · exact absurd ((bit0 h).mpr rfl) hz
  · rfl
theorem pwN : ∀ n, n < 10 → ((2 ^ n : Nat) : Int) = (2 : Int) ^ n ∧ 1 ≤ 2 ^ n ∧ 2 ^ n ≤ 512 := by decide +kernel
theorem shl2 {n : Nat} {i : Int32} (h : i.toInt = n) (hn : n ≤ 9) : ((1 : Int32) <<< (i &&& 31)).toInt = (2 ^ n : Nat) := by
  rw [ofN h (by omega), shl_iv n (by omega), (pwN n (by omega)).1]
theorem idxN {i : Int32} {k : Nat} (h : i.toInt = k) (hk : k ≤ 512) : i = Int32.ofNat k := Int32.toInt_inj.mp (by rw [h, ofNat_iv (by omega)])
def ctb (s g : Nat) (v : Int32) : Bool := has v s && !has v g
theorem isCut_iv {s g : Nat} {i1 i2 i3 : Int32} (h2 : i2.toInt = s) (hs : s < 9) (h3 : i3.toInt = g) (hg : g < 9) : Ok (fX8_isCut i1 i2 i3) (fun z => z = if ctb s g i1 = true then 1 else 0) := by
  unfold fX8_isCut ctb
  rw [bit_iv h2 hs, bit_iv h3 hg]
  cases has i1 s <;> cases has i1 g
  · exact ⟨_, rfl, rfl⟩
  · exact ⟨_, rfl, rfl⟩
  · exact ⟨_, rfl, rfl⟩
  · exact ⟨_, rfl, rfl⟩
def rowc (n : Nat) (R : Nat → Int32) (v : Int32) (a : Nat) : Int := sumN n (fun b => if has v b = true then 0 else G R a b)
def capf (n : Nat) (R : Nat → Int32) (v : Int32) (a : Nat) : Int := if has v a = true then rowc n R v a else 0
def cap (n : Nat) (R : Nat → Int32) (v : Int32) : Int := sumN n (capf n R v)
theorem rowc_b {R : Nat → Int32} (hR : sm R) {v : Int32} {a : Nat} (ha : a < 9) (k : Nat) (hk : k ≤ 9) : -(1000 * (k : Int)) ≤ rowc k R v a ∧ rowc k R v a ≤ 1000 * k :=
  sumN_b k (fun b hb => by
    have := hR a b ha (by omega)
    show -1000 ≤ (if has v b = true then 0 else G R a b) ∧ (if has v b = true then 0 else G R a b) ≤ 1000
    split <;> omega)
theorem capf_b {n : Nat} {R : Nat → Int32} (hR : sm R) (hn : n ≤ 9) {v : Int32} {a : Nat} (ha : a < 9) : -9000 ≤ capf n R v a ∧ capf n R v a ≤ 9000 := by
  have := rowc_b hR (v := v) ha n hn
  unfold capf
  split <;> omega
theorem capk_b {n : Nat} {R : Nat → Int32} (hR : sm R) (hn : n ≤ 9) {v : Int32} (k : Nat) (hk : k ≤ 9) : -81000 ≤ sumN k (capf n R v) ∧ sumN k (capf n R v) ≤ 81000 := by
  have := sumN_b (f := capf n R v) (c := 9000) k (fun b hb => capf_b hR hn (by omega))
  omega
theorem trow_iv {n a : Nat} {R : Nat → Int32} {i4 i3 i56 x : Int32} {X : Int} {P : Int32 → Prop} {k1 : Int32 → Option Int32} (h4 : i4.toInt = n) (hn : n ≤ 9) (h56 : i56.toInt = a) (ha : a < 9) (hsm : sm R) (hx : x.toInt = X) (hX : -100000 ≤ X ∧ X ≤ 100000) (hk : ∀ i : Int32, i.toInt = X + rowc n R i3 a → Ok (k1 i) P) : Ok (LX8_through_L29 i4 R i3 i56 600 x 0 k1) P := by
  refine lpQ (L := fun c y i => LX8_through_L29 i4 R i3 i56 c y i k1) (n := n) (Q := fun k y => y.toInt = X + rowc k R i3 a) (fun c y i hi hy => ?_) (fun c y i k hk' hi hy rec => ?_) (by omega) (by show x.toInt = X + 0; omega)
  · show Ok (BX8_through_L29 i4 R i3 i56 y i (fun p q => LX8_through_L29 i4 R i3 i56 c p q k1) k1) _
    unfold BX8_through_L29
    refine Ok_if (fun _ => hk y hy) (fun h => ?_)
    have h := i32nle h
    omega
  · show Ok (BX8_through_L29 i4 R i3 i56 y i (fun p q => LX8_through_L29 i4 R i3 i56 c p q k1) k1) _
    unfold BX8_through_L29
    have ei := inc_iv (x := i) (by omega)
    have rb := rowc_b hsm (v := i3) ha k (by omega)
    have hg := hsm a k ha (by omega)
    have re : rowc (k + 1) R i3 a = rowc k R i3 a + (if has i3 k = true then 0 else G R a k) := rfl
    refine Ok_if (fun h => ?_) (fun _ => Ok_jn (fun kk wk => ?_))
    · have h := i32le h
      omega
    · rw [wk]
      refine Ok_if (fun d => ?_) (fun d => ?_)
      · rw [(bit0 (bit_iv hi (by omega))).mp d, if_neg (by decide)] at re
        obtain ⟨g1, g2⟩ := G_idx h56 hi ha (by omega : k < 9)
        refine Ok_inB g1 (Ok_nm (fun q wq => rec q _ ?_ (by omega)))
        rw [g2] at wq
        show q.toInt = X + rowc (k + 1) R i3 a
        rw [re, wq, add_iv (by show -2147483648 ≤ y.toInt + G R a k; omega) (by show y.toInt + G R a k < 2147483648; omega), hy]
        show X + rowc k R i3 a + G R a k = _
        omega
      · rw [bit1 (bit_iv hi (by omega)) d, if_pos rfl] at re
        refine rec y _ ?_ (by omega)
        show y.toInt = X + rowc (k + 1) R i3 a
        rw [re, hy]
        omega
theorem through_iv {n : Nat} {R : Nat → Int32} {i4 i3 : Int32} (h4 : i4.toInt = n) (hn : n ≤ 9) (hsm : sm R) : Ok (fX8_through i4 R i3) (fun z => z.toInt = cap n R i3) := by
  unfold fX8_through
  refine lpQ (L := fun c y i => LX8_through_L5 i4 R i3 c y i) (n := n) (Q := fun k y => y.toInt = sumN k (capf n R i3)) (fun c y i hi hy => ?_) (fun c y i k hk hi hy rec => ?_) (by omega) rfl
  · show Ok (BX8_through_L5 i4 R i3 y i (fun p q => LX8_through_L5 i4 R i3 c p q)) _
    unfold BX8_through_L5
    refine Ok_if (fun _ => Ok_some hy) (fun h => ?_)
    have h := i32nle h
    omega
  · show Ok (BX8_through_L5 i4 R i3 y i (fun p q => LX8_through_L5 i4 R i3 c p q)) _
    unfold BX8_through_L5
    have ei := inc_iv (x := i) (by omega)
    have cb := capk_b hsm hn (v := i3) k (by omega)
    have ce : sumN (k + 1) (capf n R i3) = sumN k (capf n R i3) + capf n R i3 k := rfl
    refine Ok_if (fun h => ?_) (fun _ => Ok_jn (fun kk wk => ?_))
    · have h := i32le h
      omega
    · rw [wk]
      refine Ok_if (fun d => ?_) (fun d => ?_)
      · have d := (bit0 (bit_iv hi (by omega))).mp d
        refine rec y _ ?_ (by omega)
        show y.toInt = sumN (k + 1) (capf n R i3)
        rw [ce, hy]
        unfold capf
        rw [d, if_neg (by decide)]
        omega
      · have d := bit1 (bit_iv hi (by omega)) d
        refine trow_iv h4 hn hi (by omega) hsm hy (by omega) (fun q hq => rec q _ ?_ (by omega))
        show q.toInt = sumN (k + 1) (capf n R i3)
        rw [ce, hq]
        unfold capf
        rw [d, if_pos rfl]