/-! between, would, about, apart -/
def by1 (x : Int32) : Prop := -1 ≤ x.toInt ∧ x.toInt ≤ 1
def A_would (n s g : Nat) (R : Nat → Int32) (a b : Nat) (d v : Int) : Prop := (0 ≤ G R a b + d ∧ ∃ R', isput R R' a b (G R a b + d) ∧ v = least n s g R') ∨ (¬ (0 ≤ G R a b + d) ∧ v = -9)
theorem would_only {n s g a b : Nat} {R : Nat → Int32} {d : Int} (hn : n ≤ 9) : only1 (A_would n s g R a b d) := by
  intro x y hx hy
  rcases hx with ⟨p, R1, q, e⟩ | ⟨p, e⟩ <;> rcases hy with ⟨p', R2, q', e'⟩ | ⟨p', e'⟩
  · rw [e, e']; exact least_same hn (isput_same q q')
  · exact absurd p p'
  · exact absurd p' p
  · rw [e, e']
theorem RM.put {n a b : Nat} {R R' : Nat → Int32} {v : Int} (h : ∀ a b, a < 9 → b < 9 → (0 ≤ G R a b ∧ G R a b ≤ 50) ∧ (a = b ∨ n ≤ a ∨ n ≤ b → G R a b = 0)) (hp : isput R R' a b v) (hv : 0 ≤ v ∧ v ≤ 51) (ha : a < n) (hb : b < n) (hab : a ≠ b) : RM n R' := fun x y hx hy => by
  have q := h x y hx hy
  rw [hp x y hx hy]
  by_cases c : x = a ∧ y = b
  · rw [if_pos c]
    exact ⟨hv, fun w => by omega⟩
  · rw [if_neg c]
    exact ⟨by omega, q.2⟩
theorem cwould_iv {n s g : Nat} {R F Rc Fc f29 f31 f37 f38 : Nat → Int32} {i14 i15 i16 i23 i24 i25 i34 i36 i2 i3 i4 : Int32} {l39 : Int64} (hI : FI n s g R F) (hR : same Rc R) (h14 : i14.toInt = n) (h15 : i15.toInt = s) (h16 : i16.toInt = g) (h34 : 0 ≤ i34.toInt ∧ i34.toInt ≤ 9) (h36 : 0 ≤ i36.toInt ∧ i36.toInt ≤ 10) : Ok (fL_would i14 i15 i16 Rc Fc i23 i24 i25 f29 f31 i34 i36 f37 f38 l39 i2 i3 i4) (fun z => CQ (pl n i2 ∧ pl n i3) (¬ i2 = i3 ∧ by1 i4) (A_would n s g R (tn i2) (tn i3) i4.toInt) z.1 z.2.2.2.2.2.2.2.2.2.2 ∧ (0 ≤ z.2.2.2.2.2.2.1.toInt ∧ z.2.2.2.2.2.2.1.toInt ≤ 9) ∧ (0 ≤ z.2.2.2.2.2.2.2.1.toInt ∧ z.2.2.2.2.2.2.2.1.toInt ≤ 10)) := by
  have n9 := hI.1
  have se := hI.2.1
  have t0 : (0 : Int32).toInt = 0 := rfl
  unfold fL_would
  refine xc_of ?_
  unfold fX6_would
  refine xb_pair h14 (fun q => ?_) (fun q p => ?_) (fun q p => xb_need (needWithin_iv (lo := -1) (hi := 1) rfl rfl) (fun p2 => ?_) (fun p2 => ?_))
  · show Ok (if _ then _ else _) _
    rw [if_pos rfl]
    exact ⟨_, rfl, Or.inl ⟨q, rfl⟩, h34, h36⟩
  · show Ok (if _ then _ else _) _
    rw [if_neg (by decide), if_pos rfl]
    exact ⟨_, rfl, Or.inr (Or.inl ⟨q, fun c => p c.1, rfl⟩), h34, h36⟩
  · show Ok (if _ then _ else _) _
    rw [if_neg (by decide), if_pos rfl]
    exact ⟨_, rfl, Or.inr (Or.inl ⟨q, fun c => p2 c.2, rfl⟩), h34, h36⟩
  · obtain ⟨a2, l2⟩ := q.1.eq
    obtain ⟨a3, l3⟩ := q.2.eq
    have rb := (hI.2.2.1 (tn i2) (tn i3) (by omega) (by omega)).1
    have hne : tn i2 ≠ tn i3 := fun w => p (Int32.toInt_inj.mp (by omega))
    refine Ok_bind (at_iv a2 a3 (by omega) (by omega)) (fun z40 h40 => Ok_nm (fun y wy => ?_))
    rw [hR _ _ (by omega) (by omega)] at h40
    have ey : y.toInt = G R (tn i2) (tn i3) + i4.toInt := by rw [wy, add_iv (by omega) (by omega), h40]
    clear wy
    refine Ok_if (fun h => ?_) (fun h => ?_)
    · have h := i32le h
      refine Ok_bind (become2_iv f29 f31 Rc Fc) (fun z42 h42 => Ok_bind (put_iv a2 a3 (by omega) (by omega)) (fun z43 h43 => ?_))
      have hp := h43.ofsame (h42.1.trans hR)
      refine Ok_bind (mostTrial_iv (RM.put hI.2.2.1 hp (by omega) l2 l3 hne) n9 se.1 se.2.1 se.2.2 h14 h15 h16 (by omega)) (fun z hz => ?_)
      rw [ey] at hp
      exact ⟨_, rfl, ⟨_, rfl, Or.inr (Or.inr ⟨q, ⟨p, p2⟩, rfl, z.1, rfl, Or.inl ⟨by omega, z43, hp, hz.1⟩⟩), hz.2.1, hz.2.2⟩⟩
    · have h := i32nle h
      exact ⟨_, rfl, ⟨_, rfl, Or.inr (Or.inr ⟨q, ⟨p, p2⟩, rfl, -9, rfl, Or.inr ⟨by omega, rfl⟩⟩), h34, h36⟩⟩
theorem would_iv {n s g : Nat} {R F : Nat → Int32} {i5 i8 i9 i2 i3 i4 : Int32} (hI : FI n s g R F) (h5 : i5.toInt = n) (h8 : i8.toInt = s) (h9 : i9.toInt = g) : Ok (fX8_would i5 i8 i9 R i2 i3 i4) (fun z => RQ (pl n i2 ∧ pl n i3) (¬ i2 = i3 ∧ by1 i4) (A_would n s g R (tn i2) (tn i3) i4.toInt) z.2.1 z.1 ∧ same z.2.2 R) := by
  unfold fX8_would
  have n9 := hI.1
  have se := hI.2.1
  have r0 : same R R := fun _ _ _ _ => rfl
  refine fl_pp h5 (fun i hi => Ok_jn (fun k22 w22 => ?_))
  have go : ∀ j, flag (¬ i2 = i3 ∧ by1 i4) j → Ok (k22 j) (fun z => RQ (pl n i2 ∧ pl n i3) (¬ i2 = i3 ∧ by1 i4) (A_would n s g R (tn i2) (tn i3) i4.toInt) z.2.1 z.1 ∧ same z.2.2 R) := by
    intro j hj
    rw [w22]
    refine thrown2 hi hj (fun q => ⟨_, rfl, Or.inl ⟨q, rfl⟩, r0⟩) (fun q p => ⟨_, rfl, Or.inr (Or.inl ⟨q, p, rfl⟩), r0⟩) (fun q p => Ok_if (fun _ => ?_) (fun h => absurd rfl h))
    obtain ⟨g1, g2, gR, -⟩ := cell_iv (F := R) q.1 q.2 n9.2
    obtain ⟨a2, l2⟩ := q.1.eq
    obtain ⟨a3, l3⟩ := q.2.eq
    have rb := (hI.2.2.1 (tn i2) (tn i3) (by omega) (by omega)).1
    have hb := p.2
    unfold by1 at hb
    have t0 : (0 : Int32).toInt = 0 := rfl
    have hne : tn i2 ≠ tn i3 := fun w => p.1 (Int32.toInt_inj.mp (by omega))
    refine Ok_bind gR (fun z28 h28 => ?_)
    have es : (z28 + i4).toInt = G R (tn i2) (tn i3) + i4.toInt := by rw [add_iv (by omega) (by omega), h28]
    refine Ok_if (fun h => ?_) (fun h => ?_)
    · have h := i32le h
      rw [g2]
      have hp : isput R (upd R (tn i2 * 9 + tn i3) (R (tn i2 * 9 + tn i3) + i4)) (tn i2) (tn i3) (G R (tn i2) (tn i3) + i4.toInt) := by
        have := isput_upd (F := R) (a := tn i2) (b := tn i3) (x := R (tn i2 * 9 + tn i3) + i4) (by omega)
        rw [add_iv (by show -2147483648 ≤ G R (tn i2) (tn i3) + i4.toInt; omega) (by show G R (tn i2) (tn i3) + i4.toInt < 2147483648; omega)] at this
        exact this
      have hm := RM.put hI.2.2.1 hp (by omega) l2 l3 hne
      refine Ok_inB g1 (Ok_inB g1 (Ok_bind (leastNow_iv n9.2 se.1 se.2.1 (fun a b ha hb => by have := (hm a b ha hb).1; omega) h5 h8 h9) (fun z29 h29 => Ok_inB g1 (Ok_inB g1 (Ok_some ⟨Or.inr (Or.inr ⟨q, p, rfl, Or.inl ⟨by omega, _, hp, h29⟩⟩), fun a b ha hb => ?_⟩)))))
      show (upd (upd R (tn i2 * 9 + tn i3) (R (tn i2 * 9 + tn i3) + i4)) (tn i2 * 9 + tn i3) (upd R (tn i2 * 9 + tn i3) (R (tn i2 * 9 + tn i3) + i4) (tn i2 * 9 + tn i3) - i4) (a * 9 + b)).toInt = (R (a * 9 + b)).toInt
      unfold upd
      by_cases c : a * 9 + b = tn i2 * 9 + tn i3
      · rw [if_pos c, if_pos rfl, c, Int32.add_sub_cancel]
      · rw [if_neg c, if_neg c]
    · have h := i32nle h
      exact Ok_some ⟨Or.inr (Or.inr ⟨q, p, rfl, Or.inr ⟨by omega, rfl⟩⟩), r0⟩
  refine Ok_jn (fun k24 w24 => ?_)
  rw [w24]
  have t1 : (1 : Int32).toInt = 1 := rfl
  have tm : (-1 : Int32).toInt = -1 := rfl
  unfold by1 at go
  unfold by1
  refine Ok_if (fun e => go 1 (Or.inr ⟨fun q => q.1 e, rfl⟩)) (fun e => Ok_if (fun h => ?_) (fun h => Ok_if (fun h2 => ?_) (fun h2 => ?_)))
  · have h := i32lt h
    exact go 1 (Or.inr ⟨fun c => by have := c.2.1; omega, rfl⟩)
  · have h := i32nlt h
    have h2 := i32le h2
    exact go 0 (Or.inl ⟨⟨e, by omega, by omega⟩, rfl⟩)
  · have h2 := i32nle h2
    exact go 1 (Or.inr ⟨fun c => by have := c.2.2; omega, rfl⟩)
/-! about: all ways turned round, the ends exchanged -/
/-! apart: every room above 0 made 1 -/