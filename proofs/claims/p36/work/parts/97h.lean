/-! between, would, about, apart -/
theorem cbetween_iv {n s g : Nat} {R F Rc Fc f28 f30 f36 f37 : Nat → Int32} {i13 i22 i23 i24 i33 i35 i2 i3 : Int32} {l38 : Int64} (hI : FI n s g R F) (hR : same Rc R) (h13 : i13.toInt = n) (h33 : 0 ≤ i33.toInt ∧ i33.toInt ≤ 9) (h35 : 0 ≤ i35.toInt ∧ i35.toInt ≤ 10) : Ok (fL_between i13 Rc Fc i22 i23 i24 f28 f30 i33 i35 f36 f37 l38 i2 i3) (fun z => CQ (pl n i2 ∧ pl n i3) (¬ i2 = i3) (fun v => v = least n (tn i2) (tn i3) R) z.1 z.2.2.2.2.2.2.2.2.2.2 ∧ (0 ≤ z.2.2.2.2.2.2.1.toInt ∧ z.2.2.2.2.2.2.1.toInt ≤ 9) ∧ (0 ≤ z.2.2.2.2.2.2.2.1.toInt ∧ z.2.2.2.2.2.2.2.1.toInt ≤ 10)) := by
  have t0 : (0 : Int32).toInt = 0 := rfl
  unfold fL_between
  refine xc_of ?_
  unfold fX6_between
  refine xb_pair h13 (fun q => ?_) (fun q p => ?_) (fun q p => ?_)
  · show Ok (if _ then _ else _) _
    rw [if_pos rfl]
    exact ⟨_, rfl, Or.inl ⟨q, rfl⟩, h33, h35⟩
  · show Ok (if _ then _ else _) _
    rw [if_neg (by decide), if_pos rfl]
    exact ⟨_, rfl, Or.inr (Or.inl ⟨q, p, rfl⟩), h33, h35⟩
  · obtain ⟨a2, l2⟩ := q.1.eq
    obtain ⟨a3, l3⟩ := q.2.eq
    refine Ok_bind (become2_iv f28 f30 Rc Fc) (fun z37 h37 => ?_)
    have e := h37.1.trans hR
    refine Ok_bind (mostTrial_iv (hI.rm.ofsame e) hI.1 l2 l3 (fun w => p (Int32.toInt_inj.mp (by omega))) h13 a2 a3 (by omega)) (fun z hz => ?_)
    exact ⟨_, rfl, ⟨_, rfl, Or.inr (Or.inr ⟨q, p, rfl, z.1, rfl, by rw [hz.1]; exact least_same hI.1.2 e⟩), hz.2.1, hz.2.2⟩⟩
theorem leastQ_iv {n s g : Nat} {R : Nat → Int32} {i5 i3 i4 : Int32} (n9 : n ≤ 9) (hs : s < n) (hg : g < n) (hsm : sm R) (h5 : i5.toInt = n) (h3 : i3.toInt = s) (h4 : i4.toInt = g) : Ok (fX8_least i5 R i3 i4) (fun z => z.toInt = least n s g R) := by
  obtain ⟨z, e, h⟩ := leastNow_iv n9 hs hg hsm h5 h3 h4
  unfold fX8_leastNow at e
  cases q : fX8_least i5 R i3 i4 with
  | none => rw [q] at e; exact absurd e (by simp)
  | some y =>
    rw [q] at e
    have e : some y = some z := e
    exact ⟨y, rfl, by rw [Option.some.inj e]; exact h⟩
theorem between_iv {n s g : Nat} {R F : Nat → Int32} {i4 i2 i3 : Int32} (hI : FI n s g R F) (h4 : i4.toInt = n) : Ok (fX8_between i4 R i2 i3) (fun z => RQ (pl n i2 ∧ pl n i3) (¬ i2 = i3) (fun v => v = least n (tn i2) (tn i3) R) z.2 z.1) := by
  unfold fX8_between
  refine fl_pp h4 (fun i hi => Ok_jn (fun k21 w21 => ?_))
  have go : ∀ j, flag (¬ i2 = i3) j → Ok (k21 j) (fun z => RQ (pl n i2 ∧ pl n i3) (¬ i2 = i3) (fun v => v = least n (tn i2) (tn i3) R) z.2 z.1) := by
    intro j hj
    rw [w21]
    refine thrown2 hi hj (fun q => ⟨_, rfl, Or.inl ⟨q, rfl⟩⟩) (fun q p => ⟨_, rfl, Or.inr (Or.inl ⟨q, p, rfl⟩)⟩) (fun q p => Ok_if (fun _ => ?_) (fun h => absurd rfl h))
    obtain ⟨a2, l2⟩ := q.1.eq
    obtain ⟨a3, l3⟩ := q.2.eq
    exact Ok_bind (leastQ_iv hI.1.2 l2 l3 hI.smR h4 a2 a3) (fun z hz => Ok_some (Or.inr (Or.inr ⟨q, p, rfl, hz⟩)))
  exact Ok_if (fun e => go 1 (Or.inr ⟨fun q => q e, rfl⟩)) (fun e => go 0 (Or.inl ⟨e, rfl⟩))
/-! about: all ways turned round, the ends exchanged -/
/-! apart: every room above 0 made 1 -/