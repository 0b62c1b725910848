/-! places, sharply: what the class answers, what it leaves -/
theorem ok_X6_places2 (i8 i11 : Int32) (f17 f19 : Nat → Int32) (i2 : Int32) : Ok (fX6_places i8 i11 f17 f19 i2) (Sx ["java/lang/IllegalArgumentException"] (2 ≤ i2.toInt ∧ i2.toInt ≤ 9) (fun z => (2 ≤ i2.toInt ∧ i2.toInt ≤ 9) ∧ z.1 = i11 ∧ z.2.1 = i8 + 1 ∧ z.2.2.1 = i2 - 1)) := by
  have t2 : (2 : Int32).toInt = 2 := rfl
  have t9 : (9 : Int32).toInt = 9 := rfl
  unfold fX6_places
  refine Ok_xb (ok_X6_needWithin i2 2 9) (fun e he hn => ⟨he, fun g => hn ⟨by omega, by omega⟩⟩) (fun z20 h20 => ?_)
  refine Ok_bind (R := fun z => z.1 = i2 - 1) ?_ (fun z21 h21 => ?_)
  · unfold fX2_begin
    exact Ok_bind (ok_X1_clear f17) (fun z12 _ => Ok_bind (ok_X1_clear f19) (fun z13 _ => Ok_some rfl))
  · exact Ok_bind (R := fun z => z.1 = i11 ∧ z.2 = i8 + 1) (Ok_some ⟨rfl, rfl⟩) (fun z22 h22 => Ok_some ⟨⟨by omega, by omega⟩, h22.1, h22.2, h21⟩)
theorem ok_L_places2 (i9 i12 i13 i14 : Int32) (f18 f20 : Nat → Int32) (l21 : Int64) (i2 : Int32) : Ok (fL_places i9 i12 i13 i14 f18 f20 l21 i2) (fun z => (z.1 = 1 ∧ ¬ (2 ≤ i2.toInt ∧ i2.toInt ≤ 9) ∧ z.2.1 = i9 ∧ z.2.2.1 = i12 ∧ z.2.2.2.1 = i13 ∧ z.2.2.2.2.1 = i14) ∨ (z.1 = 0 ∧ (2 ≤ i2.toInt ∧ i2.toInt ≤ 9) ∧ z.2.1 = i9 + 1 ∧ z.2.2.1 = i2 ∧ z.2.2.2.1 = 0 ∧ z.2.2.2.2.1 = i2 - 1 ∧ z.2.2.2.2.2.2.2 = i12.toInt64)) := by
  unfold fL_places
  refine Ok_xc (ok_X6_places2 i9 i12 f18 f20 i2) (fun en hen hn => ?_) (fun z hz => ?_)
  · simp only [List.mem_cons, List.not_mem_nil, or_false] at hen
    subst hen
    rw [if_pos rfl]
    exact Ok_some (Or.inl ⟨rfl, hn, rfl, rfl, rfl, rfl⟩)
  · exact Ok_some (Or.inr ⟨rfl, hz.1, hz.2.2.1, rfl, rfl, hz.2.2.2, by rw [hz.2.1]⟩)
