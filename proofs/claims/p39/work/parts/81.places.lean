/-! places of the reference, sharply -/
theorem thr0 : fX8_isThrown_ 0 = some (0, 0) := by decide +kernel
theorem thr1 : fX8_isThrown_ 1 = some (1, 1) := by decide +kernel
theorem ok_X8_places2 (i3 i6 i7 i8 : Int32) (f12 f13 : Nat → Int32) (i2 : Int32) : Ok (fX8_places i3 i6 i7 i8 f12 f13 i2) (fun z => (¬ (2 ≤ i2.toInt ∧ i2.toInt ≤ 9) ∧ z = (0, i3, i6, i7, i8, 1, f12, f13)) ∨ ((2 ≤ i2.toInt ∧ i2.toInt ≤ 9) ∧ z = (i3, i2, 0, i2 - 1, i8 + 1, 0, (fun _ => 0), (fun _ => 0)))) := by
  have t2 : (2 : Int32).toInt = 2 := rfl
  have t9 : (9 : Int32).toInt = 9 := rfl
  unfold fX8_places
  refine Ok_jn (fun k14 w14 => Ok_jn (fun k16 w16 => ?_))
  have no : ¬ (2 ≤ i2.toInt ∧ i2.toInt ≤ 9) → Ok (k16 ()) (fun z => (¬ (2 ≤ i2.toInt ∧ i2.toInt ≤ 9) ∧ z = (0, i3, i6, i7, i8, 1, f12, f13)) ∨ ((2 ≤ i2.toInt ∧ i2.toInt ≤ 9) ∧ z = (i3, i2, 0, i2 - 1, i8 + 1, 0, (fun _ => 0), (fun _ => 0)))) := by
    intro hn
    rw [w16, w14]
    show Ok ((fX8_isThrown_ 1).bind _) _
    rw [thr1]
    exact ⟨_, rfl, Or.inl ⟨hn, rfl⟩⟩
  refine Ok_if (fun h => ?_) (fun h => ?_)
  · have h := i32lt h
    exact no (by omega)
  · have h := i32nlt h
    refine Ok_if (fun g => ?_) (fun g => ?_)
    · have g := i32le g
      rw [w14]
      show Ok ((fX8_isThrown_ 0).bind _) _
      rw [thr0]
      exact ⟨_, rfl, Or.inr ⟨⟨by omega, by omega⟩, rfl⟩⟩
    · have g := i32nle g
      exact no (by omega)
