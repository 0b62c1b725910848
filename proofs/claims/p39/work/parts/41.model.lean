/-! by program: 41.model -/
abbrev mX8_places : MX := (yX8_places, cX8_places, 3, (some FieldType.int), { frames := 2, cells := 2, slots := 162, locals := 43 })
abbrev zX8_places (E : EX) (q1 : Nat) (i9 : Int32) (i10 : Int32) : (Int32 × Int32 × Int32 × Int32 × Int32 × Int32 × (Nat → Int32) × (Nat → Int32)) → Option Value → va_W → Prop := fun z v w => ∃ q25 : Nat, ∃ q26 : Nat, v = some (.int z.1) ∧ w = [(q1, .inr (9, [.int z.2.1, .ref q25, .ref q26, .int z.2.2.1, .int z.2.2.2.1, .int z.2.2.2.2.1, .int i9, .int i10, .int z.2.2.2.2.2.1])), (q25, .inl (E.2.1, 81, .inl z.2.2.2.2.2.2.1)), (q26, .inl (E.2.1, 81, .inl z.2.2.2.2.2.2.2))]
abbrev mX8_ends : MX := (yX8_ends, cX8_ends, 4, (some FieldType.int), { frames := 2, cells := 0, slots := 0, locals := 44 })
abbrev zX8_ends (E : EX) (q1 : Nat) (q6 : Nat) (i4 : Int32) (v5 : Value) (i10 : Int32) (i11 : Int32) : (Int32 × Int32 × Int32 × Int32 × Int32 × (Nat → Int32)) → Option Value → va_W → Prop := fun z v w => v = some (.int z.1) ∧ w = [(q1, .inr (9, [.int i4, v5, .ref q6, .int z.2.1, .int z.2.2.1, .int z.2.2.2.1, .int i10, .int i11, .int z.2.2.2.2.1])), (q6, .inl (E.2.1, 81, .inl z.2.2.2.2.2))]
abbrev mX8_room_ : MX := (yX8_room_, cX8_room_, 5, (some FieldType.int), { frames := 1, cells := 0, slots := 0, locals := 22 })
abbrev zX8_room_ (E : EX) (q1 : Nat) (q6 : Nat) (q7 : Nat) (i5 : Int32) (i8 : Int32) (i9 : Int32) (i12 : Int32) (f15 : Nat → Int32) : (Int32 × Int32 × Int32 × Int32 × (Nat → Int32)) → Option Value → va_W → Prop := fun z v w => v = some (.int z.1) ∧ w = [(q1, .inr (9, [.int i5, .ref q6, .ref q7, .int i8, .int i9, .int z.2.1, .int z.2.2.1, .int i12, .int z.2.2.2.1])), (q6, .inl (E.2.1, 81, .inl z.2.2.2.2)), (q7, .inl (E.2.1, 81, .inl f15))]
abbrev mX8_widen : MX := (yX8_widen, cX8_widen, 5, (some FieldType.int), { frames := 1, cells := 0, slots := 0, locals := 22 })
abbrev zX8_widen (E : EX) (q1 : Nat) (q6 : Nat) (q7 : Nat) (i5 : Int32) (i8 : Int32) (i9 : Int32) (i12 : Int32) (f15 : Nat → Int32) : (Int32 × Int32 × Int32 × Int32 × (Nat → Int32)) → Option Value → va_W → Prop := fun z v w => v = some (.int z.1) ∧ w = [(q1, .inr (9, [.int i5, .ref q6, .ref q7, .int i8, .int i9, .int z.2.1, .int z.2.2.1, .int i12, .int z.2.2.2.1])), (q6, .inl (E.2.1, 81, .inl z.2.2.2.2)), (q7, .inl (E.2.1, 81, .inl f15))]
abbrev mX8_circle : MX := (yX8_circle, cX8_circle, 5, (some FieldType.int), { frames := 2, cells := 0, slots := 0, locals := 43 })
abbrev zX8_circle (E : EX) (q1 : Nat) (q4 : Nat) (q5 : Nat) (i3 : Int32) (i6 : Int32) (i7 : Int32) (i10 : Int32) (f13 : Nat → Int32) : (Int32 × Int32 × Int32 × Int32 × (Nat → Int32)) → Option Value → va_W → Prop := fun z v w => v = some (.int z.1) ∧ w = [(q1, .inr (9, [.int i3, .ref q4, .ref q5, .int i6, .int i7, .int z.2.1, .int z.2.2.1, .int i10, .int z.2.2.2.1])), (q4, .inl (E.2.1, 81, .inl z.2.2.2.2)), (q5, .inl (E.2.1, 81, .inl f13))]
abbrev mX8_sumOfRooms : MX := (yX8_sumOfRooms, cX8_sumOfRooms, 3, (some FieldType.int), { frames := 1, cells := 0, slots := 0, locals := 24 })
abbrev zX8_sumOfRooms (E : EX) (q1 : Nat) (q3 : Nat) (i2 : Int32) (v4 : Value) (i5 : Int32) (i6 : Int32) (i7 : Int32) (i8 : Int32) (i9 : Int32) (i10 : Int32) (f11 : Nat → Int32) : (Int32) → Option Value → va_W → Prop := fun z v w => v = some (.int z) ∧ w = [(q1, .inr (9, [.int i2, .ref q3, v4, .int i5, .int i6, .int i7, .int i8, .int i9, .int i10])), (q3, .inl (E.2.1, 81, .inl f11))]
abbrev mX8_strew : MX := (yX8_strew, cX8_strew, 4, (some FieldType.int), { frames := 2, cells := 0, slots := 0, locals := 46 })
abbrev zX8_strew (E : EX) (q1 : Nat) (q4 : Nat) (q5 : Nat) (i3 : Int32) (i6 : Int32) (i7 : Int32) (i9 : Int32) (i10 : Int32) : (Int32 × Int32 × Int32 × (Nat → Int32) × (Nat → Int32)) → Option Value → va_W → Prop := fun z v w => v = some (.int z.1) ∧ w = [(q1, .inr (9, [.int i3, .ref q4, .ref q5, .int i6, .int i7, .int z.2.1, .int i9, .int i10, .int z.2.2.1])), (q4, .inl (E.2.1, 81, .inl z.2.2.2.1)), (q5, .inl (E.2.1, 81, .inl z.2.2.2.2))]
abbrev mX8_exchange : MX := (yX8_exchange, cX8_exchange, 4, (Option.none : Option FieldType), { frames := 0, cells := 0, slots := 0, locals := 0 })
abbrev zX8_exchange (E : EX) (q1 : Nat) : ((Nat → Int32)) → Option Value → va_W → Prop := fun z v w => v = none ∧ w = [(q1, .inl (E.2.1, 81, .inl z))]
abbrev mX8_turnRound : MX := (yX8_turnRound, cX8_turnRound, 3, (some FieldType.int), { frames := 2, cells := 0, slots := 0, locals := 44 })
abbrev zX8_turnRound (E : EX) (q1 : Nat) (q3 : Nat) (q4 : Nat) (i2 : Int32) (i6 : Int32) (i5 : Int32) (i8 : Int32) (i9 : Int32) : (Int32 × Int32 × (Nat → Int32) × (Nat → Int32)) → Option Value → va_W → Prop := fun z v w => v = some (.int z.1) ∧ w = [(q1, .inr (9, [.int i2, .ref q3, .ref q4, .int i6, .int i5, .int z.2.1, .int i8, .int i9, .int (0 : Int32)])), (q3, .inl (E.2.1, 81, .inl z.2.2.1)), (q4, .inl (E.2.1, 81, .inl z.2.2.2))]
abbrev mX8_swapped : MX := (yX8_swapped, cX8_swapped, 3, (some FieldType.int), { frames := 0, cells := 0, slots := 0, locals := 0 })
abbrev zX8_swapped (E : EX)  : (Int32) → Option Value → va_W → Prop := fun z v w => v = some (.int z) ∧ w = []
abbrev mX8_swappedRow : MX := (yX8_swappedRow, cX8_swappedRow, 7, (some (FieldType.array FieldType.int)), { frames := 1, cells := 1, slots := 81, locals := 22 })
abbrev zX8_swappedRow (E : EX) (q1 : Nat) (q2 : Nat) (i5 : Int32) (v6 : Value) (v7 : Value) (i8 : Int32) (i9 : Int32) (i10 : Int32) (i11 : Int32) (i12 : Int32) (i13 : Int32) (f14 : Nat → Int32) : ((Nat → Int32)) → Option Value → va_W → Prop := fun z v w => ∃ q79 : Nat, v = some (.ref q79) ∧ w = [(q1, .inr (9, [.int i5, v6, v7, .int i8, .int i9, .int i10, .int i11, .int i12, .int i13])), (q2, .inl (E.2.1, 81, .inl f14)), (q79, .inl (E.2.1, 81, .inl z))]
abbrev mX8_swap : MX := (yX8_swap, cX8_swap, 3, (some FieldType.int), { frames := 2, cells := 2, slots := 162, locals := 48 })
abbrev zX8_swap (E : EX) (q1 : Nat) (i4 : Int32) (i10 : Int32) (i11 : Int32) : (Int32 × Int32 × Int32 × Int32 × Int32 × (Nat → Int32) × (Nat → Int32)) → Option Value → va_W → Prop := fun z v w => ∃ q31 : Nat, ∃ q32 : Nat, v = some (.int z.1) ∧ w = [(q1, .inr (9, [.int i4, .ref q31, .ref q32, .int z.2.1, .int z.2.2.1, .int z.2.2.2.1, .int i10, .int i11, .int z.2.2.2.2.1])), (q31, .inl (E.2.1, 81, .inl z.2.2.2.2.2.1)), (q32, .inl (E.2.1, 81, .inl z.2.2.2.2.2.2))]
abbrev mX8_step : MX := (yX8_step, cX8_step, 2, (some FieldType.int), { frames := 16, cells := 3, slots := 48, locals := 394 })
abbrev zX8_step (E : EX) (q1 : Nat) (q4 : Nat) (q5 : Nat) (i3 : Int32) (i6 : Int32) (i7 : Int32) (i9 : Int32) (i10 : Int32) (f12 : Nat → Int32) : (Int32 × Int32 × Int32 × (Nat → Int32)) → Option Value → va_W → Prop := fun z v w => v = some (.int z.1) ∧ w = [(q1, .inr (9, [.int i3, .ref q4, .ref q5, .int i6, .int i7, .int z.2.1, .int i9, .int i10, .int z.2.2.1])), (q4, .inl (E.2.1, 81, .inl f12)), (q5, .inl (E.2.1, 81, .inl z.2.2.2))]
abbrev mX8_fill : MX := (yX8_fill, cX8_fill, 3, (some FieldType.int), { frames := 16, cells := 1260, slots := 20160, locals := 394 })
abbrev zX8_fill (E : EX) (q1 : Nat) (q4 : Nat) (q5 : Nat) (i3 : Int32) (i6 : Int32) (i7 : Int32) (i9 : Int32) (i10 : Int32) (f12 : Nat → Int32) : (Int32 × Int32 × Int32 × (Nat → Int32)) → Option Value → va_W → Prop := fun z v w => v = some (.int z.1) ∧ w = [(q1, .inr (9, [.int i3, .ref q4, .ref q5, .int i6, .int i7, .int z.2.1, .int i9, .int i10, .int z.2.2.1])), (q4, .inl (E.2.1, 81, .inl f12)), (q5, .inl (E.2.1, 81, .inl z.2.2.2))]
abbrev mX8_send : MX := (yX8_send, cX8_send, 4, (some FieldType.int), { frames := 2, cells := 0, slots := 0, locals := 44 })
abbrev zX8_send (E : EX) (q1 : Nat) (q5 : Nat) (q6 : Nat) (i4 : Int32) (i7 : Int32) (i8 : Int32) (i11 : Int32) (f13 : Nat → Int32) : (Int32 × Int32 × Int32 × Int32 × (Nat → Int32)) → Option Value → va_W → Prop := fun z v w => v = some (.int z.1) ∧ w = [(q1, .inr (9, [.int i4, .ref q5, .ref q6, .int i7, .int i8, .int z.2.1, .int z.2.2.1, .int i11, .int z.2.2.2.1])), (q5, .inl (E.2.1, 81, .inl f13)), (q6, .inl (E.2.1, 81, .inl z.2.2.2.2))]
abbrev mX8_flowing : MX := (yX8_flowing, cX8_flowing, 6, (some FieldType.int), { frames := 0, cells := 0, slots := 0, locals := 0 })
abbrev zX8_flowing (E : EX) (q1 : Nat) (q4 : Nat) (i2 : Int32) (v3 : Value) (i5 : Int32) (i6 : Int32) (i7 : Int32) (i8 : Int32) (i9 : Int32) (i10 : Int32) (f11 : Nat → Int32) : (Int32) → Option Value → va_W → Prop := fun z v w => v = some (.int z) ∧ w = [(q1, .inr (9, [.int i2, v3, .ref q4, .int i5, .int i6, .int i7, .int i8, .int i9, .int i10])), (q4, .inl (E.2.1, 81, .inl f11))]
abbrev mX8_round : MX := (yX8_round, cX8_round, 5, (some FieldType.int), { frames := 2, cells := 0, slots := 0, locals := 44 })
abbrev zX8_round (E : EX) (q1 : Nat) (q7 : Nat) (q8 : Nat) (i6 : Int32) (i9 : Int32) (i10 : Int32) (i13 : Int32) (f15 : Nat → Int32) : (Int32 × Int32 × Int32 × Int32 × (Nat → Int32)) → Option Value → va_W → Prop := fun z v w => v = some (.int z.1) ∧ w = [(q1, .inr (9, [.int i6, .ref q7, .ref q8, .int i9, .int i10, .int z.2.1, .int z.2.2.1, .int i13, .int z.2.2.2.1])), (q7, .inl (E.2.1, 81, .inl f15)), (q8, .inl (E.2.1, 81, .inl z.2.2.2.2))]
abbrev mX8_peel : MX := (yX8_peel, cX8_peel, 2, (some FieldType.int), { frames := 2, cells := 2, slots := 32, locals := 54 })
abbrev zX8_peel (E : EX) (q1 : Nat) (q4 : Nat) (i2 : Int32) (v3 : Value) (i5 : Int32) (i6 : Int32) (i8 : Int32) (i9 : Int32) : (Int32 × Int32 × (Nat → Int32)) → Option Value → va_W → Prop := fun z v w => v = some (.int z.1) ∧ w = [(q1, .inr (9, [.int i2, v3, .ref q4, .int i5, .int i6, .int z.2.1, .int i8, .int i9, .int (0 : Int32)])), (q4, .inl (E.2.1, 81, .inl z.2.2))]
abbrev mX8_empty : MX := (yX8_empty, cX8_empty, 2, (some FieldType.int), { frames := 2, cells := 0, slots := 0, locals := 44 })
abbrev zX8_empty (E : EX) (q1 : Nat) (q4 : Nat) (i2 : Int32) (v3 : Value) (i5 : Int32) (i6 : Int32) (i8 : Int32) (i9 : Int32) : (Int32 × Int32 × (Nat → Int32)) → Option Value → va_W → Prop := fun z v w => v = some (.int z.1) ∧ w = [(q1, .inr (9, [.int i2, v3, .ref q4, .int i5, .int i6, .int z.2.1, .int i8, .int i9, .int (0 : Int32)])), (q4, .inl (E.2.1, 81, .inl z.2.2))]
abbrev mX8_toldNow : MX := (yX8_toldNow, cX8_toldNow, 7, (some FieldType.int), { frames := 2, cells := 0, slots := 0, locals := 46 })
abbrev zX8_toldNow (E : EX) (q1 : Nat) (q4 : Nat) (i3 : Int32) (v5 : Value) (i6 : Int32) (i7 : Int32) (i8 : Int32) (i9 : Int32) (i10 : Int32) (i11 : Int32) (f12 : Nat → Int32) : (Int32) → Option Value → va_W → Prop := fun z v w => v = some (.int z) ∧ w = [(q1, .inr (9, [.int i3, .ref q4, v5, .int i6, .int i7, .int i8, .int i9, .int i10, .int i11])), (q4, .inl (E.2.1, 81, .inl f12))]
abbrev mX8_told : MX := (yX8_told, cX8_told, 2, (some FieldType.int), { frames := 3, cells := 0, slots := 0, locals := 72 })
abbrev zX8_told (E : EX) (q1 : Nat) (q4 : Nat) (i3 : Int32) (v5 : Value) (i6 : Int32) (i7 : Int32) (i8 : Int32) (i9 : Int32) (i10 : Int32) (f12 : Nat → Int32) : (Int32 × Int32) → Option Value → va_W → Prop := fun z v w => v = some (.int z.1) ∧ w = [(q1, .inr (9, [.int i3, .ref q4, v5, .int i6, .int i7, .int i8, .int i9, .int i10, .int z.2])), (q4, .inl (E.2.1, 81, .inl f12))]
abbrev mX8_pairNow : MX := (yX8_pairNow, cX8_pairNow, 4, (some FieldType.int), { frames := 2, cells := 0, slots := 0, locals := 44 })
abbrev zX8_pairNow (E : EX) (q1 : Nat) (q6 : Nat) (q7 : Nat) (i5 : Int32) (i8 : Int32) (i9 : Int32) (i10 : Int32) (i11 : Int32) (i12 : Int32) (i13 : Int32) (f14 : Nat → Int32) (f15 : Nat → Int32) : (Int32) → Option Value → va_W → Prop := fun z v w => v = some (.int z) ∧ w = [(q1, .inr (9, [.int i5, .ref q6, .ref q7, .int i8, .int i9, .int i10, .int i11, .int i12, .int i13])), (q6, .inl (E.2.1, 81, .inl f14)), (q7, .inl (E.2.1, 81, .inl f15))]
abbrev mX8_pair : MX := (yX8_pair, cX8_pair, 4, (some FieldType.int), { frames := 3, cells := 0, slots := 0, locals := 67 })
abbrev zX8_pair (E : EX) (q1 : Nat) (q6 : Nat) (q7 : Nat) (i5 : Int32) (i8 : Int32) (i9 : Int32) (i10 : Int32) (i11 : Int32) (i12 : Int32) (f14 : Nat → Int32) (f15 : Nat → Int32) : (Int32 × Int32) → Option Value → va_W → Prop := fun z v w => v = some (.int z.1) ∧ w = [(q1, .inr (9, [.int i5, .ref q6, .ref q7, .int i8, .int i9, .int i10, .int i11, .int i12, .int z.2])), (q6, .inl (E.2.1, 81, .inl f14)), (q7, .inl (E.2.1, 81, .inl f15))]
abbrev mX8_ofPlaceNow : MX := (yX8_ofPlaceNow, cX8_ofPlaceNow, 5, (some FieldType.int), { frames := 1, cells := 0, slots := 0, locals := 24 })
abbrev zX8_ofPlaceNow (E : EX) (q1 : Nat) (q5 : Nat) (q6 : Nat) (i4 : Int32) (i7 : Int32) (i8 : Int32) (i9 : Int32) (i10 : Int32) (i11 : Int32) (i12 : Int32) (f13 : Nat → Int32) (f14 : Nat → Int32) : (Int32) → Option Value → va_W → Prop := fun z v w => v = some (.int z) ∧ w = [(q1, .inr (9, [.int i4, .ref q5, .ref q6, .int i7, .int i8, .int i9, .int i10, .int i11, .int i12])), (q5, .inl (E.2.1, 81, .inl f13)), (q6, .inl (E.2.1, 81, .inl f14))]
abbrev mX8_ofPlace : MX := (yX8_ofPlace, cX8_ofPlace, 3, (some FieldType.int), { frames := 2, cells := 0, slots := 0, locals := 48 })
abbrev zX8_ofPlace (E : EX) (q1 : Nat) (q5 : Nat) (q6 : Nat) (i4 : Int32) (i7 : Int32) (i8 : Int32) (i9 : Int32) (i10 : Int32) (i11 : Int32) (f13 : Nat → Int32) (f14 : Nat → Int32) : (Int32 × Int32) → Option Value → va_W → Prop := fun z v w => v = some (.int z.1) ∧ w = [(q1, .inr (9, [.int i4, .ref q5, .ref q6, .int i7, .int i8, .int i9, .int i10, .int i11, .int z.2])), (q5, .inl (E.2.1, 81, .inl f13)), (q6, .inl (E.2.1, 81, .inl f14))]
abbrev mX8_rowText : MX := (yX8_rowText, cX8_rowText, 5, (some (FieldType.object "java/lang/String")), { frames := 6, cells := 154, slots := 18224, locals := 171 })
abbrev zX8_rowText (E : EX) (q1 : Nat) (q2 : Nat) (i4 : Int32) (v5 : Value) (v6 : Value) (i7 : Int32) (i8 : Int32) (i9 : Int32) (i10 : Int32) (i11 : Int32) (i12 : Int32) (f13 : Nat → Int32) : (Nat × (Nat → Int32)) → Option Value → va_W → Prop := fun z v w => ∃ q82 : Nat, ∃ q83 : Nat, v = some (.ref q82) ∧ w = [(q1, .inr (9, [.int i4, v5, v6, .int i7, .int i8, .int i9, .int i10, .int i11, .int i12])), (q2, .inl (E.2.1, 81, .inl f13)), (q82, .inr (7, [.ref q83, .int cZ, .int (0 : Int32), .int (0 : Int32)])), (q83, .inl (E.2.2.1, z.1, .inl z.2))]
abbrev mX8_roomText : MX := (yX8_roomText, cX8_roomText, 2, (some (FieldType.object "java/lang/String")), { frames := 7, cells := 154, slots := 18224, locals := 195 })
abbrev zX8_roomText (E : EX) (q1 : Nat) (q4 : Nat) (i3 : Int32) (v5 : Value) (i6 : Int32) (i7 : Int32) (i8 : Int32) (i9 : Int32) (i10 : Int32) (f12 : Nat → Int32) : (Int32) → Option Value → va_W → Prop := fun z v w => ∃ q22 : Nat, v = some (.ref q22) ∧ w = [(q1, .inr (9, [.int i3, .ref q4, v5, .int i6, .int i7, .int i8, .int i9, .int i10, .int z])), (q4, .inl (E.2.1, 81, .inl f12))]
abbrev mX8_cut : MX := (yX8_cut, cX8_cut, 2, (some FieldType.int), { frames := 2, cells := 0, slots := 0, locals := 43 })
abbrev zX8_cut (E : EX) (q1 : Nat) (q4 : Nat) (i3 : Int32) (v5 : Value) (i6 : Int32) (i7 : Int32) (i8 : Int32) (i9 : Int32) (i10 : Int32) (f12 : Nat → Int32) : (Int32 × Int32) → Option Value → va_W → Prop := fun z v w => v = some (.int z.1) ∧ w = [(q1, .inr (9, [.int i3, .ref q4, v5, .int i6, .int i7, .int i8, .int i9, .int i10, .int z.2])), (q4, .inl (E.2.1, 81, .inl f12))]
abbrev mX8_least_ : MX := (yX8_least_, cX8_least_, 1, (some FieldType.int), { frames := 3, cells := 0, slots := 0, locals := 70 })
abbrev zX8_least_ (E : EX) (q1 : Nat) (q3 : Nat) (i2 : Int32) (v4 : Value) (i5 : Int32) (i6 : Int32) (i7 : Int32) (i8 : Int32) (i9 : Int32) (f11 : Nat → Int32) : (Int32) → Option Value → va_W → Prop := fun z v w => v = some (.int z) ∧ w = [(q1, .inr (9, [.int i2, .ref q3, v4, .int i5, .int i6, .int i7, .int i8, .int i9, .int (0 : Int32)])), (q3, .inl (E.2.1, 81, .inl f11))]
abbrev mX8_isLeast : MX := (yX8_isLeast, cX8_isLeast, 2, (some FieldType.boolean), { frames := 3, cells := 0, slots := 0, locals := 70 })
abbrev zX8_isLeast (E : EX) (q1 : Nat) (q4 : Nat) (i3 : Int32) (v5 : Value) (i6 : Int32) (i7 : Int32) (i8 : Int32) (i9 : Int32) (i10 : Int32) (f12 : Nat → Int32) : (Int32 × Int32) → Option Value → va_W → Prop := fun z v w => v = some (.int z.1) ∧ w = [(q1, .inr (9, [.int i3, .ref q4, v5, .int i6, .int i7, .int i8, .int i9, .int i10, .int z.2])), (q4, .inl (E.2.1, 81, .inl f12))]
abbrev mX8_leasts : MX := (yX8_leasts, cX8_leasts, 1, (some FieldType.int), { frames := 4, cells := 0, slots := 0, locals := 93 })
abbrev zX8_leasts (E : EX) (q1 : Nat) (q3 : Nat) (i2 : Int32) (v4 : Value) (i5 : Int32) (i6 : Int32) (i7 : Int32) (i8 : Int32) (i9 : Int32) (f11 : Nat → Int32) : (Int32) → Option Value → va_W → Prop := fun z v w => v = some (.int z) ∧ w = [(q1, .inr (9, [.int i2, .ref q3, v4, .int i5, .int i6, .int i7, .int i8, .int i9, .int (0 : Int32)])), (q3, .inl (E.2.1, 81, .inl f11))]
abbrev mX8_nthLeast : MX := (yX8_nthLeast, cX8_nthLeast, 5, (some FieldType.int), { frames := 3, cells := 0, slots := 0, locals := 70 })
abbrev zX8_nthLeast (E : EX) (q1 : Nat) (q4 : Nat) (i3 : Int32) (v5 : Value) (i6 : Int32) (i7 : Int32) (i8 : Int32) (i9 : Int32) (i10 : Int32) (f12 : Nat → Int32) : (Int32 × Int32) → Option Value → va_W → Prop := fun z v w => v = some (.int z.1) ∧ w = [(q1, .inr (9, [.int i3, .ref q4, v5, .int i6, .int i7, .int i8, .int i9, .int i10, .int z.2])), (q4, .inl (E.2.1, 81, .inl f12))]
abbrev mX8_end : MX := (yX8_end, cX8_end, 2, (some FieldType.int), { frames := 4, cells := 0, slots := 0, locals := 94 })
abbrev zX8_end (E : EX) (q1 : Nat) (q4 : Nat) (i3 : Int32) (v5 : Value) (i6 : Int32) (i7 : Int32) (i8 : Int32) (i9 : Int32) (i10 : Int32) (f12 : Nat → Int32) : (Int32) → Option Value → va_W → Prop := fun z v w => v = some (.int z) ∧ w = [(q1, .inr (9, [.int i3, .ref q4, v5, .int i6, .int i7, .int i8, .int i9, .int i10, .int (0 : Int32)])), (q4, .inl (E.2.1, 81, .inl f12))]
abbrev mX8_value : MX := (yX8_value, cX8_value, 1, (some FieldType.int), { frames := 2, cells := 0, slots := 0, locals := 44 })
abbrev zX8_value (E : EX) (q1 : Nat) (q4 : Nat) (i2 : Int32) (v3 : Value) (i5 : Int32) (i6 : Int32) (i7 : Int32) (i8 : Int32) (i9 : Int32) (f11 : Nat → Int32) : (Int32) → Option Value → va_W → Prop := fun z v w => v = some (.int z) ∧ w = [(q1, .inr (9, [.int i2, v3, .ref q4, .int i5, .int i6, .int i7, .int i8, .int i9, .int (0 : Int32)])), (q4, .inl (E.2.1, 81, .inl f11))]
abbrev mX8_most : MX := (yX8_most, cX8_most, 2, (some FieldType.int), { frames := 3, cells := 0, slots := 0, locals := 70 })
abbrev zX8_most (E : EX) (q1 : Nat) (q4 : Nat) (i3 : Int32) (v5 : Value) (i6 : Int32) (i7 : Int32) (i8 : Int32) (i9 : Int32) (i10 : Int32) (f12 : Nat → Int32) : (Int32 × Int32) → Option Value → va_W → Prop := fun z v w => v = some (.int z.1) ∧ w = [(q1, .inr (9, [.int i3, .ref q4, v5, .int i6, .int i7, .int i8, .int i9, .int i10, .int z.2])), (q4, .inl (E.2.1, 81, .inl f12))]
abbrev mX8_isMost : MX := (yX8_isMost, cX8_isMost, 1, (some FieldType.boolean), { frames := 3, cells := 0, slots := 0, locals := 70 })
abbrev zX8_isMost (E : EX) (q1 : Nat) (q3 : Nat) (q4 : Nat) (i2 : Int32) (i5 : Int32) (i6 : Int32) (i7 : Int32) (i8 : Int32) (i9 : Int32) (f11 : Nat → Int32) (f12 : Nat → Int32) : (Int32) → Option Value → va_W → Prop := fun z v w => v = some (.int z) ∧ w = [(q1, .inr (9, [.int i2, .ref q3, .ref q4, .int i5, .int i6, .int i7, .int i8, .int i9, .int (0 : Int32)])), (q3, .inl (E.2.1, 81, .inl f11)), (q4, .inl (E.2.1, 81, .inl f12))]
abbrev mX8_track : MX := (yX8_track, cX8_track, 5, (some (FieldType.object "java/lang/String")), { frames := 15, cells := 157, slots := 18272, locals := 370 })
abbrev zX8_track (E : EX) (q1 : Nat) (q4 : Nat) (q5 : Nat) (i3 : Int32) (i6 : Int32) (i7 : Int32) (i8 : Int32) (i9 : Int32) (i10 : Int32) (f12 : Nat → Int32) (f13 : Nat → Int32) : (Int32) → Option Value → va_W → Prop := fun z v w => ∃ q80 : Nat, v = some (.ref q80) ∧ w = [(q1, .inr (9, [.int i3, .ref q4, .ref q5, .int i6, .int i7, .int i8, .int i9, .int i10, .int z])), (q4, .inl (E.2.1, 81, .inl f12)), (q5, .inl (E.2.1, 81, .inl f13))]
abbrev mX8_layerNow : MX := (yX8_layerNow, cX8_layerNow, 7, (some FieldType.int), { frames := 2, cells := 0, slots := 0, locals := 44 })
abbrev zX8_layerNow (E : EX) (q1 : Nat) (q4 : Nat) (q5 : Nat) (i3 : Int32) (i6 : Int32) (i7 : Int32) (i8 : Int32) (i9 : Int32) (i10 : Int32) (i11 : Int32) (f12 : Nat → Int32) (f13 : Nat → Int32) : (Int32) → Option Value → va_W → Prop := fun z v w => v = some (.int z) ∧ w = [(q1, .inr (9, [.int i3, .ref q4, .ref q5, .int i6, .int i7, .int i8, .int i9, .int i10, .int i11])), (q4, .inl (E.2.1, 81, .inl f12)), (q5, .inl (E.2.1, 81, .inl f13))]
abbrev mX8_layer : MX := (yX8_layer, cX8_layer, 2, (some FieldType.int), { frames := 3, cells := 0, slots := 0, locals := 70 })
abbrev zX8_layer (E : EX) (q1 : Nat) (q4 : Nat) (q5 : Nat) (i3 : Int32) (i6 : Int32) (i7 : Int32) (i8 : Int32) (i9 : Int32) (i10 : Int32) (f12 : Nat → Int32) (f13 : Nat → Int32) : (Int32 × Int32) → Option Value → va_W → Prop := fun z v w => v = some (.int z.1) ∧ w = [(q1, .inr (9, [.int i3, .ref q4, .ref q5, .int i6, .int i7, .int i8, .int i9, .int i10, .int z.2])), (q4, .inl (E.2.1, 81, .inl f12)), (q5, .inl (E.2.1, 81, .inl f13))]
abbrev mX8_through_ : MX := (yX8_through_, cX8_through_, 2, (some FieldType.int), { frames := 2, cells := 0, slots := 0, locals := 43 })
abbrev zX8_through_ (E : EX) (q1 : Nat) (q5 : Nat) (i3 : Int32) (v4 : Value) (i6 : Int32) (i7 : Int32) (i8 : Int32) (i9 : Int32) (i10 : Int32) (f12 : Nat → Int32) : (Int32 × Int32) → Option Value → va_W → Prop := fun z v w => v = some (.int z.1) ∧ w = [(q1, .inr (9, [.int i3, v4, .ref q5, .int i6, .int i7, .int i8, .int i9, .int i10, .int z.2])), (q5, .inl (E.2.1, 81, .inl f12))]
abbrev mX8_parts : MX := (yX8_parts, cX8_parts, 2, (some FieldType.int), { frames := 3, cells := 131, slots := 2161, locals := 78 })
abbrev zX8_parts (E : EX) (q1 : Nat) (q5 : Nat) (i3 : Int32) (v4 : Value) (i6 : Int32) (i7 : Int32) (i8 : Int32) (i9 : Int32) (i10 : Int32) (f12 : Nat → Int32) : (Int32) → Option Value → va_W → Prop := fun z v w => v = some (.int z) ∧ w = [(q1, .inr (9, [.int i3, v4, .ref q5, .int i6, .int i7, .int i8, .int i9, .int i10, .int (0 : Int32)])), (q5, .inl (E.2.1, 81, .inl f12))]
abbrev mX8_partsText : MX := (yX8_partsText, cX8_partsText, 1, (some (FieldType.object "java/lang/String")), { frames := 7, cells := 285, slots := 20385, locals := 195 })
abbrev zX8_partsText (E : EX) (q1 : Nat) (q4 : Nat) (i2 : Int32) (v3 : Value) (i5 : Int32) (i6 : Int32) (i7 : Int32) (i8 : Int32) (i9 : Int32) (f11 : Nat → Int32) : (Unit) → Option Value → va_W → Prop := fun z v w => ∃ q15 : Nat, v = some (.ref q15) ∧ w = [(q1, .inr (9, [.int i2, v3, .ref q4, .int i5, .int i6, .int i7, .int i8, .int i9, .int (0 : Int32)])), (q4, .inl (E.2.1, 81, .inl f11))]
abbrev mX8_flowText : MX := (yX8_flowText, cX8_flowText, 2, (some (FieldType.object "java/lang/String")), { frames := 7, cells := 154, slots := 18224, locals := 195 })
abbrev zX8_flowText (E : EX) (q1 : Nat) (q5 : Nat) (i3 : Int32) (v4 : Value) (i6 : Int32) (i7 : Int32) (i8 : Int32) (i9 : Int32) (i10 : Int32) (f12 : Nat → Int32) : (Int32) → Option Value → va_W → Prop := fun z v w => ∃ q22 : Nat, v = some (.ref q22) ∧ w = [(q1, .inr (9, [.int i3, v4, .ref q5, .int i6, .int i7, .int i8, .int i9, .int i10, .int z])), (q5, .inl (E.2.1, 81, .inl f12))]
abbrev mX8_would : MX := (yX8_would, cX8_would, 5, (some FieldType.int), { frames := 3, cells := 0, slots := 0, locals := 70 })
abbrev zX8_would (E : EX) (q1 : Nat) (q6 : Nat) (i5 : Int32) (v7 : Value) (i8 : Int32) (i9 : Int32) (i10 : Int32) (i11 : Int32) (i12 : Int32) : (Int32 × Int32 × (Nat → Int32)) → Option Value → va_W → Prop := fun z v w => v = some (.int z.1) ∧ w = [(q1, .inr (9, [.int i5, .ref q6, v7, .int i8, .int i9, .int i10, .int i11, .int i12, .int z.2.1])), (q6, .inl (E.2.1, 81, .inl z.2.2))]
abbrev mX8_between : MX := (yX8_between, cX8_between, 3, (some FieldType.int), { frames := 2, cells := 0, slots := 0, locals := 50 })
abbrev zX8_between (E : EX) (q1 : Nat) (q5 : Nat) (i4 : Int32) (v6 : Value) (i7 : Int32) (i8 : Int32) (i9 : Int32) (i10 : Int32) (i11 : Int32) (f13 : Nat → Int32) : (Int32 × Int32) → Option Value → va_W → Prop := fun z v w => v = some (.int z.1) ∧ w = [(q1, .inr (9, [.int i4, .ref q5, v6, .int i7, .int i8, .int i9, .int i10, .int i11, .int z.2])), (q5, .inl (E.2.1, 81, .inl f13))]
abbrev mX8_about : MX := (yX8_about, cX8_about, 1, (some FieldType.int), { frames := 3, cells := 0, slots := 0, locals := 70 })
abbrev zX8_about (E : EX) (q1 : Nat) (q3 : Nat) (i2 : Int32) (v4 : Value) (i5 : Int32) (i6 : Int32) (i7 : Int32) (i8 : Int32) (i9 : Int32) (f11 : Nat → Int32) : (Int32) → Option Value → va_W → Prop := fun z v w => v = some (.int z) ∧ w = [(q1, .inr (9, [.int i2, .ref q3, v4, .int i5, .int i6, .int i7, .int i8, .int i9, .int (0 : Int32)])), (q3, .inl (E.2.1, 81, .inl f11))]
abbrev mX8_apartNow : MX := (yX8_apartNow, cX8_apartNow, 3, (some FieldType.int), { frames := 2, cells := 1, slots := 81, locals := 50 })
abbrev zX8_apartNow (E : EX) (q1 : Nat) (q3 : Nat) (i2 : Int32) (v4 : Value) (i5 : Int32) (i6 : Int32) (i7 : Int32) (i8 : Int32) (i9 : Int32) (i10 : Int32) (f11 : Nat → Int32) : (Int32) → Option Value → va_W → Prop := fun z v w => v = some (.int z) ∧ w = [(q1, .inr (9, [.int i2, .ref q3, v4, .int i5, .int i6, .int i7, .int i8, .int i9, .int i10])), (q3, .inl (E.2.1, 81, .inl f11))]
abbrev mX8_apart : MX := (yX8_apart, cX8_apart, 2, (some FieldType.int), { frames := 3, cells := 1, slots := 81, locals := 72 })
abbrev zX8_apart (E : EX) (q1 : Nat) (q4 : Nat) (i3 : Int32) (v5 : Value) (i6 : Int32) (i7 : Int32) (i8 : Int32) (i9 : Int32) (i10 : Int32) (f12 : Nat → Int32) : (Int32 × Int32) → Option Value → va_W → Prop := fun z v w => v = some (.int z.1) ∧ w = [(q1, .inr (9, [.int i3, .ref q4, v5, .int i6, .int i7, .int i8, .int i9, .int i10, .int z.2])), (q4, .inl (E.2.1, 81, .inl f12))]
abbrev mX8_houseNow : MX := (yX8_houseNow, cX8_houseNow, 2, (some FieldType.int), { frames := 0, cells := 0, slots := 0, locals := 0 })
abbrev zX8_houseNow (E : EX) (q1 : Nat) (i3 : Int32) (v4 : Value) (v5 : Value) (i6 : Int32) (i7 : Int32) (i8 : Int32) (i9 : Int32) (i10 : Int32) (i11 : Int32) : (Int32) → Option Value → va_W → Prop := fun z v w => v = some (.int z) ∧ w = [(q1, .inr (9, [.int i3, v4, v5, .int i6, .int i7, .int i8, .int i9, .int i10, .int i11]))]
abbrev mX8_house : MX := (yX8_house, cX8_house, 2, (some FieldType.int), { frames := 2, cells := 0, slots := 0, locals := 43 })
abbrev zX8_house (E : EX) (q1 : Nat) (i3 : Int32) (v4 : Value) (v5 : Value) (i6 : Int32) (i7 : Int32) (i8 : Int32) (i9 : Int32) (i10 : Int32) : (Int32 × Int32) → Option Value → va_W → Prop := fun z v w => v = some (.int z.1) ∧ w = [(q1, .inr (9, [.int i3, v4, v5, .int i6, .int i7, .int i8, .int i9, .int i10, .int z.2]))]
abbrev mX8_knock : MX := (yX8_knock, cX8_knock, 1, (some FieldType.int), { frames := 0, cells := 0, slots := 0, locals := 0 })
abbrev zX8_knock (E : EX) (q1 : Nat) (i2 : Int32) (v3 : Value) (v4 : Value) (i5 : Int32) (i6 : Int32) (i7 : Int32) (i8 : Int32) : (Int32 × Int32) → Option Value → va_W → Prop := fun z v w => v = some (.int z.1) ∧ w = [(q1, .inr (9, [.int i2, v3, v4, .int i5, .int i6, .int i7, .int i8, .int z.2, .int (0 : Int32)]))]
abbrev mX8_isSoundNow : MX := (yX8_isSoundNow, cX8_isSoundNow, 4, (some FieldType.boolean), { frames := 4, cells := 131, slots := 2161, locals := 94 })
abbrev zX8_isSoundNow (E : EX) (q1 : Nat) (q3 : Nat) (q4 : Nat) (i2 : Int32) (i5 : Int32) (i6 : Int32) (i7 : Int32) (i8 : Int32) (i9 : Int32) (i10 : Int32) (f11 : Nat → Int32) (f12 : Nat → Int32) : (Int32) → Option Value → va_W → Prop := fun z v w => v = some (.int z) ∧ w = [(q1, .inr (9, [.int i2, .ref q3, .ref q4, .int i5, .int i6, .int i7, .int i8, .int i9, .int i10])), (q3, .inl (E.2.1, 81, .inl f11)), (q4, .inl (E.2.1, 81, .inl f12))]
abbrev mX8_isSound : MX := (yX8_isSound, cX8_isSound, 1, (some FieldType.boolean), { frames := 5, cells := 131, slots := 2161, locals := 117 })
abbrev zX8_isSound (E : EX) (q1 : Nat) (q3 : Nat) (q4 : Nat) (i2 : Int32) (i5 : Int32) (i6 : Int32) (i7 : Int32) (i8 : Int32) (i9 : Int32) (f11 : Nat → Int32) (f12 : Nat → Int32) : (Int32) → Option Value → va_W → Prop := fun z v w => v = some (.int z) ∧ w = [(q1, .inr (9, [.int i2, .ref q3, .ref q4, .int i5, .int i6, .int i7, .int i8, .int i9, .int (0 : Int32)])), (q3, .inl (E.2.1, 81, .inl f11)), (q4, .inl (E.2.1, 81, .inl f12))]
abbrev mX8_digest : MX := (yX8_digest, cX8_digest, 5, (some FieldType.long), { frames := 7, cells := 679, slots := 26949, locals := 195 })
abbrev zX8_digest (E : EX) (q1 : Nat) (q3 : Nat) (q4 : Nat) (i2 : Int32) (i5 : Int32) (i6 : Int32) (i7 : Int32) (i8 : Int32) (i9 : Int32) (f11 : Nat → Int32) (f12 : Nat → Int32) : (Int64) → Option Value → va_W → Prop := fun z v w => v = some (.long z) ∧ w = [(q1, .inr (9, [.int i2, .ref q3, .ref q4, .int i5, .int i6, .int i7, .int i8, .int i9, .int (0 : Int32)])), (q3, .inl (E.2.1, 81, .inl f11)), (q4, .inl (E.2.1, 81, .inl f12))]
noncomputable def fX8_places  (i3 : Int32) (i6 : Int32) (i7 : Int32) (i8 : Int32) (f12 : Nat → Int32) (f13 : Nat → Int32) (i2 : Int32) : Option (Int32 × Int32 × Int32 × Int32 × Int32 × Int32 × (Nat → Int32) × (Nat → Int32)) :=
  jn (fun (i18 : Int32) => (fX8_isThrown_ i18).bind (fun z19 => if z19.1 = (0 : Int32) then ((fX8_begin i2).bind (fun z20 => (fX8_did i8 i3).bind (fun z23 => some (z23.1, i2, (0 : Int32), z20, z23.2, z19.2, (fun _ => 0), (fun _ => 0))))) else (some ((0 : Int32), i3, i6, i7, i8, z19.2, f12, f13)))) (fun (k14 : Int32 → Option (Int32 × Int32 × Int32 × Int32 × Int32 × Int32 × (Nat → Int32) × (Nat → Int32))) => jn (fun (_ : Unit) => k14 (1 : Int32)) (fun (k16 : Unit → Option (Int32 × Int32 × Int32 × Int32 × Int32 × Int32 × (Nat → Int32) × (Nat → Int32))) => if i2 < (2 : Int32) then (k16 ()) else (if i2 ≤ (9 : Int32) then (k14 (0 : Int32)) else (k16 ()))))
noncomputable def fX8_ends  (i4 : Int32) (i7 : Int32) (i8 : Int32) (i9 : Int32) (f13 : Nat → Int32) (i2 : Int32) (i3 : Int32) : Option (Int32 × Int32 × Int32 × Int32 × Int32 × (Nat → Int32)) :=
  (fX8_isPlace i4 i2).bind (fun z14 => jn (fun (i20 : Int32) => jn (fun (i23 : Int32) => (fX8_isThrown i20 i23).bind (fun z24 => if z24.1 = (0 : Int32) then ((fX8_valueNow i4 i7 f13).bind (fun z25 => (fX8_still f13).bind (fun z26 => (fX8_did i9 z25).bind (fun z27 => some (z27.1, i2, i3, z27.2, z24.2, z26))))) else (some ((0 : Int32), i7, i8, i9, z24.2, f13)))) (fun (k21 : Int32 → Option (Int32 × Int32 × Int32 × Int32 × Int32 × (Nat → Int32))) => if i2 = i3 then (k21 (1 : Int32)) else (k21 (0 : Int32)))) (fun (k15 : Int32 → Option (Int32 × Int32 × Int32 × Int32 × Int32 × (Nat → Int32))) => jn (fun (_ : Unit) => k15 (1 : Int32)) (fun (k17 : Unit → Option (Int32 × Int32 × Int32 × Int32 × Int32 × (Nat → Int32))) => if z14 = (0 : Int32) then (k17 ()) else ((fX8_isPlace i4 i3).bind (fun z19 => if z19 = (0 : Int32) then (k17 ()) else (k15 (0 : Int32)))))))
noncomputable def fX8_room_  (i5 : Int32) (i10 : Int32) (i11 : Int32) (f14 : Nat → Int32) (f15 : Nat → Int32) (i2 : Int32) (i3 : Int32) (i4 : Int32) : Option (Int32 × Int32 × Int32 × Int32 × (Nat → Int32)) :=
  (fX8_isPlace i5 i2).bind (fun z16 => jn (fun (i22 : Int32) => jn (fun (i28 : Int32) => (fX8_isThrown i22 i28).bind (fun z29 => if z29.1 = (0 : Int32) then ((fX8_flow f15 i2 i3).bind (fun z30 => if z30 ≤ i4 then ((fX8_room f14 i2 i3).bind (fun z31 => inB ((i2 * (9 : Int32)) + i3) 81 ((fX8_did i10 z31).bind (fun z32 => some (z32.1, z32.2, i11, z29.2, upd f14 ((i2 * (9 : Int32)) + i3).toNatClampNeg i4))))) else ((fX8_no i11).bind (fun z33 => some ((-9 : Int32), i10, z33, z29.2, f14))))) else (some ((0 : Int32), i10, i11, z29.2, f14)))) (fun (k23 : Int32 → Option (Int32 × Int32 × Int32 × Int32 × (Nat → Int32))) => jn (fun (_ : Unit) => k23 (1 : Int32)) (fun (k25 : Unit → Option (Int32 × Int32 × Int32 × Int32 × (Nat → Int32))) => if i2 = i3 then (k25 ()) else ((fX8_isRoom i4).bind (fun z27 => if z27 = (0 : Int32) then (k25 ()) else (k23 (0 : Int32))))))) (fun (k17 : Int32 → Option (Int32 × Int32 × Int32 × Int32 × (Nat → Int32))) => jn (fun (_ : Unit) => k17 (1 : Int32)) (fun (k19 : Unit → Option (Int32 × Int32 × Int32 × Int32 × (Nat → Int32))) => if z16 = (0 : Int32) then (k19 ()) else ((fX8_isPlace i5 i3).bind (fun z21 => if z21 = (0 : Int32) then (k19 ()) else (k17 (0 : Int32)))))))
noncomputable def fX8_widen  (i5 : Int32) (i10 : Int32) (i11 : Int32) (f14 : Nat → Int32) (f15 : Nat → Int32) (i2 : Int32) (i3 : Int32) (i4 : Int32) : Option (Int32 × Int32 × Int32 × Int32 × (Nat → Int32)) :=
  (fX8_isPlace i5 i2).bind (fun z16 => jn (fun (i22 : Int32) => jn (fun (i27 : Int32) => (fX8_isThrown i22 i27).bind (fun z28 => if z28.1 = (0 : Int32) then ((fX8_room f14 i2 i3).bind (fun z29 => nm (z29 + i4) (fun (i30 : Int32) => (fX8_isRoom i30).bind (fun z31 => jn (fun (_ : Unit) => (fX8_no i11).bind (fun z36 => some ((-9 : Int32), i10, z36, z28.2, f14))) (fun (k32 : Unit → Option (Int32 × Int32 × Int32 × Int32 × (Nat → Int32))) => if z31 = (0 : Int32) then (k32 ()) else ((fX8_flow f15 i2 i3).bind (fun z34 => if z34 ≤ i30 then (inB ((i2 * (9 : Int32)) + i3) 81 ((fX8_did i10 i30).bind (fun z35 => some (z35.1, z35.2, i11, z28.2, upd f14 ((i2 * (9 : Int32)) + i3).toNatClampNeg i30)))) else (k32 ())))))))) else (some ((0 : Int32), i10, i11, z28.2, f14)))) (fun (k23 : Int32 → Option (Int32 × Int32 × Int32 × Int32 × (Nat → Int32))) => jn (fun (_ : Unit) => k23 (1 : Int32)) (fun (k25 : Unit → Option (Int32 × Int32 × Int32 × Int32 × (Nat → Int32))) => if i2 = i3 then (k25 ()) else (if i4 < (-50 : Int32) then (k25 ()) else (if i4 ≤ (50 : Int32) then (k23 (0 : Int32)) else (k25 ())))))) (fun (k17 : Int32 → Option (Int32 × Int32 × Int32 × Int32 × (Nat → Int32))) => jn (fun (_ : Unit) => k17 (1 : Int32)) (fun (k19 : Unit → Option (Int32 × Int32 × Int32 × Int32 × (Nat → Int32))) => if z16 = (0 : Int32) then (k19 ()) else ((fX8_isPlace i5 i3).bind (fun z21 => if z21 = (0 : Int32) then (k19 ()) else (k17 (0 : Int32)))))))
noncomputable def BX8_circle_L25  (i3 : Int32) (f13 : Nat → Int32) (i2 : Int32) (f12 : Nat → Int32) (i40 : Int32) (i41 : Int32) (rec : Int32 → Int32 → Option (Int32 × Int32 × Int32 × Int32 × (Nat → Int32))) (k1 : Unit → Option (Int32 × Int32 × Int32 × Int32 × (Nat → Int32))) (k2 : Int32 → Option (Int32 × Int32 × Int32 × Int32 × (Nat → Int32))) : Option (Int32 × Int32 × Int32 × Int32 × (Nat → Int32)) :=
  if i3 ≤ i41 then (k2 i40) else (nz i3 (nm ((i41 + (1 : Int32)) - (i41 + (1 : Int32)) / i3 * i3) (fun (i43 : Int32) => (fX8_flow f13 i41 i43).bind (fun z44 => if z44 ≤ i2 then ((fX8_room f12 i41 i43).bind (fun z45 => jn (fun (i48 : Int32) => nm (i40 + i48) (fun (i49 : Int32) => rec i49 (i41 + (1 : Int32)))) (fun (k46 : Int32 → Option (Int32 × Int32 × Int32 × Int32 × (Nat → Int32))) => if z45 = i2 then (k46 (0 : Int32)) else (k46 (1 : Int32))))) else (k1 ())))))
noncomputable def LX8_circle_L25  (i3 : Int32) (f13 : Nat → Int32) (i2 : Int32) (f12 : Nat → Int32) : Nat → Int32 → Int32 → (Unit → Option (Int32 × Int32 × Int32 × Int32 × (Nat → Int32))) → (Int32 → Option (Int32 × Int32 × Int32 × Int32 × (Nat → Int32))) → Option (Int32 × Int32 × Int32 × Int32 × (Nat → Int32))
  | 0, _, _, _, _ => none
  | n + 1, i40, i41, k1, k2 => BX8_circle_L25  i3 f13 i2 f12 i40 i41 (fun i40 i41 => LX8_circle_L25  i3 f13 i2 f12 n i40 i41 k1 k2) k1 k2
noncomputable def BX8_circle_L86  (i3 : Int32) (i2 : Int32) (i66 : Int32) (f68 : Nat → Int32) (rec : Int32 → (Nat → Int32) → Option (Int32 × Int32 × Int32 × Int32 × (Nat → Int32))) (k1 : (Nat → Int32) → Option (Int32 × Int32 × Int32 × Int32 × (Nat → Int32))) : Option (Int32 × Int32 × Int32 × Int32 × (Nat → Int32)) :=
  if i3 ≤ i66 then (k1 f68) else (nz i3 (inB ((i66 * (9 : Int32)) + ((i66 + (1 : Int32)) - (i66 + (1 : Int32)) / i3 * i3)) 81 (rec (i66 + (1 : Int32)) (upd f68 ((i66 * (9 : Int32)) + ((i66 + (1 : Int32)) - (i66 + (1 : Int32)) / i3 * i3)).toNatClampNeg i2))))
noncomputable def LX8_circle_L86  (i3 : Int32) (i2 : Int32) : Nat → Int32 → (Nat → Int32) → ((Nat → Int32) → Option (Int32 × Int32 × Int32 × Int32 × (Nat → Int32))) → Option (Int32 × Int32 × Int32 × Int32 × (Nat → Int32))
  | 0, _, _, _ => none
  | n + 1, i66, f68, k1 => BX8_circle_L86  i3 i2 i66 f68 (fun i66 f68 => LX8_circle_L86  i3 i2 n i66 f68 k1) k1
noncomputable def fX8_circle  (i3 : Int32) (i8 : Int32) (i9 : Int32) (f12 : Nat → Int32) (f13 : Nat → Int32) (i2 : Int32) : Option (Int32 × Int32 × Int32 × Int32 × (Nat → Int32)) :=
  (fX8_isRoom i2).bind (fun z14 => jn (fun (i17 : Int32) => (fX8_isThrown_ i17).bind (fun z18 => if z18.1 = (0 : Int32) then (LX8_circle_L25  i3 f13 i2 f12 600 (0 : Int32) (0 : Int32) (fun (_ : Unit) => (fX8_no i9).bind (fun z51 => some ((-9 : Int32), i8, z51, z18.2, f12))) (fun (i50 : Int32) => LX8_circle_L86  i3 i2 600 (0 : Int32) f12 (fun (f69 : Nat → Int32) => (fX8_did i8 i50).bind (fun z70 => some (z70.1, z70.2, i9, z18.2, f69))))) else (some ((0 : Int32), i8, i9, z18.2, f12)))) (fun (k15 : Int32 → Option (Int32 × Int32 × Int32 × Int32 × (Nat → Int32))) => if z14 = (0 : Int32) then (k15 (1 : Int32)) else (k15 (0 : Int32))))
noncomputable def BX8_sumOfRooms_L4  (i2 : Int32) (f11 : Nat → Int32) (i26 : Int32) (i27 : Int32) (rec : Int32 → Int32 → Option (Int32))  : Option (Int32) :=
  if i2 ≤ i27 then (some i26) else ((fX8_fromPlace i2 f11 i27).bind (fun z28 => nm (i26 + z28) (fun (i29 : Int32) => rec i29 (i27 + (1 : Int32)))))
noncomputable def LX8_sumOfRooms_L4  (i2 : Int32) (f11 : Nat → Int32) : Nat → Int32 → Int32 → Option (Int32)
  | 0, _, _ => none
  | n + 1, i26, i27 => BX8_sumOfRooms_L4  i2 f11 i26 i27 (fun i26 i27 => LX8_sumOfRooms_L4  i2 f11 n i26 i27 ) 
noncomputable def fX8_sumOfRooms  (i2 : Int32) (f11 : Nat → Int32) : Option (Int32) :=
  LX8_sumOfRooms_L4  i2 f11 600 (0 : Int32) (0 : Int32) 
noncomputable def BX8_strew_L37  (i3 : Int32) (i2 : Int32) (i56 : Int32) (i76 : Int32) (f77 : Nat → Int32) (rec : Int32 → (Nat → Int32) → Option (Int32 × Int32 × Int32 × (Nat → Int32) × (Nat → Int32))) (k1 : (Nat → Int32) → Option (Int32 × Int32 × Int32 × (Nat → Int32) × (Nat → Int32))) : Option (Int32 × Int32 × Int32 × (Nat → Int32) × (Nat → Int32)) :=
  if i3 ≤ i76 then (k1 f77) else (jn (fun (i80 : Int32) => inB ((i56 * (9 : Int32)) + i76) 81 (rec (i76 + (1 : Int32)) (upd f77 ((i56 * (9 : Int32)) + i76).toNatClampNeg i80))) (fun (k78 : Int32 → Option (Int32 × Int32 × Int32 × (Nat → Int32) × (Nat → Int32))) => if i56 = i76 then (k78 (0 : Int32)) else (k78 (if (0 : Int32) < (((((i2 + ((7 : Int32) * i56)) + ((3 : Int32) * i76)) + (i56 * i76)) - (((i2 + ((7 : Int32) * i56)) + ((3 : Int32) * i76)) + (i56 * i76)) / (11 : Int32) * (11 : Int32)) - (4 : Int32)) then (((((i2 + ((7 : Int32) * i56)) + ((3 : Int32) * i76)) + (i56 * i76)) - (((i2 + ((7 : Int32) * i56)) + ((3 : Int32) * i76)) + (i56 * i76)) / (11 : Int32) * (11 : Int32)) - (4 : Int32)) else (0 : Int32)))))
noncomputable def LX8_strew_L37  (i3 : Int32) (i2 : Int32) (i56 : Int32) : Nat → Int32 → (Nat → Int32) → ((Nat → Int32) → Option (Int32 × Int32 × Int32 × (Nat → Int32) × (Nat → Int32))) → Option (Int32 × Int32 × Int32 × (Nat → Int32) × (Nat → Int32))
  | 0, _, _, _ => none
  | n + 1, i76, f77, k1 => BX8_strew_L37  i3 i2 i56 i76 f77 (fun i76 f77 => LX8_strew_L37  i3 i2 i56 n i76 f77 k1) k1
noncomputable def BX8_strew_L27  (i3 : Int32) (i2 : Int32) (i56 : Int32) (f58 : Nat → Int32) (rec : Int32 → (Nat → Int32) → Option (Int32 × Int32 × Int32 × (Nat → Int32) × (Nat → Int32))) (k1 : (Nat → Int32) → Option (Int32 × Int32 × Int32 × (Nat → Int32) × (Nat → Int32))) : Option (Int32 × Int32 × Int32 × (Nat → Int32) × (Nat → Int32)) :=
  if i3 ≤ i56 then (k1 f58) else (LX8_strew_L37  i3 i2 i56 600 (0 : Int32) f58 (fun (f81 : Nat → Int32) => rec (i56 + (1 : Int32)) f81))
noncomputable def LX8_strew_L27  (i3 : Int32) (i2 : Int32) : Nat → Int32 → (Nat → Int32) → ((Nat → Int32) → Option (Int32 × Int32 × Int32 × (Nat → Int32) × (Nat → Int32))) → Option (Int32 × Int32 × Int32 × (Nat → Int32) × (Nat → Int32))
  | 0, _, _, _ => none
  | n + 1, i56, f58, k1 => BX8_strew_L27  i3 i2 i56 f58 (fun i56 f58 => LX8_strew_L27  i3 i2 n i56 f58 k1) k1
noncomputable def fX8_strew  (i3 : Int32) (i8 : Int32) (f12 : Nat → Int32) (f13 : Nat → Int32) (i2 : Int32) : Option (Int32 × Int32 × Int32 × (Nat → Int32) × (Nat → Int32)) :=
  jn (fun (i18 : Int32) => (fX8_isThrown_ i18).bind (fun z19 => if z19.1 = (0 : Int32) then (LX8_strew_L27  i3 i2 600 (0 : Int32) f12 (fun (f82 : Nat → Int32) => (fX8_still f13).bind (fun z83 => (fX8_sumOfRooms i3 f82).bind (fun z84 => (fX8_did i8 z84).bind (fun z85 => some (z85.1, z85.2, z19.2, f82, z83)))))) else (some ((0 : Int32), i8, z19.2, f12, f13)))) (fun (k14 : Int32 → Option (Int32 × Int32 × Int32 × (Nat → Int32) × (Nat → Int32))) => jn (fun (_ : Unit) => k14 (1 : Int32)) (fun (k16 : Unit → Option (Int32 × Int32 × Int32 × (Nat → Int32) × (Nat → Int32))) => if i2 < (0 : Int32) then (k16 ()) else (if i2 ≤ (9999 : Int32) then (k14 (0 : Int32)) else (k16 ()))))
noncomputable def fX8_exchange  (f4 : Nat → Int32) (i2 : Int32) (i3 : Int32) : Option ((Nat → Int32)) :=
  inB i2 81 (nm (f4 i2.toNatClampNeg) (fun (i5 : Int32) => inB i3 81 (inB i2 81 (inB i3 81 (some (upd (upd f4 i2.toNatClampNeg (f4 i3.toNatClampNeg)) i3.toNatClampNeg i5))))))
noncomputable def BX8_turnRound_L17  (i47 : Int32) (i65 : Int32) (f66 : Nat → Int32) (f67 : Nat → Int32) (rec : Int32 → (Nat → Int32) → (Nat → Int32) → Option (Int32 × Int32 × (Nat → Int32) × (Nat → Int32))) (k1 : (Nat → Int32) → (Nat → Int32) → Option (Int32 × Int32 × (Nat → Int32) × (Nat → Int32))) : Option (Int32 × Int32 × (Nat → Int32) × (Nat → Int32)) :=
  if i47 ≤ i65 then (k1 f66 f67) else ((fX8_exchange f66 ((i47 * (9 : Int32)) + i65) ((i65 * (9 : Int32)) + i47)).bind (fun z68 => (fX8_exchange f67 ((i47 * (9 : Int32)) + i65) ((i65 * (9 : Int32)) + i47)).bind (fun z69 => rec (i65 + (1 : Int32)) z68 z69)))
noncomputable def LX8_turnRound_L17  (i47 : Int32) : Nat → Int32 → (Nat → Int32) → (Nat → Int32) → ((Nat → Int32) → (Nat → Int32) → Option (Int32 × Int32 × (Nat → Int32) × (Nat → Int32))) → Option (Int32 × Int32 × (Nat → Int32) × (Nat → Int32))
  | 0, _, _, _, _ => none
  | n + 1, i65, f66, f67, k1 => BX8_turnRound_L17  i47 i65 f66 f67 (fun i65 f66 f67 => LX8_turnRound_L17  i47 n i65 f66 f67 k1) k1
noncomputable def BX8_turnRound_L7  (i2 : Int32) (i47 : Int32) (f48 : Nat → Int32) (f49 : Nat → Int32) (rec : Int32 → (Nat → Int32) → (Nat → Int32) → Option (Int32 × Int32 × (Nat → Int32) × (Nat → Int32))) (k1 : (Nat → Int32) → (Nat → Int32) → Option (Int32 × Int32 × (Nat → Int32) × (Nat → Int32))) : Option (Int32 × Int32 × (Nat → Int32) × (Nat → Int32)) :=
  if i2 ≤ i47 then (k1 f48 f49) else (LX8_turnRound_L17  i47 600 (0 : Int32) f48 f49 (fun (f70 : Nat → Int32) (f71 : Nat → Int32) => rec (i47 + (1 : Int32)) f70 f71))
noncomputable def LX8_turnRound_L7  (i2 : Int32) : Nat → Int32 → (Nat → Int32) → (Nat → Int32) → ((Nat → Int32) → (Nat → Int32) → Option (Int32 × Int32 × (Nat → Int32) × (Nat → Int32))) → Option (Int32 × Int32 × (Nat → Int32) × (Nat → Int32))
  | 0, _, _, _, _ => none
  | n + 1, i47, f48, f49, k1 => BX8_turnRound_L7  i2 i47 f48 f49 (fun i47 f48 f49 => LX8_turnRound_L7  i2 n i47 f48 f49 k1) k1
noncomputable def fX8_turnRound  (i2 : Int32) (i6 : Int32) (i7 : Int32) (f11 : Nat → Int32) (f12 : Nat → Int32) : Option (Int32 × Int32 × (Nat → Int32) × (Nat → Int32)) :=
  LX8_turnRound_L7  i2 600 (0 : Int32) f11 f12 (fun (f72 : Nat → Int32) (f73 : Nat → Int32) => (fX8_valueNow i2 i6 f73).bind (fun z74 => (fX8_did i7 z74).bind (fun z75 => some (z75.1, z75.2, f72, f73))))
noncomputable def fX8_swapped  (i1 : Int32) (i2 : Int32) (i3 : Int32) : Option (Int32) :=
  if i1 = i2 then (some i3) else (if i1 = i3 then (some i2) else (some i1))
noncomputable def BX8_swappedRow_L21  (i5 : Int32) (f14 : Nat → Int32) (i3 : Int32) (i4 : Int32) (i54 : Int32) (i74 : Int32) (f75 : Nat → Int32) (rec : Int32 → (Nat → Int32) → Option ((Nat → Int32))) (k1 : (Nat → Int32) → Option ((Nat → Int32))) : Option ((Nat → Int32)) :=
  if i5 ≤ i74 then (k1 f75) else ((fX8_swapped i54 i3 i4).bind (fun z76 => (fX8_swapped i74 i3 i4).bind (fun z77 => inB ((i54 * (9 : Int32)) + i74) 81 (inB ((z76 * (9 : Int32)) + z77) 81 (rec (i74 + (1 : Int32)) (upd f75 ((z76 * (9 : Int32)) + z77).toNatClampNeg (f14 ((i54 * (9 : Int32)) + i74).toNatClampNeg)))))))
noncomputable def LX8_swappedRow_L21  (i5 : Int32) (f14 : Nat → Int32) (i3 : Int32) (i4 : Int32) (i54 : Int32) : Nat → Int32 → (Nat → Int32) → ((Nat → Int32) → Option ((Nat → Int32))) → Option ((Nat → Int32))
  | 0, _, _, _ => none
  | n + 1, i74, f75, k1 => BX8_swappedRow_L21  i5 f14 i3 i4 i54 i74 f75 (fun i74 f75 => LX8_swappedRow_L21  i5 f14 i3 i4 i54 n i74 f75 k1) k1
noncomputable def BX8_swappedRow_L9  (i5 : Int32) (f14 : Nat → Int32) (i3 : Int32) (i4 : Int32) (i54 : Int32) (f55 : Nat → Int32) (rec : Int32 → (Nat → Int32) → Option ((Nat → Int32)))  : Option ((Nat → Int32)) :=
  if i5 ≤ i54 then (some f55) else (LX8_swappedRow_L21  i5 f14 i3 i4 i54 600 (0 : Int32) f55 (fun (f78 : Nat → Int32) => rec (i54 + (1 : Int32)) f78))
noncomputable def LX8_swappedRow_L9  (i5 : Int32) (f14 : Nat → Int32) (i3 : Int32) (i4 : Int32) : Nat → Int32 → (Nat → Int32) → Option ((Nat → Int32))
  | 0, _, _ => none
  | n + 1, i54, f55 => BX8_swappedRow_L9  i5 f14 i3 i4 i54 f55 (fun i54 f55 => LX8_swappedRow_L9  i5 f14 i3 i4 n i54 f55 ) 
noncomputable def fX8_swappedRow  (i5 : Int32) (f14 : Nat → Int32) (i3 : Int32) (i4 : Int32) : Option ((Nat → Int32)) :=
  LX8_swappedRow_L9  i5 f14 i3 i4 600 (0 : Int32) (fun _ => 0) 
noncomputable def fX8_swap  (i4 : Int32) (i7 : Int32) (i8 : Int32) (i9 : Int32) (f13 : Nat → Int32) (f14 : Nat → Int32) (i2 : Int32) (i3 : Int32) : Option (Int32 × Int32 × Int32 × Int32 × Int32 × (Nat → Int32) × (Nat → Int32)) :=
  (fX8_isPlace i4 i2).bind (fun z15 => jn (fun (i21 : Int32) => (fX8_isThrown_ i21).bind (fun z22 => if z22.1 = (0 : Int32) then ((fX8_swappedRow i4 f13 i2 i3).bind (fun z23 => (fX8_swappedRow i4 f14 i2 i3).bind (fun z25 => (fX8_swapped i7 i2 i3).bind (fun z27 => (fX8_swapped i8 i2 i3).bind (fun z28 => (fX8_did i9 z28).bind (fun z29 => some (z29.1, z27, z28, z29.2, z22.2, z23, z25))))))) else (some ((0 : Int32), i7, i8, i9, z22.2, f13, f14)))) (fun (k16 : Int32 → Option (Int32 × Int32 × Int32 × Int32 × Int32 × (Nat → Int32) × (Nat → Int32))) => jn (fun (_ : Unit) => k16 (1 : Int32)) (fun (k18 : Unit → Option (Int32 × Int32 × Int32 × Int32 × Int32 × (Nat → Int32) × (Nat → Int32))) => if z15 = (0 : Int32) then (k18 ()) else ((fX8_isPlace i4 i3).bind (fun z20 => if z20 = (0 : Int32) then (k18 ()) else (k16 (0 : Int32)))))))
noncomputable def fX8_step  (i3 : Int32) (i6 : Int32) (i7 : Int32) (i8 : Int32) (i9 : Int32) (i10 : Int32) (f12 : Nat → Int32) (f13 : Nat → Int32) (i2 : Int32) : Option (Int32 × Int32 × Int32 × (Nat → Int32)) :=
  (fX8_isRule i2).bind (fun z14 => jn (fun (i17 : Int32) => (fX8_isThrown_ i17).bind (fun z18 => if z18.1 = (0 : Int32) then ((fX8_stepNow i3 i6 i7 i8 i9 i10 z18.2 f12 f13 i2).bind (fun z19 => (fX8_did i8 z19.1).bind (fun z20 => some (z20.1, z20.2, z18.2, z19.2)))) else (some ((0 : Int32), i8, z18.2, f13)))) (fun (k15 : Int32 → Option (Int32 × Int32 × Int32 × (Nat → Int32))) => if z14 = (0 : Int32) then (k15 (1 : Int32)) else (k15 (0 : Int32))))
noncomputable def BX8_fill_L23  (i3 : Int32) (i6 : Int32) (i7 : Int32) (i9 : Int32) (i10 : Int32) (f12 : Nat → Int32) (i2 : Int32) (i8 : Int32) (i34 : Int32) (i33 : Int32) (f35 : Nat → Int32) (rec : Int32 → (Nat → Int32) → Option (Int32 × Int32 × Int32 × (Nat → Int32))) (k1 : Int32 → (Nat → Int32) → Option (Int32 × Int32 × Int32 × (Nat → Int32))) : Option (Int32 × Int32 × Int32 × (Nat → Int32)) :=
  (fX8_stepNow i3 i6 i7 i8 i9 i10 i34 f12 f35 i2).bind (fun z36 => if z36.1 ≤ (0 : Int32) then (k1 i33 z36.2) else (rec (i33 + (1 : Int32)) z36.2))
noncomputable def LX8_fill_L23  (i3 : Int32) (i6 : Int32) (i7 : Int32) (i9 : Int32) (i10 : Int32) (f12 : Nat → Int32) (i2 : Int32) (i8 : Int32) (i34 : Int32) : Nat → Int32 → (Nat → Int32) → (Int32 → (Nat → Int32) → Option (Int32 × Int32 × Int32 × (Nat → Int32))) → Option (Int32 × Int32 × Int32 × (Nat → Int32))
  | 0, _, _, _ => none
  | n + 1, i33, f35, k1 => BX8_fill_L23  i3 i6 i7 i9 i10 f12 i2 i8 i34 i33 f35 (fun i33 f35 => LX8_fill_L23  i3 i6 i7 i9 i10 f12 i2 i8 i34 n i33 f35 k1) k1
noncomputable def fX8_fill  (i3 : Int32) (i6 : Int32) (i7 : Int32) (i8 : Int32) (i9 : Int32) (i10 : Int32) (f12 : Nat → Int32) (f13 : Nat → Int32) (i2 : Int32) : Option (Int32 × Int32 × Int32 × (Nat → Int32)) :=
  (fX8_isRule i2).bind (fun z14 => jn (fun (i17 : Int32) => (fX8_isThrown_ i17).bind (fun z18 => if z18.1 = (0 : Int32) then (LX8_fill_L23  i3 i6 i7 i9 i10 f12 i2 i8 z18.2 420 (0 : Int32) f13 (fun (i37 : Int32) (f38 : Nat → Int32) => (fX8_did i8 i37).bind (fun z39 => some (z39.1, z39.2, z18.2, f38)))) else (some ((0 : Int32), i8, z18.2, f13)))) (fun (k15 : Int32 → Option (Int32 × Int32 × Int32 × (Nat → Int32))) => if z14 = (0 : Int32) then (k15 (1 : Int32)) else (k15 (0 : Int32))))
noncomputable def fX8_send  (i4 : Int32) (i7 : Int32) (i8 : Int32) (i9 : Int32) (i10 : Int32) (f13 : Nat → Int32) (f14 : Nat → Int32) (i2 : Int32) (i3 : Int32) : Option (Int32 × Int32 × Int32 × Int32 × (Nat → Int32)) :=
  (fX8_isPlace i4 i2).bind (fun z15 => jn (fun (i18 : Int32) => (fX8_isRoom i3).bind (fun z19 => jn (fun (i22 : Int32) => (fX8_isThrown i18 i22).bind (fun z23 => if z23.1 = (0 : Int32) then (jn (fun (i28 : Int32) => jn (fun (_ : Unit) => (fX8_no i10).bind (fun z44 => some ((-9 : Int32), i9, z44, z23.2, f14))) (fun (k29 : Unit → Option (Int32 × Int32 × Int32 × Int32 × (Nat → Int32))) => jn (fun (_ : Unit) => jn (fun (f41 : Nat → Int32) => (fX8_valueNow i4 i7 f41).bind (fun z42 => (fX8_did i9 z42).bind (fun z43 => some (z43.1, z43.2, i10, z23.2, f41)))) (fun (k36 : (Nat → Int32) → Option (Int32 × Int32 × Int32 × Int32 × (Nat → Int32))) => if i28 = (0 : Int32) then ((fX8_flowOn f14 i7 i2 i3).bind (fun z38 => (fX8_flowOn z38 i2 i8 i3).bind (fun z39 => k36 z39))) else ((fX8_flowOn f14 i7 i8 i3).bind (fun z40 => k36 z40)))) (fun (k31 : Unit → Option (Int32 × Int32 × Int32 × Int32 × (Nat → Int32))) => if i28 = (0 : Int32) then ((fX8_left f13 f14 i7 i2).bind (fun z33 => if z33 < i3 then (k29 ()) else ((fX8_left f13 f14 i2 i8).bind (fun z34 => if i3 ≤ z34 then (k31 ()) else (k29 ()))))) else ((fX8_left f13 f14 i7 i8).bind (fun z35 => if i3 ≤ z35 then (k31 ()) else (k29 ())))))) (fun (k24 : Int32 → Option (Int32 × Int32 × Int32 × Int32 × (Nat → Int32))) => jn (fun (_ : Unit) => k24 (1 : Int32)) (fun (k26 : Unit → Option (Int32 × Int32 × Int32 × Int32 × (Nat → Int32))) => if i2 = i7 then (k26 ()) else (if i2 = i8 then (k26 ()) else (k24 (0 : Int32)))))) else (some ((0 : Int32), i9, i10, z23.2, f14)))) (fun (k20 : Int32 → Option (Int32 × Int32 × Int32 × Int32 × (Nat → Int32))) => if z19 = (0 : Int32) then (k20 (1 : Int32)) else (k20 (0 : Int32))))) (fun (k16 : Int32 → Option (Int32 × Int32 × Int32 × Int32 × (Nat → Int32))) => if z15 = (0 : Int32) then (k16 (1 : Int32)) else (k16 (0 : Int32))))
noncomputable def BX8_flowing_L13  (f11 : Nat → Int32) (i30 : Int32) (i31 : Int32) (rec : Int32 → Int32 → Option (Int32))  : Option (Int32) :=
  if (81 : Int32) ≤ i31 then (some i30) else (inB i31 81 (nm (f11 i31.toNatClampNeg) (fun (i32 : Int32) => jn (fun (i35 : Int32) => nm (i30 + i35) (fun (i36 : Int32) => rec i36 (i31 + (1 : Int32)))) (fun (k33 : Int32 → Option (Int32)) => if i32 ≤ (0 : Int32) then (k33 (0 : Int32)) else (k33 (1 : Int32))))))
noncomputable def LX8_flowing_L13  (f11 : Nat → Int32) : Nat → Int32 → Int32 → Option (Int32)
  | 0, _, _ => none
  | n + 1, i30, i31 => BX8_flowing_L13  f11 i30 i31 (fun i30 i31 => LX8_flowing_L13  f11 n i30 i31 ) 
noncomputable def fX8_flowing  (f11 : Nat → Int32) : Option (Int32) :=
  LX8_flowing_L13  f11 600 (0 : Int32) (0 : Int32) 
noncomputable def fX8_round  (i6 : Int32) (i11 : Int32) (i12 : Int32) (f15 : Nat → Int32) (f16 : Nat → Int32) (i2 : Int32) (i3 : Int32) (i4 : Int32) (i5 : Int32) : Option (Int32 × Int32 × Int32 × Int32 × (Nat → Int32)) :=
  (fX8_isPlace i6 i2).bind (fun z17 => jn (fun (i24 : Int32) => jn (fun (i30 : Int32) => (fX8_isThrown i24 i30).bind (fun z31 => if z31.1 = (0 : Int32) then ((fX8_left f15 f16 i2 i3).bind (fun z32 => jn (fun (_ : Unit) => (fX8_no i12).bind (fun z42 => some ((-9 : Int32), i11, z42, z31.2, f16))) (fun (k33 : Unit → Option (Int32 × Int32 × Int32 × Int32 × (Nat → Int32))) => if z32 < i5 then (k33 ()) else ((fX8_left f15 f16 i3 i4).bind (fun z35 => if z35 < i5 then (k33 ()) else ((fX8_left f15 f16 i4 i2).bind (fun z36 => if i5 ≤ z36 then ((fX8_flowOn f16 i2 i3 i5).bind (fun z37 => (fX8_flowOn z37 i3 i4 i5).bind (fun z38 => (fX8_flowOn z38 i4 i2 i5).bind (fun z39 => (fX8_flowing z39).bind (fun z40 => (fX8_did i11 z40).bind (fun z41 => some (z41.1, z41.2, i12, z31.2, z39))))))) else (k33 ())))))))) else (some ((0 : Int32), i11, i12, z31.2, f16)))) (fun (k25 : Int32 → Option (Int32 × Int32 × Int32 × Int32 × (Nat → Int32))) => jn (fun (_ : Unit) => k25 (1 : Int32)) (fun (k27 : Unit → Option (Int32 × Int32 × Int32 × Int32 × (Nat → Int32))) => if i2 = i3 then (k27 ()) else (if i2 = i4 then (k27 ()) else (if i3 = i4 then (k27 ()) else ((fX8_isRoom i5).bind (fun z29 => if z29 = (0 : Int32) then (k27 ()) else (k25 (0 : Int32))))))))) (fun (k18 : Int32 → Option (Int32 × Int32 × Int32 × Int32 × (Nat → Int32))) => jn (fun (_ : Unit) => k18 (1 : Int32)) (fun (k20 : Unit → Option (Int32 × Int32 × Int32 × Int32 × (Nat → Int32))) => if z17 = (0 : Int32) then (k20 ()) else ((fX8_isPlace i6 i3).bind (fun z22 => if z22 = (0 : Int32) then (k20 ()) else ((fX8_isPlace i6 i4).bind (fun z23 => if z23 = (0 : Int32) then (k20 ()) else (k18 (0 : Int32)))))))))
noncomputable def fX8_peel  (i2 : Int32) (i5 : Int32) (i6 : Int32) (i7 : Int32) (f11 : Nat → Int32) : Option (Int32 × Int32 × (Nat → Int32)) :=
  (fX8_nextPart i2 i5 i6 f11).bind (fun z12 => oc z12.2 ((fX8_did i7 (0 : Int32)).bind (fun z16 => some (z16.1, z16.2, z12.1))) (fun n13 f14 => inB (1 : Int32) n13 ((fX8_did i7 (f14 (1 : Int32).toNatClampNeg)).bind (fun z17 => some (z17.1, z17.2, z12.1)))))
noncomputable def fX8_empty  (i2 : Int32) (i5 : Int32) (i7 : Int32) (f11 : Nat → Int32) : Option (Int32 × Int32 × (Nat → Int32)) :=
  (fX8_valueNow i2 i5 f11).bind (fun z12 => (fX8_still f11).bind (fun z13 => (fX8_did i7 z12).bind (fun z14 => some (z14.1, z14.2, z13))))
noncomputable def BX8_toldNow_L57  (f12 : Nat → Int32) (i31 : Int32) (i32 : Int32) (rec : Int32 → Int32 → Option (Int32))  : Option (Int32) :=
  if (81 : Int32) ≤ i32 then (some i31) else (inB i32 81 (nm (f12 i32.toNatClampNeg) (fun (i33 : Int32) => jn (fun (i36 : Int32) => nm (i31 + i36) (fun (i37 : Int32) => rec i37 (i32 + (1 : Int32)))) (fun (k34 : Int32 → Option (Int32)) => if i33 ≤ (0 : Int32) then (k34 (0 : Int32)) else (k34 (1 : Int32))))))
noncomputable def LX8_toldNow_L57  (f12 : Nat → Int32) : Nat → Int32 → Int32 → Option (Int32)
  | 0, _, _ => none
  | n + 1, i31, i32 => BX8_toldNow_L57  f12 i31 i32 (fun i31 i32 => LX8_toldNow_L57  f12 n i31 i32 ) 
noncomputable def fX8_toldNow  (i3 : Int32) (i6 : Int32) (i7 : Int32) (f12 : Nat → Int32) (i2 : Int32) : Option (Int32) :=
  if (3 : Int32) ≤ i2 then (if i2 = (4 : Int32) then ((fX8_sumOfRooms i3 f12).bind (fun z38 => some z38)) else (LX8_toldNow_L57  f12 600 (0 : Int32) (0 : Int32) )) else (if i2 = (0 : Int32) then (some i3) else (if i2 = (1 : Int32) then (some i6) else (some i7)))
noncomputable def fX8_told  (i3 : Int32) (i6 : Int32) (i7 : Int32) (f12 : Nat → Int32) (i2 : Int32) : Option (Int32 × Int32) :=
  jn (fun (i17 : Int32) => (fX8_isThrown_ i17).bind (fun z18 => if z18.1 = (0 : Int32) then ((fX8_toldNow i3 i6 i7 f12 i2).bind (fun z19 => some (z19, z18.2))) else (some ((0 : Int32), z18.2)))) (fun (k13 : Int32 → Option (Int32 × Int32)) => jn (fun (_ : Unit) => k13 (1 : Int32)) (fun (k15 : Unit → Option (Int32 × Int32)) => if i2 < (0 : Int32) then (k15 ()) else (if i2 ≤ (4 : Int32) then (k13 (0 : Int32)) else (k15 ()))))
noncomputable def fX8_pairNow  (f14 : Nat → Int32) (f15 : Nat → Int32) (i2 : Int32) (i3 : Int32) (i4 : Int32) : Option (Int32) :=
  if i2 = i3 then (some (0 : Int32)) else (if i4 = (0 : Int32) then ((fX8_room f14 i2 i3).bind (fun z18 => some z18)) else (if i4 = (1 : Int32) then ((fX8_flow f15 i2 i3).bind (fun z17 => some z17)) else ((fX8_left f14 f15 i2 i3).bind (fun z16 => some z16))))
noncomputable def fX8_pair  (i5 : Int32) (f14 : Nat → Int32) (f15 : Nat → Int32) (i2 : Int32) (i3 : Int32) (i4 : Int32) : Option (Int32 × Int32) :=
  (fX8_isPlace i5 i2).bind (fun z16 => jn (fun (i22 : Int32) => jn (fun (i27 : Int32) => (fX8_isThrown i22 i27).bind (fun z28 => if z28.1 = (0 : Int32) then ((fX8_pairNow f14 f15 i2 i3 i4).bind (fun z29 => some (z29, z28.2))) else (some ((0 : Int32), z28.2)))) (fun (k23 : Int32 → Option (Int32 × Int32)) => jn (fun (_ : Unit) => k23 (1 : Int32)) (fun (k25 : Unit → Option (Int32 × Int32)) => if i4 < (0 : Int32) then (k25 ()) else (if i4 ≤ (2 : Int32) then (k23 (0 : Int32)) else (k25 ()))))) (fun (k17 : Int32 → Option (Int32 × Int32)) => jn (fun (_ : Unit) => k17 (1 : Int32)) (fun (k19 : Unit → Option (Int32 × Int32)) => if z16 = (0 : Int32) then (k19 ()) else ((fX8_isPlace i5 i3).bind (fun z21 => if z21 = (0 : Int32) then (k19 ()) else (k17 (0 : Int32)))))))
noncomputable def BX8_ofPlaceNow_L5  (i4 : Int32) (f13 : Nat → Int32) (f14 : Nat → Int32) (i2 : Int32) (i3 : Int32) (i38 : Int32) (i39 : Int32) (rec : Int32 → Int32 → Option (Int32))  : Option (Int32) :=
  if i4 ≤ i39 then (some i38) else (jn (fun (i46 : Int32) => nm (i38 + i46) (fun (i47 : Int32) => rec i47 (i39 + (1 : Int32)))) (fun (k40 : Int32 → Option (Int32)) => if i3 = (0 : Int32) then ((fX8_room f13 i2 i39).bind (fun z45 => k40 z45)) else (if i3 = (1 : Int32) then ((fX8_room f13 i39 i2).bind (fun z44 => k40 z44)) else (if i3 = (2 : Int32) then ((fX8_flow f14 i2 i39).bind (fun z43 => k40 z43)) else ((fX8_flow f14 i2 i39).bind (fun z42 => k40 (if (0 : Int32) < z42 then z42 else (0 : Int32))))))))
noncomputable def LX8_ofPlaceNow_L5  (i4 : Int32) (f13 : Nat → Int32) (f14 : Nat → Int32) (i2 : Int32) (i3 : Int32) : Nat → Int32 → Int32 → Option (Int32)
  | 0, _, _ => none
  | n + 1, i38, i39 => BX8_ofPlaceNow_L5  i4 f13 f14 i2 i3 i38 i39 (fun i38 i39 => LX8_ofPlaceNow_L5  i4 f13 f14 i2 i3 n i38 i39 ) 
noncomputable def fX8_ofPlaceNow  (i4 : Int32) (f13 : Nat → Int32) (f14 : Nat → Int32) (i2 : Int32) (i3 : Int32) : Option (Int32) :=
  LX8_ofPlaceNow_L5  i4 f13 f14 i2 i3 600 (0 : Int32) (0 : Int32) 
noncomputable def fX8_ofPlace  (i4 : Int32) (f13 : Nat → Int32) (f14 : Nat → Int32) (i2 : Int32) (i3 : Int32) : Option (Int32 × Int32) :=
  (fX8_isPlace i4 i2).bind (fun z15 => jn (fun (i18 : Int32) => jn (fun (i23 : Int32) => (fX8_isThrown i18 i23).bind (fun z24 => if z24.1 = (0 : Int32) then ((fX8_ofPlaceNow i4 f13 f14 i2 i3).bind (fun z25 => some (z25, z24.2))) else (some ((0 : Int32), z24.2)))) (fun (k19 : Int32 → Option (Int32 × Int32)) => jn (fun (_ : Unit) => k19 (1 : Int32)) (fun (k21 : Unit → Option (Int32 × Int32)) => if i3 < (0 : Int32) then (k21 ()) else (if i3 ≤ (3 : Int32) then (k19 (0 : Int32)) else (k21 ()))))) (fun (k16 : Int32 → Option (Int32 × Int32)) => if z15 = (0 : Int32) then (k16 (1 : Int32)) else (k16 (0 : Int32))))
noncomputable def BX8_rowText_L11  (i4 : Int32) (f13 : Nat → Int32) (i3 : Int32) (i52 : Int32) (i54 : Int32) (n55 : Nat) (f56 : Nat → Int32) (rec : Int32 → Int32 → Nat → (Nat → Int32) → Option (Nat × (Nat → Int32))) (k1 : Int32 → Nat → (Nat → Int32) → Option (Nat × (Nat → Int32))) : Option (Nat × (Nat → Int32)) :=
  if i4 ≤ i52 then (k1 i54 n55 f56) else (inB ((i3 * (9 : Int32)) + i52) 81 (jn (fun (i72 : Int32) (n73 : Nat) (f74 : Nat → Int32) => rec (i52 + (1 : Int32)) i72 n73 f74) (fun (k57 : Int32 → Nat → (Nat → Int32) → Option (Nat × (Nat → Int32))) => if (f13 ((i3 * (9 : Int32)) + i52).toNatClampNeg) ≤ (0 : Int32) then (k57 i54 n55 f56) else ((fJ4_length_8abf5 i54).bind (fun z59 => jn (fun (c62 : Nat) => gd (n55 ≤ (capE n55 (i54 + szK c62)) ∧ (capE n55 (i54 + szK c62)) ≤ 2400 ∧ c62 < 7) inferInstance ((fJ4_append_15ec4 c62 i54 n55 f56 (capE n55 (i54 + szK c62))).bind (fun z63 => gd ((capE n55 (i54 + szK c62)) ≤ (capE (capE n55 (i54 + szK c62)) (z63.1 + szI i52)) ∧ (capE (capE n55 (i54 + szK c62)) (z63.1 + szI i52)) ≤ 2400) inferInstance ((fJ4_append_bf812 z63.1 (capE n55 (i54 + szK c62)) z63.2 i52 (capE (capE n55 (i54 + szK c62)) (z63.1 + szI i52))).bind (fun z65 => gd ((capE (capE n55 (i54 + szK c62)) (z63.1 + szI i52)) ≤ (capE (capE (capE n55 (i54 + szK c62)) (z63.1 + szI i52)) (z65.1 + szK 5)) ∧ (capE (capE (capE n55 (i54 + szK c62)) (z63.1 + szI i52)) (z65.1 + szK 5)) ≤ 2400) inferInstance ((fJ4_append_15ec4 5 z65.1 (capE (capE n55 (i54 + szK c62)) (z63.1 + szI i52)) z65.2 (capE (capE (capE n55 (i54 + szK c62)) (z63.1 + szI i52)) (z65.1 + szK 5))).bind (fun z67 => inB ((i3 * (9 : Int32)) + i52) 81 (gd ((capE (capE (capE n55 (i54 + szK c62)) (z63.1 + szI i52)) (z65.1 + szK 5)) ≤ (capE (capE (capE (capE n55 (i54 + szK c62)) (z63.1 + szI i52)) (z65.1 + szK 5)) (z67.1 + szI (f13 ((i3 * (9 : Int32)) + i52).toNatClampNeg))) ∧ (capE (capE (capE (capE n55 (i54 + szK c62)) (z63.1 + szI i52)) (z65.1 + szK 5)) (z67.1 + szI (f13 ((i3 * (9 : Int32)) + i52).toNatClampNeg))) ≤ 2400) inferInstance ((fJ4_append_bf812 z67.1 (capE (capE (capE n55 (i54 + szK c62)) (z63.1 + szI i52)) (z65.1 + szK 5)) z67.2 (f13 ((i3 * (9 : Int32)) + i52).toNatClampNeg) (capE (capE (capE (capE n55 (i54 + szK c62)) (z63.1 + szI i52)) (z65.1 + szK 5)) (z67.1 + szI (f13 ((i3 * (9 : Int32)) + i52).toNatClampNeg)))).bind (fun z69 => k57 z69.1 (capE (capE (capE (capE n55 (i54 + szK c62)) (z63.1 + szI i52)) (z65.1 + szK 5)) (z67.1 + szI (f13 ((i3 * (9 : Int32)) + i52).toNatClampNeg))) z69.2)))))))))) (fun (k60 : Nat → Option (Nat × (Nat → Int32))) => if z59 ≤ (0 : Int32) then (k60 3) else (k60 4)))))))
noncomputable def LX8_rowText_L11  (i4 : Int32) (f13 : Nat → Int32) (i3 : Int32) : Nat → Int32 → Int32 → Nat → (Nat → Int32) → (Int32 → Nat → (Nat → Int32) → Option (Nat × (Nat → Int32))) → Option (Nat × (Nat → Int32))
  | 0, _, _, _, _, _ => none
  | n + 1, i52, i54, n55, f56, k1 => BX8_rowText_L11  i4 f13 i3 i52 i54 n55 f56 (fun i52 i54 n55 f56 => LX8_rowText_L11  i4 f13 i3 n i52 i54 n55 f56 k1) k1
noncomputable def fX8_rowText  (i4 : Int32) (f13 : Nat → Int32) (i3 : Int32) : Option (Nat × (Nat → Int32)) :=
  (fJ4_init_da8c8 ).bind (fun z15 => LX8_rowText_L11  i4 f13 i3 600 (0 : Int32) (0 : Int32) 16 (fun _ => 0) (fun (i76 : Int32) (n77 : Nat) (f78 : Nat → Int32) => (fJ4_toString_0e30d i76 n77 f78).bind (fun z79 => some (z79.1, z79.2))))
noncomputable def fX8_roomText  (i3 : Int32) (f12 : Nat → Int32) (i2 : Int32) : Option (Int32) :=
  (fX8_isPlace i3 i2).bind (fun z13 => jn (fun (i16 : Int32) => (fX8_isThrown_ i16).bind (fun z17 => if z17.1 = (0 : Int32) then ((fX8_rowText i3 f12 i2).bind (fun z18 => some z17.2)) else (some z17.2))) (fun (k14 : Int32 → Option (Int32)) => if z13 = (0 : Int32) then (k14 (1 : Int32)) else (k14 (0 : Int32))))
noncomputable def fX8_cut  (i3 : Int32) (i6 : Int32) (i7 : Int32) (f12 : Nat → Int32) (i2 : Int32) : Option (Int32 × Int32) :=
  (fX8_isSet i3 i2).bind (fun z13 => jn (fun (i16 : Int32) => (fX8_isThrown_ i16).bind (fun z17 => if z17.1 = (0 : Int32) then ((fX8_isCut i2 i6 i7).bind (fun z18 => if z18 = (0 : Int32) then (some ((-9 : Int32), z17.2)) else ((fX8_through i3 f12 i2).bind (fun z19 => some (z19, z17.2))))) else (some ((0 : Int32), z17.2)))) (fun (k14 : Int32 → Option (Int32 × Int32)) => if z13 = (0 : Int32) then (k14 (1 : Int32)) else (k14 (0 : Int32))))
noncomputable def fX8_least_  (i2 : Int32) (i5 : Int32) (i6 : Int32) (f11 : Nat → Int32) : Option (Int32) :=
  (fX8_leastNow i2 i5 i6 f11).bind (fun z12 => some z12)
noncomputable def fX8_isLeast  (i3 : Int32) (i6 : Int32) (i7 : Int32) (f12 : Nat → Int32) (i2 : Int32) : Option (Int32 × Int32) :=
  (fX8_isSet i3 i2).bind (fun z13 => jn (fun (i16 : Int32) => (fX8_isThrown_ i16).bind (fun z17 => if z17.1 = (0 : Int32) then ((fX8_isCut i2 i6 i7).bind (fun z18 => if z18 = (0 : Int32) then (some ((0 : Int32), z17.2)) else ((fX8_through i3 f12 i2).bind (fun z19 => (fX8_leastNow i3 i6 i7 f12).bind (fun z20 => if z19 = z20 then (some ((1 : Int32), z17.2)) else (some ((0 : Int32), z17.2))))))) else (some ((0 : Int32), z17.2)))) (fun (k14 : Int32 → Option (Int32 × Int32)) => if z13 = (0 : Int32) then (k14 (1 : Int32)) else (k14 (0 : Int32))))
noncomputable def fX8_leasts  (i2 : Int32) (i5 : Int32) (i6 : Int32) (f11 : Nat → Int32) : Option (Int32) :=
  (fX8_leastsNow i2 i5 i6 f11).bind (fun z12 => some z12)
noncomputable def BX8_nthLeast_L28  (i3 : Int32) (i6 : Int32) (i7 : Int32) (f12 : Nat → Int32) (i36 : Int32) (i39 : Int32) (i37 : Int32) (i38 : Int32) (rec : Int32 → Int32 → Option (Int32 × Int32))  : Option (Int32 × Int32) :=
  if ((1 : Int32) <<< (i3 &&& 31)) ≤ i38 then (some ((-1 : Int32), i39)) else ((fX8_isCut i38 i6 i7).bind (fun z40 => jn (fun (i44 : Int32) => rec i44 (i38 + (1 : Int32))) (fun (k41 : Int32 → Option (Int32 × Int32)) => if z40 = (0 : Int32) then (k41 i37) else ((fX8_through i3 f12 i38).bind (fun z43 => if z43 = i36 then (if i37 = (0 : Int32) then (some (i38, i39)) else (k41 (i37 + (-1 : Int32)))) else (k41 i37))))))
noncomputable def LX8_nthLeast_L28  (i3 : Int32) (i6 : Int32) (i7 : Int32) (f12 : Nat → Int32) (i36 : Int32) (i39 : Int32) : Nat → Int32 → Int32 → Option (Int32 × Int32)
  | 0, _, _ => none
  | n + 1, i37, i38 => BX8_nthLeast_L28  i3 i6 i7 f12 i36 i39 i37 i38 (fun i37 i38 => LX8_nthLeast_L28  i3 i6 i7 f12 i36 i39 n i37 i38 ) 
noncomputable def fX8_nthLeast  (i3 : Int32) (i6 : Int32) (i7 : Int32) (f12 : Nat → Int32) (i2 : Int32) : Option (Int32 × Int32) :=
  jn (fun (i15 : Int32) => (fX8_isThrown_ i15).bind (fun z16 => if z16.1 = (0 : Int32) then ((fX8_leastNow i3 i6 i7 f12).bind (fun z17 => LX8_nthLeast_L28  i3 i6 i7 f12 z17 z16.2 600 i2 (0 : Int32) )) else (some ((0 : Int32), z16.2)))) (fun (k13 : Int32 → Option (Int32 × Int32)) => if (0 : Int32) ≤ i2 then (k13 (0 : Int32)) else (k13 (1 : Int32)))
noncomputable def fX8_end  (i3 : Int32) (i6 : Int32) (i7 : Int32) (f12 : Nat → Int32) (i2 : Int32) : Option (Int32) :=
  (fX8_endNow i3 i6 i7 f12 i2).bind (fun z13 => some z13)
noncomputable def fX8_value  (i2 : Int32) (i5 : Int32) (f11 : Nat → Int32) : Option (Int32) :=
  (fX8_valueNow i2 i5 f11).bind (fun z12 => some z12)
noncomputable def fX8_most  (i3 : Int32) (i6 : Int32) (i7 : Int32) (f12 : Nat → Int32) (i2 : Int32) : Option (Int32 × Int32) :=
  (fX8_isRule i2).bind (fun z13 => jn (fun (i16 : Int32) => (fX8_isThrown_ i16).bind (fun z17 => if z17.1 = (0 : Int32) then ((fX8_leastNow i3 i6 i7 f12).bind (fun z18 => some (z18, z17.2))) else (some ((0 : Int32), z17.2)))) (fun (k14 : Int32 → Option (Int32 × Int32)) => if z13 = (0 : Int32) then (k14 (1 : Int32)) else (k14 (0 : Int32))))
noncomputable def fX8_isMost  (i2 : Int32) (i5 : Int32) (i6 : Int32) (f11 : Nat → Int32) (f12 : Nat → Int32) : Option (Int32) :=
  (fX8_valueNow i2 i5 f12).bind (fun z13 => (fX8_leastNow i2 i5 i6 f11).bind (fun z14 => if z13 = z14 then (some (1 : Int32)) else (some (0 : Int32))))
noncomputable def BX8_track_L39  (n20 : Nat) (f21 : Nat → Int32) (i59 : Int32) (i62 : Int32) (n63 : Nat) (f64 : Nat → Int32) (rec : Int32 → Int32 → Nat → (Nat → Int32) → Option (Int32)) (k1 : Int32 → Nat → (Nat → Int32) → Option (Int32)) : Option (Int32) :=
  if (Int32.ofNat n20) ≤ i59 then (k1 i62 n63 f64) else (jn (fun (c67 : Nat) => gd (n63 ≤ (capE n63 (i62 + szK c67)) ∧ (capE n63 (i62 + szK c67)) ≤ 2400 ∧ c67 < 7) inferInstance ((fJ4_append_15ec4 c67 i62 n63 f64 (capE n63 (i62 + szK c67))).bind (fun z68 => inB i59 n20 (gd ((capE n63 (i62 + szK c67)) ≤ (capE (capE n63 (i62 + szK c67)) (z68.1 + szI (f21 i59.toNatClampNeg))) ∧ (capE (capE n63 (i62 + szK c67)) (z68.1 + szI (f21 i59.toNatClampNeg))) ≤ 2400) inferInstance ((fJ4_append_bf812 z68.1 (capE n63 (i62 + szK c67)) z68.2 (f21 i59.toNatClampNeg) (capE (capE n63 (i62 + szK c67)) (z68.1 + szI (f21 i59.toNatClampNeg)))).bind (fun z70 => rec (i59 + (1 : Int32)) z70.1 (capE (capE n63 (i62 + szK c67)) (z68.1 + szI (f21 i59.toNatClampNeg))) z70.2)))))) (fun (k65 : Nat → Option (Int32)) => if i59 ≤ (0 : Int32) then (k65 3) else (k65 6)))
noncomputable def LX8_track_L39  (n20 : Nat) (f21 : Nat → Int32) : Nat → Int32 → Int32 → Nat → (Nat → Int32) → (Int32 → Nat → (Nat → Int32) → Option (Int32)) → Option (Int32)
  | 0, _, _, _, _, _ => none
  | n + 1, i59, i62, n63, f64, k1 => BX8_track_L39  n20 f21 i59 i62 n63 f64 (fun i59 i62 n63 f64 => LX8_track_L39  n20 f21 n i59 i62 n63 f64 k1) k1
noncomputable def fX8_track  (i3 : Int32) (i6 : Int32) (i7 : Int32) (i8 : Int32) (i9 : Int32) (i10 : Int32) (f12 : Nat → Int32) (f13 : Nat → Int32) (i2 : Int32) : Option (Int32) :=
  (fX8_isRule i2).bind (fun z14 => jn (fun (i17 : Int32) => (fX8_isThrown_ i17).bind (fun z18 => if z18.1 = (0 : Int32) then ((fX8_trackBy i3 i6 i7 i8 i9 i10 z18.2 f12 f13 i2).bind (fun z19 => oc z19 ((fJ4_init_da8c8 ).bind (fun z24 => (fJ4_toString_0e30d (0 : Int32) 16 (fun _ => 0)).bind (fun z26 => some z18.2))) (fun n20 f21 => (fJ4_init_da8c8 ).bind (fun z30 => LX8_track_L39  n20 f21 600 (0 : Int32) (0 : Int32) 16 (fun _ => 0) (fun (i73 : Int32) (n74 : Nat) (f75 : Nat → Int32) => (fJ4_toString_0e30d i73 n74 f75).bind (fun z76 => some z18.2)))))) else (some z18.2))) (fun (k15 : Int32 → Option (Int32)) => if z14 = (0 : Int32) then (k15 (1 : Int32)) else (k15 (0 : Int32))))
noncomputable def BX8_layerNow_L56  (i3 : Int32) (f12 : Nat → Int32) (f13 : Nat → Int32) (i166 : Int32) (i191 : Int32) (i192 : Int32) (rec : Int32 → Int32 → Option (Int32)) (k1 : Int32 → Option (Int32)) : Option (Int32) :=
  if i3 ≤ i192 then (k1 i191) else ((fX8_left f12 f13 i166 i192).bind (fun z193 => jn (fun (i197 : Int32) => rec i197 (i192 + (1 : Int32))) (fun (k194 : Int32 → Option (Int32)) => if z193 ≤ (0 : Int32) then (k194 i191) else (nm (i191 ||| ((1 : Int32) <<< (i192 &&& 31))) (fun (i196 : Int32) => k194 i196)))))
noncomputable def LX8_layerNow_L56  (i3 : Int32) (f12 : Nat → Int32) (f13 : Nat → Int32) (i166 : Int32) : Nat → Int32 → Int32 → (Int32 → Option (Int32)) → Option (Int32)
  | 0, _, _, _ => none
  | n + 1, i191, i192, k1 => BX8_layerNow_L56  i3 f12 f13 i166 i191 i192 (fun i191 i192 => LX8_layerNow_L56  i3 f12 f13 i166 n i191 i192 k1) k1
noncomputable def BX8_layerNow_L34  (i3 : Int32) (f12 : Nat → Int32) (f13 : Nat → Int32) (i114 : Int32) (i165 : Int32) (i166 : Int32) (rec : Int32 → Int32 → Option (Int32)) (k1 : Int32 → Option (Int32)) : Option (Int32) :=
  if i3 ≤ i166 then (k1 i165) else (jn (fun (i199 : Int32) => rec i199 (i166 + (1 : Int32))) (fun (k167 : Int32 → Option (Int32)) => if ((i114 >>> (i166 &&& 31)) &&& (1 : Int32)) = (1 : Int32) then (LX8_layerNow_L56  i3 f12 f13 i166 600 i165 (0 : Int32) (fun (i198 : Int32) => k167 i198)) else (k167 i165)))
noncomputable def LX8_layerNow_L34  (i3 : Int32) (f12 : Nat → Int32) (f13 : Nat → Int32) (i114 : Int32) : Nat → Int32 → Int32 → (Int32 → Option (Int32)) → Option (Int32)
  | 0, _, _, _ => none
  | n + 1, i165, i166, k1 => BX8_layerNow_L34  i3 f12 f13 i114 i165 i166 (fun i165 i166 => LX8_layerNow_L34  i3 f12 f13 i114 n i165 i166 k1) k1
noncomputable def BX8_layerNow_L9  (i3 : Int32) (f12 : Nat → Int32) (f13 : Nat → Int32) (i2 : Int32) (i114 : Int32) (i115 : Int32) (rec : Int32 → Int32 → Option (Int32))  : Option (Int32) :=
  if i3 ≤ i115 then (some (-1 : Int32)) else (if ((i114 >>> (i2 &&& 31)) &&& (1 : Int32)) = (1 : Int32) then (some i115) else (LX8_layerNow_L34  i3 f12 f13 i114 600 i114 (0 : Int32) (fun (i200 : Int32) => rec i200 (i115 + (1 : Int32)))))
noncomputable def LX8_layerNow_L9  (i3 : Int32) (f12 : Nat → Int32) (f13 : Nat → Int32) (i2 : Int32) : Nat → Int32 → Int32 → Option (Int32)
  | 0, _, _ => none
  | n + 1, i114, i115 => BX8_layerNow_L9  i3 f12 f13 i2 i114 i115 (fun i114 i115 => LX8_layerNow_L9  i3 f12 f13 i2 n i114 i115 ) 
noncomputable def fX8_layerNow  (i3 : Int32) (i6 : Int32) (f12 : Nat → Int32) (f13 : Nat → Int32) (i2 : Int32) : Option (Int32) :=
  nm ((1 : Int32) <<< (i6 &&& 31)) (fun (i14 : Int32) => LX8_layerNow_L9  i3 f12 f13 i2 600 i14 (0 : Int32) )
noncomputable def fX8_layer  (i3 : Int32) (i6 : Int32) (f12 : Nat → Int32) (f13 : Nat → Int32) (i2 : Int32) : Option (Int32 × Int32) :=
  (fX8_isPlace i3 i2).bind (fun z14 => jn (fun (i17 : Int32) => (fX8_isThrown_ i17).bind (fun z18 => if z18.1 = (0 : Int32) then ((fX8_layerNow i3 i6 f12 f13 i2).bind (fun z19 => some (z19, z18.2))) else (some ((0 : Int32), z18.2)))) (fun (k15 : Int32 → Option (Int32 × Int32)) => if z14 = (0 : Int32) then (k15 (1 : Int32)) else (k15 (0 : Int32))))
noncomputable def fX8_through_  (i3 : Int32) (i6 : Int32) (i7 : Int32) (f12 : Nat → Int32) (i2 : Int32) : Option (Int32 × Int32) :=
  (fX8_isSet i3 i2).bind (fun z13 => jn (fun (i16 : Int32) => (fX8_isThrown_ i16).bind (fun z17 => if z17.1 = (0 : Int32) then ((fX8_isCut i2 i6 i7).bind (fun z18 => if z18 = (0 : Int32) then (some ((-9 : Int32), z17.2)) else ((fX8_through i3 f12 i2).bind (fun z19 => some (z19, z17.2))))) else (some ((0 : Int32), z17.2)))) (fun (k14 : Int32 → Option (Int32 × Int32)) => if z13 = (0 : Int32) then (k14 (1 : Int32)) else (k14 (0 : Int32))))
noncomputable def fX8_parts  (i3 : Int32) (i6 : Int32) (i7 : Int32) (f12 : Nat → Int32) (i2 : Int32) : Option (Int32) :=
  jn (fun (i15 : Int32) => (fX8_partsNow i3 i6 i7 f12 i15).bind (fun z16 => some z16)) (fun (k13 : Int32 → Option (Int32)) => if i2 = (0 : Int32) then (k13 (1 : Int32)) else (k13 (0 : Int32)))
noncomputable def fX8_partsText  (i2 : Int32) (i5 : Int32) (i6 : Int32) (f11 : Nat → Int32) : Option (Unit) :=
  (fX8_partsNowText i2 i5 i6 f11).bind (fun z12 => some ())
noncomputable def fX8_flowText  (i3 : Int32) (f12 : Nat → Int32) (i2 : Int32) : Option (Int32) :=
  (fX8_isPlace i3 i2).bind (fun z13 => jn (fun (i16 : Int32) => (fX8_isThrown_ i16).bind (fun z17 => if z17.1 = (0 : Int32) then ((fX8_rowText i3 f12 i2).bind (fun z18 => some z17.2)) else (some z17.2))) (fun (k14 : Int32 → Option (Int32)) => if z13 = (0 : Int32) then (k14 (1 : Int32)) else (k14 (0 : Int32))))
noncomputable def fX8_would  (i5 : Int32) (i8 : Int32) (i9 : Int32) (f14 : Nat → Int32) (i2 : Int32) (i3 : Int32) (i4 : Int32) : Option (Int32 × Int32 × (Nat → Int32)) :=
  (fX8_isPlace i5 i2).bind (fun z15 => jn (fun (i21 : Int32) => jn (fun (i26 : Int32) => (fX8_isThrown i21 i26).bind (fun z27 => if z27.1 = (0 : Int32) then ((fX8_room f14 i2 i3).bind (fun z28 => if (0 : Int32) ≤ (z28 + i4) then (inB ((i2 * (9 : Int32)) + i3) 81 (inB ((i2 * (9 : Int32)) + i3) 81 ((fX8_leastNow i5 i8 i9 (upd f14 ((i2 * (9 : Int32)) + i3).toNatClampNeg ((f14 ((i2 * (9 : Int32)) + i3).toNatClampNeg) + i4))).bind (fun z29 => inB ((i2 * (9 : Int32)) + i3) 81 (inB ((i2 * (9 : Int32)) + i3) 81 (some (z29, z27.2, upd (upd f14 ((i2 * (9 : Int32)) + i3).toNatClampNeg ((f14 ((i2 * (9 : Int32)) + i3).toNatClampNeg) + i4)) ((i2 * (9 : Int32)) + i3).toNatClampNeg (((upd f14 ((i2 * (9 : Int32)) + i3).toNatClampNeg ((f14 ((i2 * (9 : Int32)) + i3).toNatClampNeg) + i4)) ((i2 * (9 : Int32)) + i3).toNatClampNeg) - i4)))))))) else (some ((-9 : Int32), z27.2, f14)))) else (some ((0 : Int32), z27.2, f14)))) (fun (k22 : Int32 → Option (Int32 × Int32 × (Nat → Int32))) => jn (fun (_ : Unit) => k22 (1 : Int32)) (fun (k24 : Unit → Option (Int32 × Int32 × (Nat → Int32))) => if i2 = i3 then (k24 ()) else (if i4 < (-1 : Int32) then (k24 ()) else (if i4 ≤ (1 : Int32) then (k22 (0 : Int32)) else (k24 ())))))) (fun (k16 : Int32 → Option (Int32 × Int32 × (Nat → Int32))) => jn (fun (_ : Unit) => k16 (1 : Int32)) (fun (k18 : Unit → Option (Int32 × Int32 × (Nat → Int32))) => if z15 = (0 : Int32) then (k18 ()) else ((fX8_isPlace i5 i3).bind (fun z20 => if z20 = (0 : Int32) then (k18 ()) else (k16 (0 : Int32)))))))
noncomputable def fX8_between  (i4 : Int32) (f13 : Nat → Int32) (i2 : Int32) (i3 : Int32) : Option (Int32 × Int32) :=
  (fX8_isPlace i4 i2).bind (fun z14 => jn (fun (i20 : Int32) => jn (fun (i23 : Int32) => (fX8_isThrown i20 i23).bind (fun z24 => if z24.1 = (0 : Int32) then ((fX8_least i4 f13 i2 i3).bind (fun z25 => some (z25, z24.2))) else (some ((0 : Int32), z24.2)))) (fun (k21 : Int32 → Option (Int32 × Int32)) => if i2 = i3 then (k21 (1 : Int32)) else (k21 (0 : Int32)))) (fun (k15 : Int32 → Option (Int32 × Int32)) => jn (fun (_ : Unit) => k15 (1 : Int32)) (fun (k17 : Unit → Option (Int32 × Int32)) => if z14 = (0 : Int32) then (k17 ()) else ((fX8_isPlace i4 i3).bind (fun z19 => if z19 = (0 : Int32) then (k17 ()) else (k15 (0 : Int32)))))))
noncomputable def fX8_about  (i2 : Int32) (i5 : Int32) (i6 : Int32) (f11 : Nat → Int32) : Option (Int32) :=
  (fX8_leastNow i2 i5 i6 f11).bind (fun z12 => some z12)
noncomputable def BX8_apartNow_L10  (f11 : Nat → Int32) (i29 : Int32) (f30 : Nat → Int32) (rec : Int32 → (Nat → Int32) → Option (Int32)) (k1 : (Nat → Int32) → Option (Int32)) : Option (Int32) :=
  if (81 : Int32) ≤ i29 then (k1 f30) else (inB i29 81 (jn (fun (i33 : Int32) => inB i29 81 (rec (i29 + (1 : Int32)) (upd f30 i29.toNatClampNeg i33))) (fun (k31 : Int32 → Option (Int32)) => if (f11 i29.toNatClampNeg) ≤ (0 : Int32) then (k31 (0 : Int32)) else (k31 (1 : Int32)))))
noncomputable def LX8_apartNow_L10  (f11 : Nat → Int32) : Nat → Int32 → (Nat → Int32) → ((Nat → Int32) → Option (Int32)) → Option (Int32)
  | 0, _, _, _ => none
  | n + 1, i29, f30, k1 => BX8_apartNow_L10  f11 i29 f30 (fun i29 f30 => LX8_apartNow_L10  f11 n i29 f30 k1) k1
noncomputable def fX8_apartNow  (i2 : Int32) (i5 : Int32) (i6 : Int32) (f11 : Nat → Int32) : Option (Int32) :=
  LX8_apartNow_L10  f11 600 (0 : Int32) (fun _ => 0) (fun (f34 : Nat → Int32) => (fX8_least i2 f34 i5 i6).bind (fun z35 => some z35))
noncomputable def fX8_apart  (i3 : Int32) (i6 : Int32) (i7 : Int32) (f12 : Nat → Int32) (i2 : Int32) : Option (Int32 × Int32) :=
  jn (fun (i17 : Int32) => (fX8_isThrown_ i17).bind (fun z18 => if z18.1 = (0 : Int32) then ((fX8_apartNow i3 i6 i7 f12).bind (fun z19 => some (z19, z18.2))) else (some ((0 : Int32), z18.2)))) (fun (k13 : Int32 → Option (Int32 × Int32)) => jn (fun (_ : Unit) => k13 (1 : Int32)) (fun (k15 : Unit → Option (Int32 × Int32)) => if i2 < (0 : Int32) then (k15 ()) else (if i2 ≤ (1 : Int32) then (k13 (0 : Int32)) else (k15 ()))))
noncomputable def fX8_houseNow  (i8 : Int32) (i9 : Int32) (i10 : Int32) (i2 : Int32) : Option (Int32) :=
  if i2 = (0 : Int32) then (some i8) else (if i2 = (1 : Int32) then (some i9) else (some i10))
noncomputable def fX8_house  (i8 : Int32) (i9 : Int32) (i10 : Int32) (i2 : Int32) : Option (Int32 × Int32) :=
  jn (fun (i16 : Int32) => (fX8_isThrown_ i16).bind (fun z17 => if z17.1 = (0 : Int32) then ((fX8_houseNow i8 i9 i10 i2).bind (fun z18 => some (z18, z17.2))) else (some ((0 : Int32), z17.2)))) (fun (k12 : Int32 → Option (Int32 × Int32)) => jn (fun (_ : Unit) => k12 (1 : Int32)) (fun (k14 : Unit → Option (Int32 × Int32)) => if i2 < (0 : Int32) then (k14 ()) else (if i2 ≤ (2 : Int32) then (k12 (0 : Int32)) else (k14 ()))))
noncomputable def fX8_knock  (i9 : Int32) : Option (Int32 × Int32) :=
  some (i9 + (1 : Int32), i9 + (1 : Int32))
noncomputable def BX8_isSoundNow_L50  (i2 : Int32) (f11 : Nat → Int32) (f12 : Nat → Int32) (i69 : Int32) (i100 : Int32) (i101 : Int32) (rec : Int32 → Int32 → Option (Int32)) (k1 : Int32 → Option (Int32)) : Option (Int32) :=
  if i2 ≤ i101 then (k1 i100) else ((fX8_left f11 f12 i69 i101).bind (fun z102 => jn (fun (i109 : Int32) => nm (i100 &&& i109) (fun (i110 : Int32) => rec i110 (i101 + (1 : Int32)))) (fun (k103 : Int32 → Option (Int32)) => jn (fun (_ : Unit) => k103 (0 : Int32)) (fun (k105 : Unit → Option (Int32)) => if z102 < (0 : Int32) then (k105 ()) else ((fX8_flow f12 i69 i101).bind (fun z107 => (fX8_flow f12 i101 i69).bind (fun z108 => if z107 = (-z108) then (k103 (1 : Int32)) else (k105 ()))))))))
noncomputable def LX8_isSoundNow_L50  (i2 : Int32) (f11 : Nat → Int32) (f12 : Nat → Int32) (i69 : Int32) : Nat → Int32 → Int32 → (Int32 → Option (Int32)) → Option (Int32)
  | 0, _, _, _ => none
  | n + 1, i100, i101, k1 => BX8_isSoundNow_L50  i2 f11 f12 i69 i100 i101 (fun i100 i101 => LX8_isSoundNow_L50  i2 f11 f12 i69 n i100 i101 k1) k1
noncomputable def BX8_isSoundNow_L4  (i2 : Int32) (i5 : Int32) (i6 : Int32) (f11 : Nat → Int32) (f12 : Nat → Int32) (i68 : Int32) (i69 : Int32) (rec : Int32 → Int32 → Option (Int32)) (k1 : Int32 → Option (Int32)) : Option (Int32) :=
  if i2 ≤ i69 then (k1 i68) else (jn (fun (i75 : Int32) => nm (i68 &&& i75) (fun (i76 : Int32) => LX8_isSoundNow_L50  i2 f11 f12 i69 600 i76 (0 : Int32) (fun (i111 : Int32) => rec i111 (i69 + (1 : Int32))))) (fun (k70 : Int32 → Option (Int32)) => jn (fun (_ : Unit) => k70 (1 : Int32)) (fun (k72 : Unit → Option (Int32)) => if i69 = i5 then (k72 ()) else (if i69 = i6 then (k72 ()) else ((fX8_fromPlace i2 f12 i69).bind (fun z74 => if z74 = (0 : Int32) then (k72 ()) else (k70 (0 : Int32))))))))
noncomputable def LX8_isSoundNow_L4  (i2 : Int32) (i5 : Int32) (i6 : Int32) (f11 : Nat → Int32) (f12 : Nat → Int32) : Nat → Int32 → Int32 → (Int32 → Option (Int32)) → Option (Int32)
  | 0, _, _, _ => none
  | n + 1, i68, i69, k1 => BX8_isSoundNow_L4  i2 i5 i6 f11 f12 i68 i69 (fun i68 i69 => LX8_isSoundNow_L4  i2 i5 i6 f11 f12 n i68 i69 k1) k1
noncomputable def BX8_isSoundNow_L158  (i2 : Int32) (i5 : Int32) (i6 : Int32) (f12 : Nat → Int32) (i153 : Int32) (i155 : Int32) (rec : Int32 → Int32 → Option (Int32)) (k1 : Int32 → Option (Int32)) : Option (Int32) :=
  if ((1 : Int32) <<< (i2 &&& 31)) ≤ i155 then (k1 i153) else ((fX8_isCut i155 i5 i6).bind (fun z156 => jn (fun (i165 : Int32) => rec i165 (i155 + (1 : Int32))) (fun (k157 : Int32 → Option (Int32)) => if z156 = (0 : Int32) then (k157 i153) else ((fX8_through i2 f12 i155).bind (fun z159 => (fX8_valueNow i2 i5 f12).bind (fun z160 => jn (fun (i163 : Int32) => nm (i153 &&& i163) (fun (i164 : Int32) => k157 i164)) (fun (k161 : Int32 → Option (Int32)) => if z159 = z160 then (k161 (1 : Int32)) else (k161 (0 : Int32)))))))))
noncomputable def LX8_isSoundNow_L158  (i2 : Int32) (i5 : Int32) (i6 : Int32) (f12 : Nat → Int32) : Nat → Int32 → Int32 → (Int32 → Option (Int32)) → Option (Int32)
  | 0, _, _, _ => none
  | n + 1, i153, i155, k1 => BX8_isSoundNow_L158  i2 i5 i6 f12 i153 i155 (fun i153 i155 => LX8_isSoundNow_L158  i2 i5 i6 f12 n i153 i155 k1) k1
noncomputable def fX8_isSoundNow  (i2 : Int32) (i5 : Int32) (i6 : Int32) (f11 : Nat → Int32) (f12 : Nat → Int32) : Option (Int32) :=
  LX8_isSoundNow_L4  i2 i5 i6 f11 f12 600 (1 : Int32) (0 : Int32) (fun (i112 : Int32) => (fX8_leastNow i2 i5 i6 f11).bind (fun z113 => (fX8_valueNow i2 i5 f12).bind (fun z114 => jn (fun (i127 : Int32) => nm (i112 &&& i127) (fun (i128 : Int32) => LX8_isSoundNow_L158  i2 i5 i6 f12 600 i128 (0 : Int32) (fun (i166 : Int32) => if i166 = (0 : Int32) then (some (0 : Int32)) else ((fX8_endNow i2 i5 i6 f11 (0 : Int32)).bind (fun z167 => (fX8_through i2 f11 z167).bind (fun z168 => if z168 = z113 then ((fX8_endNow i2 i5 i6 f11 (1 : Int32)).bind (fun z169 => (fX8_through i2 f11 z169).bind (fun z170 => if z170 = z113 then ((fX8_partsNow i2 i5 i6 f12 (2 : Int32)).bind (fun z171 => (fX8_valueNow i2 i5 f12).bind (fun z172 => if z171 = z172 then (some (1 : Int32)) else (some (0 : Int32))))) else (some (0 : Int32))))) else (some (0 : Int32)))))))) (fun (k115 : Int32 → Option (Int32)) => jn (fun (_ : Unit) => k115 (0 : Int32)) (fun (k117 : Unit → Option (Int32)) => if z113 < z114 then (k117 ()) else ((fX8_valueNow i2 i5 f12).bind (fun z119 => jn (fun (i122 : Int32) => (fX8_layerNow i2 i5 f11 f12 i6).bind (fun z123 => jn (fun (i126 : Int32) => if i122 = i126 then (k115 (1 : Int32)) else (k117 ())) (fun (k124 : Int32 → Option (Int32)) => if (0 : Int32) ≤ z123 then (k124 (0 : Int32)) else (k124 (1 : Int32))))) (fun (k120 : Int32 → Option (Int32)) => if z119 = z113 then (k120 (1 : Int32)) else (k120 (0 : Int32))))))))))
noncomputable def fX8_isSound  (i2 : Int32) (i5 : Int32) (i6 : Int32) (f11 : Nat → Int32) (f12 : Nat → Int32) : Option (Int32) :=
  (fX8_isSoundNow i2 i5 i6 f11 f12).bind (fun z13 => bz z13 (some z13))
noncomputable def BX8_digest_L11  (i2 : Int32) (i5 : Int32) (i6 : Int32) (f11 : Nat → Int32) (l28 : Int64) (i29 : Int32) (rec : Int64 → Int32 → Option (Int64)) (k1 : Int64 → Option (Int64)) : Option (Int64) :=
  if (5 : Int32) ≤ i29 then (k1 l28) else ((fX8_toldNow i2 i5 i6 f11 i29).bind (fun z30 => nm ((l28 * (31 : Int64)) + z30.toInt64) (fun (l31 : Int64) => rec l31 (i29 + (1 : Int32)))))
noncomputable def LX8_digest_L11  (i2 : Int32) (i5 : Int32) (i6 : Int32) (f11 : Nat → Int32) : Nat → Int64 → Int32 → (Int64 → Option (Int64)) → Option (Int64)
  | 0, _, _, _ => none
  | n + 1, l28, i29, k1 => BX8_digest_L11  i2 i5 i6 f11 l28 i29 (fun l28 i29 => LX8_digest_L11  i2 i5 i6 f11 n l28 i29 k1) k1
noncomputable def BX8_digest_L48  (i2 : Int32) (f11 : Nat → Int32) (f12 : Nat → Int32) (i93 : Int32) (l110 : Int64) (i111 : Int32) (rec : Int64 → Int32 → Option (Int64)) (k1 : Int64 → Option (Int64)) : Option (Int64) :=
  if (4 : Int32) ≤ i111 then (k1 l110) else ((fX8_ofPlaceNow i2 f11 f12 i93 i111).bind (fun z112 => nm ((l110 * (31 : Int64)) + z112.toInt64) (fun (l113 : Int64) => rec l113 (i111 + (1 : Int32)))))
noncomputable def LX8_digest_L48  (i2 : Int32) (f11 : Nat → Int32) (f12 : Nat → Int32) (i93 : Int32) : Nat → Int64 → Int32 → (Int64 → Option (Int64)) → Option (Int64)
  | 0, _, _, _ => none
  | n + 1, l110, i111, k1 => BX8_digest_L48  i2 f11 f12 i93 l110 i111 (fun l110 i111 => LX8_digest_L48  i2 f11 f12 i93 n l110 i111 k1) k1
noncomputable def BX8_digest_L91  (i2 : Int32) (f11 : Nat → Int32) (f12 : Nat → Int32) (i93 : Int32) (l134 : Int64) (i135 : Int32) (rec : Int64 → Int32 → Option (Int64)) (k1 : Int64 → Option (Int64)) : Option (Int64) :=
  if i2 ≤ i135 then (k1 l134) else ((fX8_pairNow f11 f12 i93 i135 (0 : Int32)).bind (fun z136 => (fX8_pairNow f11 f12 i93 i135 (1 : Int32)).bind (fun z137 => nm ((((l134 * (31 : Int64)) + z136.toInt64) * (31 : Int64)) + z137.toInt64) (fun (l138 : Int64) => rec l138 (i135 + (1 : Int32))))))
noncomputable def LX8_digest_L91  (i2 : Int32) (f11 : Nat → Int32) (f12 : Nat → Int32) (i93 : Int32) : Nat → Int64 → Int32 → (Int64 → Option (Int64)) → Option (Int64)
  | 0, _, _, _ => none
  | n + 1, l134, i135, k1 => BX8_digest_L91  i2 f11 f12 i93 l134 i135 (fun l134 i135 => LX8_digest_L91  i2 f11 f12 i93 n l134 i135 k1) k1
noncomputable def BX8_digest_L37  (i2 : Int32) (i5 : Int32) (f11 : Nat → Int32) (f12 : Nat → Int32) (l92 : Int64) (i93 : Int32) (rec : Int64 → Int32 → Option (Int64)) (k1 : Int64 → Option (Int64)) : Option (Int64) :=
  if i2 ≤ i93 then (k1 l92) else (LX8_digest_L48  i2 f11 f12 i93 600 l92 (0 : Int32) (fun (l114 : Int64) => (fX8_layerNow i2 i5 f11 f12 i93).bind (fun z115 => nm ((l114 * (31 : Int64)) + z115.toInt64) (fun (l116 : Int64) => LX8_digest_L91  i2 f11 f12 i93 600 l116 (0 : Int32) (fun (l139 : Int64) => rec l139 (i93 + (1 : Int32)))))))
noncomputable def LX8_digest_L37  (i2 : Int32) (i5 : Int32) (f11 : Nat → Int32) (f12 : Nat → Int32) : Nat → Int64 → Int32 → (Int64 → Option (Int64)) → Option (Int64)
  | 0, _, _, _ => none
  | n + 1, l92, i93, k1 => BX8_digest_L37  i2 i5 f11 f12 l92 i93 (fun l92 i93 => LX8_digest_L37  i2 i5 f11 f12 n l92 i93 k1) k1
noncomputable def BX8_digest_L247  (i7 : Int32) (i8 : Int32) (i9 : Int32) (l171 : Int64) (i172 : Int32) (rec : Int64 → Int32 → Option (Int64)) (k1 : Int64 → Option (Int64)) : Option (Int64) :=
  if (3 : Int32) ≤ i172 then (k1 l171) else ((fX8_houseNow i7 i8 i9 i172).bind (fun z173 => nm ((l171 * (31 : Int64)) + z173.toInt64) (fun (l174 : Int64) => rec l174 (i172 + (1 : Int32)))))
noncomputable def LX8_digest_L247  (i7 : Int32) (i8 : Int32) (i9 : Int32) : Nat → Int64 → Int32 → (Int64 → Option (Int64)) → Option (Int64)
  | 0, _, _, _ => none
  | n + 1, l171, i172, k1 => BX8_digest_L247  i7 i8 i9 l171 i172 (fun l171 i172 => LX8_digest_L247  i7 i8 i9 n l171 i172 k1) k1
noncomputable def fX8_digest  (i2 : Int32) (i5 : Int32) (i6 : Int32) (i7 : Int32) (i8 : Int32) (i9 : Int32) (f11 : Nat → Int32) (f12 : Nat → Int32) : Option (Int64) :=
  LX8_digest_L11  i2 i5 i6 f11 600 (8026 : Int64) (0 : Int32) (fun (l32 : Int64) => LX8_digest_L37  i2 i5 f11 f12 600 l32 (0 : Int32) (fun (l140 : Int64) => (fX8_valueNow i2 i5 f12).bind (fun z141 => (fX8_leastNow i2 i5 i6 f11).bind (fun z142 => (fX8_leastsNow i2 i5 i6 f11).bind (fun z143 => nm ((((((l140 * (31 : Int64)) + z141.toInt64) * (31 : Int64)) + z142.toInt64) * (31 : Int64)) + z143.toInt64) (fun (l144 : Int64) => (fX8_endNow i2 i5 i6 f11 (0 : Int32)).bind (fun z145 => (fX8_endNow i2 i5 i6 f11 (1 : Int32)).bind (fun z146 => (fX8_partsNow i2 i5 i6 f12 (1 : Int32)).bind (fun z147 => nm ((((((l144 * (31 : Int64)) + z145.toInt64) * (31 : Int64)) + z146.toInt64) * (31 : Int64)) + z147.toInt64) (fun (l148 : Int64) => (fX8_partsNow i2 i5 i6 f12 (0 : Int32)).bind (fun z149 => (fX8_partsNowText i2 i5 i6 f12).bind (fun z150 => (fJ0_lengthO z150.1).bind (fun z153 => (fX8_apartNow i2 i5 i6 f11).bind (fun z154 => nm ((((((l148 * (31 : Int64)) + z149.toInt64) * (31 : Int64)) + z153.toInt64) * (31 : Int64)) + z154.toInt64) (fun (l155 : Int64) => LX8_digest_L247  i7 i8 i9 600 l155 (0 : Int32) (fun (l175 : Int64) => (fX8_isSoundNow i2 i5 i6 f11 f12).bind (fun z176 => if z176 = (0 : Int32) then (some ((l175 * (31 : Int64)) + ((0 : Int32).toInt64))) else (some ((l175 * (31 : Int64)) + ((1 : Int32).toInt64))))))))))))))))))))
theorem gf_M_214 : gfact "BrookmillModel" 214 9 7 := ⟨RX8, TX8, 9, tyX8, cf_9, by decide, tw_1254⟩
theorem pf_M_214 : pfact "BrookmillModel" 214 9 7 .int false := ⟨RX8, TX8, 9, tyX8, cf_9, by decide, tw_1254, rfl, rfl, by decide⟩
theorem mf_X8_places : mfact mX8_places 1 := ⟨by decide +kernel, ⟨by decide +kernel, by decide +kernel⟩, by decide +kernel, tw_1282, tw_75⟩
theorem mf_X8_ends : mfact mX8_ends 2 := ⟨by decide +kernel, ⟨by decide +kernel, by decide +kernel⟩, by decide +kernel, tw_1298, tw_75⟩
theorem mf_X8_room_ : mfact mX8_room_ 3 := ⟨by decide +kernel, ⟨by decide +kernel, by decide +kernel⟩, by decide +kernel, tw_1318, tw_75⟩
theorem mf_X8_widen : mfact mX8_widen 3 := ⟨by decide +kernel, ⟨by decide +kernel, by decide +kernel⟩, by decide +kernel, tw_1337, tw_75⟩
theorem mf_X8_circle : mfact mX8_circle 1 := ⟨by decide +kernel, ⟨by decide +kernel, by decide +kernel⟩, by decide +kernel, tw_1341, tw_75⟩
theorem mf_X8_sumOfRooms : mfact mX8_sumOfRooms 0 := ⟨by decide +kernel, ⟨by decide +kernel, by decide +kernel⟩, by decide +kernel, tw_1350, tw_75⟩
theorem mf_X8_strew : mfact mX8_strew 1 := ⟨by decide +kernel, ⟨by decide +kernel, by decide +kernel⟩, by decide +kernel, tw_1345, tw_75⟩
theorem mf_X8_exchange : mfact mX8_exchange 3 := ⟨by decide +kernel, ⟨by decide +kernel, by decide +kernel⟩, by decide +kernel, tw_1357, tw_75⟩
theorem mf_X8_turnRound : mfact mX8_turnRound 0 := ⟨by decide +kernel, ⟨by decide +kernel, by decide +kernel⟩, by decide +kernel, tw_1354, tw_75⟩
theorem mf_X8_swapped : mfact mX8_swapped 3 := ⟨by decide +kernel, ⟨by decide +kernel, by decide +kernel⟩, by decide +kernel, tw_1368, tw_75⟩
theorem mf_X8_swappedRow : mfact mX8_swappedRow 3 := ⟨by decide +kernel, ⟨by decide +kernel, by decide +kernel⟩, by decide +kernel, tw_1365, tw_75⟩
theorem mf_X8_swap : mfact mX8_swap 2 := ⟨by decide +kernel, ⟨by decide +kernel, by decide +kernel⟩, by decide +kernel, tw_1361, tw_75⟩
theorem mf_X8_step : mfact mX8_step 1 := ⟨by decide +kernel, ⟨by decide +kernel, by decide +kernel⟩, by decide +kernel, tw_1372, tw_75⟩
theorem mf_X8_fill : mfact mX8_fill 1 := ⟨by decide +kernel, ⟨by decide +kernel, by decide +kernel⟩, by decide +kernel, tw_1405, tw_75⟩
theorem mf_X8_send : mfact mX8_send 2 := ⟨by decide +kernel, ⟨by decide +kernel, by decide +kernel⟩, by decide +kernel, tw_1409, tw_75⟩
theorem mf_X8_flowing : mfact mX8_flowing 0 := ⟨by decide +kernel, ⟨by decide +kernel, by decide +kernel⟩, by decide +kernel, tw_1417, tw_75⟩
theorem mf_X8_round : mfact mX8_round 4 := ⟨by decide +kernel, ⟨by decide +kernel, by decide +kernel⟩, by decide +kernel, tw_1413, tw_75⟩
theorem mf_X8_peel : mfact mX8_peel 0 := ⟨by decide +kernel, ⟨by decide +kernel, by decide +kernel⟩, by decide +kernel, tw_1421, tw_75⟩
theorem mf_X8_empty : mfact mX8_empty 0 := ⟨by decide +kernel, ⟨by decide +kernel, by decide +kernel⟩, by decide +kernel, tw_1429, tw_75⟩
theorem mf_X8_toldNow : mfact mX8_toldNow 1 := ⟨by decide +kernel, ⟨by decide +kernel, by decide +kernel⟩, by decide +kernel, tw_1437, tw_75⟩
theorem mf_X8_told : mfact mX8_told 1 := ⟨by decide +kernel, ⟨by decide +kernel, by decide +kernel⟩, by decide +kernel, tw_1433, tw_75⟩
theorem mf_X8_pairNow : mfact mX8_pairNow 3 := ⟨by decide +kernel, ⟨by decide +kernel, by decide +kernel⟩, by decide +kernel, tw_1445, tw_75⟩
theorem mf_X8_pair : mfact mX8_pair 3 := ⟨by decide +kernel, ⟨by decide +kernel, by decide +kernel⟩, by decide +kernel, tw_1441, tw_75⟩
theorem mf_X8_ofPlaceNow : mfact mX8_ofPlaceNow 2 := ⟨by decide +kernel, ⟨by decide +kernel, by decide +kernel⟩, by decide +kernel, tw_1453, tw_75⟩
theorem mf_X8_ofPlace : mfact mX8_ofPlace 2 := ⟨by decide +kernel, ⟨by decide +kernel, by decide +kernel⟩, by decide +kernel, tw_1449, tw_75⟩
theorem mf_X8_rowText : mfact mX8_rowText 2 := ⟨by decide +kernel, ⟨by decide +kernel, by decide +kernel⟩, by decide +kernel, tw_1462, tw_75⟩
theorem mf_X8_roomText : mfact mX8_roomText 1 := ⟨by decide +kernel, ⟨by decide +kernel, by decide +kernel⟩, by decide +kernel, tw_1457, tw_75⟩
theorem mf_X8_cut : mfact mX8_cut 1 := ⟨by decide +kernel, ⟨by decide +kernel, by decide +kernel⟩, by decide +kernel, tw_1474, tw_75⟩
theorem mf_X8_least_ : mfact mX8_least_ 0 := ⟨by decide +kernel, ⟨by decide +kernel, by decide +kernel⟩, by decide +kernel, tw_1489, tw_75⟩
theorem mf_X8_isLeast : mfact mX8_isLeast 1 := ⟨by decide +kernel, ⟨by decide +kernel, by decide +kernel⟩, by decide +kernel, tw_1501, tw_75⟩
theorem mf_X8_leasts : mfact mX8_leasts 0 := ⟨by decide +kernel, ⟨by decide +kernel, by decide +kernel⟩, by decide +kernel, tw_1505, tw_75⟩
theorem mf_X8_nthLeast : mfact mX8_nthLeast 1 := ⟨by decide +kernel, ⟨by decide +kernel, by decide +kernel⟩, by decide +kernel, tw_1513, tw_75⟩
theorem mf_X8_end : mfact mX8_end 1 := ⟨by decide +kernel, ⟨by decide +kernel, by decide +kernel⟩, by decide +kernel, tw_1517, tw_75⟩
theorem mf_X8_value : mfact mX8_value 0 := ⟨by decide +kernel, ⟨by decide +kernel, by decide +kernel⟩, by decide +kernel, tw_1525, tw_75⟩
theorem mf_X8_most : mfact mX8_most 1 := ⟨by decide +kernel, ⟨by decide +kernel, by decide +kernel⟩, by decide +kernel, tw_1529, tw_75⟩
theorem mf_X8_isMost : mfact mX8_isMost 0 := ⟨by decide +kernel, ⟨by decide +kernel, by decide +kernel⟩, by decide +kernel, tw_1533, tw_75⟩
theorem mf_X8_track : mfact mX8_track 1 := ⟨by decide +kernel, ⟨by decide +kernel, by decide +kernel⟩, by decide +kernel, tw_1537, tw_75⟩
theorem mf_X8_layerNow : mfact mX8_layerNow 1 := ⟨by decide +kernel, ⟨by decide +kernel, by decide +kernel⟩, by decide +kernel, tw_1546, tw_75⟩
theorem mf_X8_layer : mfact mX8_layer 1 := ⟨by decide +kernel, ⟨by decide +kernel, by decide +kernel⟩, by decide +kernel, tw_1542, tw_75⟩
theorem mf_X8_through_ : mfact mX8_through_ 1 := ⟨by decide +kernel, ⟨by decide +kernel, by decide +kernel⟩, by decide +kernel, tw_1550, tw_75⟩
theorem mf_X8_parts : mfact mX8_parts 1 := ⟨by decide +kernel, ⟨by decide +kernel, by decide +kernel⟩, by decide +kernel, tw_1554, tw_75⟩
theorem mf_X8_partsText : mfact mX8_partsText 0 := ⟨by decide +kernel, ⟨by decide +kernel, by decide +kernel⟩, by decide +kernel, tw_1566, tw_75⟩
theorem mf_X8_flowText : mfact mX8_flowText 1 := ⟨by decide +kernel, ⟨by decide +kernel, by decide +kernel⟩, by decide +kernel, tw_1574, tw_75⟩
theorem mf_X8_would : mfact mX8_would 3 := ⟨by decide +kernel, ⟨by decide +kernel, by decide +kernel⟩, by decide +kernel, tw_1578, tw_75⟩
theorem mf_X8_between : mfact mX8_between 2 := ⟨by decide +kernel, ⟨by decide +kernel, by decide +kernel⟩, by decide +kernel, tw_1582, tw_75⟩
theorem mf_X8_about : mfact mX8_about 0 := ⟨by decide +kernel, ⟨by decide +kernel, by decide +kernel⟩, by decide +kernel, tw_1586, tw_75⟩
theorem mf_X8_apartNow : mfact mX8_apartNow 0 := ⟨by decide +kernel, ⟨by decide +kernel, by decide +kernel⟩, by decide +kernel, tw_1594, tw_75⟩
theorem mf_X8_apart : mfact mX8_apart 1 := ⟨by decide +kernel, ⟨by decide +kernel, by decide +kernel⟩, by decide +kernel, tw_1590, tw_75⟩
theorem mf_X8_houseNow : mfact mX8_houseNow 1 := ⟨by decide +kernel, ⟨by decide +kernel, by decide +kernel⟩, by decide +kernel, tw_1602, tw_75⟩
theorem mf_X8_house : mfact mX8_house 1 := ⟨by decide +kernel, ⟨by decide +kernel, by decide +kernel⟩, by decide +kernel, tw_1598, tw_75⟩
theorem mf_X8_knock : mfact mX8_knock 0 := ⟨by decide +kernel, ⟨by decide +kernel, by decide +kernel⟩, by decide +kernel, tw_1606, tw_75⟩
theorem mf_X8_isSoundNow : mfact mX8_isSoundNow 0 := ⟨by decide +kernel, ⟨by decide +kernel, by decide +kernel⟩, by decide +kernel, tw_1614, tw_75⟩
theorem mf_X8_isSound : mfact mX8_isSound 0 := ⟨by decide +kernel, ⟨by decide +kernel, by decide +kernel⟩, by decide +kernel, tw_1610, tw_75⟩
theorem mf_X8_digest : mfact mX8_digest 0 := ⟨by decide +kernel, ⟨by decide +kernel, by decide +kernel⟩, by decide +kernel, tw_1618, tw_75⟩
set_option maxRecDepth 20000 in
theorem kX8_places {E : EX} {l : Launch} (hl : l.stackTraces = false) (q1 q4 q5 : Nat) (i3 i6 i7 i8 i9 i10 i11 : Int32) (f12 f13 : Nat → Int32) (i2 : Int32) : Ct E l mX8_places [.ref q1, .int i2] [(q1, .inr (9, [.int i3, .ref q4, .ref q5, .int i6, .int i7, .int i8, .int i9, .int i10, .int i11])), (q4, .inl (E.2.1, 81, .inl f12)), (q5, .inl (E.2.1, 81, .inl f13))] (fX8_places i3 i6 i7 i8 f12 f13 i2) (zX8_places E q1 i9 i10) := Ct_of hl mf_X8_places.1 (Nat.le_of_ble_eq_true rfl) (fun K hs => by
  refine V_less 2 162 (Nat.le_refl _) (Nat.le_refl _) ?_
  refine V_pick [0, 1] [(0, .ref q1), (1, .int i2)] rfl ?_
  unfold fX8_places
  refine V_aload_n (dX8_places 0 rfl) 1 rfl 0 rfl ?_
  refine V_iload_n (dX8_places 1 rfl) 2 rfl 1 rfl ?_
  refine V_iconst (2 : Int32) (by decide) (dX8_places 2 rfl) 3 rfl ?_
  refine V_jn (fun (k14 : Int32 → Option (Int32 × Int32 × Int32 × Int32 × Int32 × Int32 × (Nat → Int32) × (Nat → Int32))) => ∀ (i18 : Int32), V E K mX8_places (Qm E K mX8_places (zX8_places E q1 i9 i10)) 2 162 [(q1, .inr (9, [.int i3, .ref q4, .ref q5, .int i6, .int i7, .int i8, .int i9, .int i10, .int i11])), (q4, .inl (E.2.1, 81, .inl f12)), (q5, .inl (E.2.1, 81, .inl f13))] 17 [(0, .ref q1), (1, .int i2)] [.int i18, .ref q1] (k14 i18)) ?_ ?_
  · intro i18
    show V E K mX8_places (Qm E K mX8_places (zX8_places E q1 i9 i10)) 2 162 [(q1, .inr (9, [.int i3, .ref q4, .ref q5, .int i6, .int i7, .int i8, .int i9, .int i10, .int i11])), (q4, .inl (E.2.1, 81, .inl f12)), (q5, .inl (E.2.1, 81, .inl f13))] 17 [(0, .ref q1), (1, .int i2)] [.int i18, .ref q1] _
    refine V_callV (M := mX8_places) (wcs := [(q1, .inr (9, [.int i3, .ref q4, .ref q5, .int i6, .int i7, .int i8, .int i9, .int i10, .int i11]))]) (wr := [(q4, .inl (E.2.1, 81, .inl f12)), (q5, .inl (E.2.1, 81, .inl f13))]) mf_X8_isThrown_ tw_1283 tw_1285 tw_27 ⟨Nat.le_of_ble_eq_true rfl, Nat.le_of_ble_eq_true rfl⟩ (dX8_places 10 rfl) 20 rfl (kX8_isThrown_ hs q1 i3 (.ref q4) (.ref q5) i6 i7 i8 i9 i10 i11 i18) rfl [0] [1, 2] (q0 := 0) rfl rfl rfl rfl (by decide) rfl rfl rfl rfl (Nat.le_of_ble_eq_true rfl) 2 162 (show 2 + 0 ≤ 2 from Nat.le_of_ble_eq_true rfl) (show 162 + 0 ≤ 162 from Nat.le_of_ble_eq_true rfl) (fun z19 v w hz => ?_)
    obtain ⟨rfl, rfl⟩ := hz
    show V E K mX8_places (Qm E K mX8_places (zX8_places E q1 i9 i10)) 2 162 [(q4, .inl (E.2.1, 81, .inl f12)), (q5, .inl (E.2.1, 81, .inl f13)), (q1, .inr (9, [.int i3, .ref q4, .ref q5, .int i6, .int i7, .int i8, .int i9, .int i10, .int z19.2]))] 20 [(0, .ref q1), (1, .int i2)] [.int z19.1] _
    refine V_if_eq (dX8_places 11 rfl) 25 (by decide) 23 rfl ?_ ?_
    · refine V_aload_n (dX8_places 14 rfl) 26 rfl 0 rfl ?_
      refine V_get gf_M_17 2 rfl rfl (dX8_places 15 rfl) 29 rfl ?_
      refine V_istore_n (dX8_places 16 rfl) 30 rfl [(0, .ref q1), (1, .int i2), (2, .int i3)] (Nat.le_of_ble_eq_true rfl) rfl ?_
      refine V_aload_n (dX8_places 17 rfl) 31 rfl 0 rfl ?_
      refine V_iload_n (dX8_places 18 rfl) 32 rfl 1 rfl ?_
      refine V_callV (M := mX8_places) (wcs := [(q1, .inr (9, [.int i3, .ref q4, .ref q5, .int i6, .int i7, .int i8, .int i9, .int i10, .int z19.2]))]) (wr := [(q4, .inl (E.2.1, 81, .inl f12)), (q5, .inl (E.2.1, 81, .inl f13))]) mf_X8_begin tw_1243 tw_1245 tw_26 ⟨Nat.le_of_ble_eq_true rfl, Nat.le_of_ble_eq_true rfl⟩ (dX8_places 19 rfl) 35 rfl (kX8_begin hs q1 i3 (.ref q4) (.ref q5) i6 i7 i8 i9 i10 z19.2 i2) rfl [2] [0, 1] (q0 := 0) rfl rfl rfl rfl (by decide) rfl rfl rfl rfl (Nat.le_of_ble_eq_true rfl) 0 0 (show 0 + 2 ≤ 2 from Nat.le_of_ble_eq_true rfl) (show 0 + 162 ≤ 162 from Nat.le_of_ble_eq_true rfl) (fun z20 v w hz => ?_)
      obtain ⟨q21, q22, rfl, rfl⟩ := hz
      show V E K mX8_places (Qm E K mX8_places (zX8_places E q1 i9 i10)) 0 0 [(q4, .inl (E.2.1, 81, .inl f12)), (q5, .inl (E.2.1, 81, .inl f13)), (q1, .inr (9, [.int i2, .ref q21, .ref q22, .int (0 : Int32), .int z20, .int i8, .int i9, .int i10, .int z19.2])), (q21, .inl (E.2.1, 81, .inl (fun _ => 0))), (q22, .inl (E.2.1, 81, .inl (fun _ => 0)))] 35 [(0, .ref q1), (1, .int i2), (2, .int i3)] [] _
      refine V_aload_n (dX8_places 20 rfl) 36 rfl 0 rfl ?_
      refine V_iload_n (dX8_places 21 rfl) 37 rfl 2 rfl ?_
      refine V_callV (M := mX8_places) (wcs := [(q1, .inr (9, [.int i2, .ref q21, .ref q22, .int (0 : Int32), .int z20, .int i8, .int i9, .int i10, .int z19.2]))]) (wr := [(q4, .inl (E.2.1, 81, .inl f12)), (q5, .inl (E.2.1, 81, .inl f13)), (q21, .inl (E.2.1, 81, .inl (fun _ => 0))), (q22, .inl (E.2.1, 81, .inl (fun _ => 0)))]) mf_X8_did tw_1291 tw_1293 tw_29 ⟨Nat.le_of_ble_eq_true rfl, Nat.le_of_ble_eq_true rfl⟩ (dX8_places 22 rfl) 40 rfl (kX8_did hs q1 i2 (.ref q21) (.ref q22) (0 : Int32) z20 i8 i9 i10 z19.2 i3) rfl [2] [0, 1, 3, 4] (q0 := 0) rfl rfl rfl rfl (by decide) rfl rfl rfl rfl (Nat.le_of_ble_eq_true rfl) 0 0 (show 0 + 0 ≤ 0 from Nat.le_of_ble_eq_true rfl) (show 0 + 0 ≤ 0 from Nat.le_of_ble_eq_true rfl) (fun z23 v w hz => ?_)
      obtain ⟨rfl, rfl⟩ := hz
      show V E K mX8_places (Qm E K mX8_places (zX8_places E q1 i9 i10)) 0 0 [(q4, .inl (E.2.1, 81, .inl f12)), (q5, .inl (E.2.1, 81, .inl f13)), (q21, .inl (E.2.1, 81, .inl (fun _ => 0))), (q22, .inl (E.2.1, 81, .inl (fun _ => 0))), (q1, .inr (9, [.int i2, .ref q21, .ref q22, .int (0 : Int32), .int z20, .int z23.2, .int i9, .int i10, .int z19.2]))] 40 [(0, .ref q1), (1, .int i2), (2, .int i3)] [.int z23.1] _
      refine V_world [4, 2, 3] [(q1, .inr (9, [.int i2, .ref q21, .ref q22, .int (0 : Int32), .int z20, .int z23.2, .int i9, .int i10, .int z19.2])), (q21, .inl (E.2.1, 81, .inl (fun _ => 0))), (q22, .inl (E.2.1, 81, .inl (fun _ => 0)))] rfl rfl rfl ?_
      exact V_iret rfl (dX8_places 23 rfl) ⟨q21, q22, rfl, rfl⟩
    · refine V_iconst (0 : Int32) (by decide) (dX8_places 12 rfl) 24 rfl ?_
      refine V_world [2, 0, 1] [(q1, .inr (9, [.int i3, .ref q4, .ref q5, .int i6, .int i7, .int i8, .int i9, .int i10, .int z19.2])), (q4, .inl (E.2.1, 81, .inl f12)), (q5, .inl (E.2.1, 81, .inl f13))] rfl rfl rfl ?_
      exact V_iret rfl (dX8_places 13 rfl) ⟨q4, q5, rfl, rfl⟩
  · intro k14 hk15
    refine V_jn (fun (k16 : Unit → Option (Int32 × Int32 × Int32 × Int32 × Int32 × Int32 × (Nat → Int32) × (Nat → Int32))) => ∀ (_ : Unit), V E K mX8_places (Qm E K mX8_places (zX8_places E q1 i9 i10)) 2 162 [(q1, .inr (9, [.int i3, .ref q4, .ref q5, .int i6, .int i7, .int i8, .int i9, .int i10, .int i11])), (q4, .inl (E.2.1, 81, .inl f12)), (q5, .inl (E.2.1, 81, .inl f13))] 12 [(0, .ref q1), (1, .int i2)] [.ref q1] (k16 ())) ?_ ?_
    · intro _
      show V E K mX8_places (Qm E K mX8_places (zX8_places E q1 i9 i10)) 2 162 [(q1, .inr (9, [.int i3, .ref q4, .ref q5, .int i6, .int i7, .int i8, .int i9, .int i10, .int i11])), (q4, .inl (E.2.1, 81, .inl f12)), (q5, .inl (E.2.1, 81, .inl f13))] 12 [(0, .ref q1), (1, .int i2)] [.ref q1] _
      refine V_iconst (1 : Int32) (by decide) (dX8_places 7 rfl) 13 rfl ?_
      refine V_goto (dX8_places 8 rfl) 17 (by decide) ?_
      exact hk15 (1 : Int32)
    · intro k16 hk17
      refine V_icmp_lt (dX8_places 3 rfl) 12 (by decide) 6 rfl ?_ ?_
      · exact hk17 ()
      · refine V_iload_n (dX8_places 4 rfl) 7 rfl 1 rfl ?_
        refine V_bipush (9 : Int32) (by decide) (dX8_places 5 rfl) 9 rfl ?_
        refine V_icmp_le (dX8_places 6 rfl) 16 (by decide) 12 rfl ?_ ?_
        · refine V_iconst (0 : Int32) (by decide) (dX8_places 9 rfl) 17 rfl ?_
          exact hk15 (0 : Int32)
        · exact hk17 ())
set_option maxRecDepth 20000 in
theorem kX8_ends {E : EX} {l : Launch} (hl : l.stackTraces = false) (q1 q6 : Nat) (i4 : Int32) (v5 : Value) (i7 i8 i9 i10 i11 i12 : Int32) (f13 : Nat → Int32) (i2 i3 : Int32) : Ct E l mX8_ends [.ref q1, .int i2, .int i3] [(q1, .inr (9, [.int i4, v5, .ref q6, .int i7, .int i8, .int i9, .int i10, .int i11, .int i12])), (q6, .inl (E.2.1, 81, .inl f13))] (fX8_ends i4 i7 i8 i9 f13 i2 i3) (zX8_ends E q1 q6 i4 v5 i10 i11) := Ct_of hl mf_X8_ends.1 (Nat.le_of_ble_eq_true rfl) (fun K hs => by
  refine V_less 0 0 (Nat.le_refl _) (Nat.le_refl _) ?_
  refine V_pick [0, 1, 2] [(0, .ref q1), (1, .int i2), (2, .int i3)] rfl ?_
  unfold fX8_ends
  refine V_aload_n (dX8_ends 0 rfl) 1 rfl 0 rfl ?_
  refine V_aload_n (dX8_ends 1 rfl) 2 rfl 0 rfl ?_
  refine V_iload_n (dX8_ends 2 rfl) 3 rfl 1 rfl ?_
  refine V_callV (M := mX8_ends) (wcs := [(q1, .inr (9, [.int i4, v5, .ref q6, .int i7, .int i8, .int i9, .int i10, .int i11, .int i12]))]) (wr := [(q6, .inl (E.2.1, 81, .inl f13))]) mf_X8_isPlace tw_1299 tw_1301 tw_30 ⟨Nat.le_of_ble_eq_true rfl, Nat.le_of_ble_eq_true rfl⟩ (dX8_ends 3 rfl) 6 rfl (kX8_isPlace hs q1 i4 v5 (.ref q6) i7 i8 i9 i10 i11 i12 i2) rfl [0] [1] (q0 := 0) rfl rfl rfl rfl (by decide) rfl rfl rfl rfl (Nat.le_of_ble_eq_true rfl) 0 0 (show 0 + 0 ≤ 0 from Nat.le_of_ble_eq_true rfl) (show 0 + 0 ≤ 0 from Nat.le_of_ble_eq_true rfl) (fun z14 v w hz => ?_)
  obtain ⟨rfl, rfl⟩ := hz
  show V E K mX8_ends (Qm E K mX8_ends (zX8_ends E q1 q6 i4 v5 i10 i11)) 0 0 [(q6, .inl (E.2.1, 81, .inl f13)), (q1, .inr (9, [.int i4, v5, .ref q6, .int i7, .int i8, .int i9, .int i10, .int i11, .int i12]))] 6 [(0, .ref q1), (1, .int i2), (2, .int i3)] [.int z14, .ref q1] _
  refine V_jn (fun (k15 : Int32 → Option (Int32 × Int32 × Int32 × Int32 × Int32 × (Nat → Int32))) => ∀ (i20 : Int32), V E K mX8_ends (Qm E K mX8_ends (zX8_ends E q1 q6 i4 v5 i10 i11)) 0 0 [(q1, .inr (9, [.int i4, v5, .ref q6, .int i7, .int i8, .int i9, .int i10, .int i11, .int i12])), (q6, .inl (E.2.1, 81, .inl f13))] 22 [(0, .ref q1), (1, .int i2), (2, .int i3)] [.int i20, .ref q1] (k15 i20)) ?_ ?_
  · intro i20
    show V E K mX8_ends (Qm E K mX8_ends (zX8_ends E q1 q6 i4 v5 i10 i11)) 0 0 [(q1, .inr (9, [.int i4, v5, .ref q6, .int i7, .int i8, .int i9, .int i10, .int i11, .int i12])), (q6, .inl (E.2.1, 81, .inl f13))] 22 [(0, .ref q1), (1, .int i2), (2, .int i3)] [.int i20, .ref q1] _
    refine V_iload_n (dX8_ends 12 rfl) 23 rfl 1 rfl ?_
    refine V_iload_n (dX8_ends 13 rfl) 24 rfl 2 rfl ?_
    refine V_jn (fun (k21 : Int32 → Option (Int32 × Int32 × Int32 × Int32 × Int32 × (Nat → Int32))) => ∀ (i23 : Int32), V E K mX8_ends (Qm E K mX8_ends (zX8_ends E q1 q6 i4 v5 i10 i11)) 0 0 [(q1, .inr (9, [.int i4, v5, .ref q6, .int i7, .int i8, .int i9, .int i10, .int i11, .int i12])), (q6, .inl (E.2.1, 81, .inl f13))] 32 [(0, .ref q1), (1, .int i2), (2, .int i3)] [.int i23, .int i20, .ref q1] (k21 i23)) ?_ ?_
    · intro i23
      show V E K mX8_ends (Qm E K mX8_ends (zX8_ends E q1 q6 i4 v5 i10 i11)) 0 0 [(q1, .inr (9, [.int i4, v5, .ref q6, .int i7, .int i8, .int i9, .int i10, .int i11, .int i12])), (q6, .inl (E.2.1, 81, .inl f13))] 32 [(0, .ref q1), (1, .int i2), (2, .int i3)] [.int i23, .int i20, .ref q1] _
      refine V_callV (M := mX8_ends) (wcs := [(q1, .inr (9, [.int i4, v5, .ref q6, .int i7, .int i8, .int i9, .int i10, .int i11, .int i12]))]) (wr := [(q6, .inl (E.2.1, 81, .inl f13))]) mf_X8_isThrown tw_1287 tw_1289 tw_28 ⟨Nat.le_of_ble_eq_true rfl, Nat.le_of_ble_eq_true rfl⟩ (dX8_ends 18 rfl) 35 rfl (kX8_isThrown hs q1 i4 v5 (.ref q6) i7 i8 i9 i10 i11 i12 i20 i23) rfl [0] [1] (q0 := 0) rfl rfl rfl rfl (by decide) rfl rfl rfl rfl (Nat.le_of_ble_eq_true rfl) 0 0 (show 0 + 0 ≤ 0 from Nat.le_of_ble_eq_true rfl) (show 0 + 0 ≤ 0 from Nat.le_of_ble_eq_true rfl) (fun z24 v w hz => ?_)
      obtain ⟨rfl, rfl⟩ := hz
      show V E K mX8_ends (Qm E K mX8_ends (zX8_ends E q1 q6 i4 v5 i10 i11)) 0 0 [(q6, .inl (E.2.1, 81, .inl f13)), (q1, .inr (9, [.int i4, v5, .ref q6, .int i7, .int i8, .int i9, .int i10, .int i11, .int z24.2]))] 35 [(0, .ref q1), (1, .int i2), (2, .int i3)] [.int z24.1] _
      refine V_if_eq (dX8_ends 19 rfl) 40 (by decide) 38 rfl ?_ ?_
      · refine V_aload_n (dX8_ends 22 rfl) 41 rfl 0 rfl ?_
        refine V_callV (M := mX8_ends) (wcs := [(q1, .inr (9, [.int i4, v5, .ref q6, .int i7, .int i8, .int i9, .int i10, .int i11, .int z24.2])), (q6, .inl (E.2.1, 81, .inl f13))]) (wr := []) mf_X8_valueNow tw_1303 tw_1305 tw_31 ⟨Nat.le_of_ble_eq_true rfl, Nat.le_of_ble_eq_true rfl⟩ (dX8_ends 23 rfl) 44 rfl (kX8_valueNow hs q1 q6 i4 v5 i7 i8 i9 i10 i11 z24.2 f13) rfl [1, 0] [] (q0 := 0) rfl rfl rfl rfl (by decide) rfl rfl rfl rfl (Nat.le_of_ble_eq_true rfl) 0 0 (show 0 + 0 ≤ 0 from Nat.le_of_ble_eq_true rfl) (show 0 + 0 ≤ 0 from Nat.le_of_ble_eq_true rfl) (fun z25 v w hz => ?_)
        obtain ⟨rfl, rfl⟩ := hz
        show V E K mX8_ends (Qm E K mX8_ends (zX8_ends E q1 q6 i4 v5 i10 i11)) 0 0 [(q1, .inr (9, [.int i4, v5, .ref q6, .int i7, .int i8, .int i9, .int i10, .int i11, .int z24.2])), (q6, .inl (E.2.1, 81, .inl f13))] 44 [(0, .ref q1), (1, .int i2), (2, .int i3)] [.int z25] _
        refine V_istore_n (dX8_ends 24 rfl) 45 rfl [(0, .ref q1), (1, .int i2), (2, .int i3), (3, .int z25)] (Nat.le_of_ble_eq_true rfl) rfl ?_
        refine V_aload_n (dX8_ends 25 rfl) 46 rfl 0 rfl ?_
        refine V_iload_n (dX8_ends 26 rfl) 47 rfl 1 rfl ?_
        refine V_put pf_M_27 0 rfl rfl rfl (Nat.le_of_ble_eq_true rfl) (dX8_ends 27 rfl) 50 rfl [(q1, .inr (9, [.int i4, v5, .ref q6, .int i2, .int i8, .int i9, .int i10, .int i11, .int z24.2])), (q6, .inl (E.2.1, 81, .inl f13))] rfl ?_
        refine V_aload_n (dX8_ends 28 rfl) 51 rfl 0 rfl ?_
        refine V_iload_n (dX8_ends 29 rfl) 52 rfl 2 rfl ?_
        refine V_put pf_M_30 0 rfl rfl rfl (Nat.le_of_ble_eq_true rfl) (dX8_ends 30 rfl) 55 rfl [(q1, .inr (9, [.int i4, v5, .ref q6, .int i2, .int i3, .int i9, .int i10, .int i11, .int z24.2])), (q6, .inl (E.2.1, 81, .inl f13))] rfl ?_
        refine V_aload_n (dX8_ends 31 rfl) 56 rfl 0 rfl ?_
        refine V_callV (M := mX8_ends) (wcs := [(q1, .inr (9, [.int i4, v5, .ref q6, .int i2, .int i3, .int i9, .int i10, .int i11, .int z24.2])), (q6, .inl (E.2.1, 81, .inl f13))]) (wr := []) mf_X8_still tw_1311 tw_1313 tw_33 ⟨Nat.le_of_ble_eq_true rfl, Nat.le_of_ble_eq_true rfl⟩ (dX8_ends 32 rfl) 59 rfl (kX8_still hs q1 q6 i4 v5 i2 i3 i9 i10 i11 z24.2 f13) rfl [0, 1] [] (q0 := 0) rfl rfl rfl rfl (by decide) rfl rfl rfl rfl (Nat.le_of_ble_eq_true rfl) 0 0 (show 0 + 0 ≤ 0 from Nat.le_of_ble_eq_true rfl) (show 0 + 0 ≤ 0 from Nat.le_of_ble_eq_true rfl) (fun z26 v w hz => ?_)
        obtain ⟨rfl, rfl⟩ := hz
        show V E K mX8_ends (Qm E K mX8_ends (zX8_ends E q1 q6 i4 v5 i10 i11)) 0 0 [(q1, .inr (9, [.int i4, v5, .ref q6, .int i2, .int i3, .int i9, .int i10, .int i11, .int z24.2])), (q6, .inl (E.2.1, 81, .inl z26))] 59 [(0, .ref q1), (1, .int i2), (2, .int i3), (3, .int z25)] [] _
        refine V_aload_n (dX8_ends 33 rfl) 60 rfl 0 rfl ?_
        refine V_iload_n (dX8_ends 34 rfl) 61 rfl 3 rfl ?_
        refine V_callV (M := mX8_ends) (wcs := [(q1, .inr (9, [.int i4, v5, .ref q6, .int i2, .int i3, .int i9, .int i10, .int i11, .int z24.2]))]) (wr := [(q6, .inl (E.2.1, 81, .inl z26))]) mf_X8_did tw_1291 tw_1293 tw_29 ⟨Nat.le_of_ble_eq_true rfl, Nat.le_of_ble_eq_true rfl⟩ (dX8_ends 35 rfl) 64 rfl (kX8_did hs q1 i4 v5 (.ref q6) i2 i3 i9 i10 i11 z24.2 z25) rfl [0] [1] (q0 := 0) rfl rfl rfl rfl (by decide) rfl rfl rfl rfl (Nat.le_of_ble_eq_true rfl) 0 0 (show 0 + 0 ≤ 0 from Nat.le_of_ble_eq_true rfl) (show 0 + 0 ≤ 0 from Nat.le_of_ble_eq_true rfl) (fun z27 v w hz => ?_)
        obtain ⟨rfl, rfl⟩ := hz
        show V E K mX8_ends (Qm E K mX8_ends (zX8_ends E q1 q6 i4 v5 i10 i11)) 0 0 [(q6, .inl (E.2.1, 81, .inl z26)), (q1, .inr (9, [.int i4, v5, .ref q6, .int i2, .int i3, .int z27.2, .int i10, .int i11, .int z24.2]))] 64 [(0, .ref q1), (1, .int i2), (2, .int i3), (3, .int z25)] [.int z27.1] _
        refine V_world [1, 0] [(q1, .inr (9, [.int i4, v5, .ref q6, .int i2, .int i3, .int z27.2, .int i10, .int i11, .int z24.2])), (q6, .inl (E.2.1, 81, .inl z26))] rfl rfl rfl ?_
        exact V_iret rfl (dX8_ends 36 rfl) ⟨rfl, rfl⟩
      · refine V_iconst (0 : Int32) (by decide) (dX8_ends 20 rfl) 39 rfl ?_
        refine V_world [1, 0] [(q1, .inr (9, [.int i4, v5, .ref q6, .int i7, .int i8, .int i9, .int i10, .int i11, .int z24.2])), (q6, .inl (E.2.1, 81, .inl f13))] rfl rfl rfl ?_
        exact V_iret rfl (dX8_ends 21 rfl) ⟨rfl, rfl⟩
    · intro k21 hk22
      refine V_icmp_ne (dX8_ends 14 rfl) 31 (by decide) 27 rfl ?_ ?_
      · refine V_iconst (0 : Int32) (by decide) (dX8_ends 17 rfl) 32 rfl ?_
        exact hk22 (0 : Int32)
      · refine V_iconst (1 : Int32) (by decide) (dX8_ends 15 rfl) 28 rfl ?_
        refine V_goto (dX8_ends 16 rfl) 32 (by decide) ?_
        exact hk22 (1 : Int32)
  · intro k15 hk16
    refine V_jn (fun (k17 : Unit → Option (Int32 × Int32 × Int32 × Int32 × Int32 × (Nat → Int32))) => ∀ (_ : Unit), V E K mX8_ends (Qm E K mX8_ends (zX8_ends E q1 q6 i4 v5 i10 i11)) 0 0 [(q1, .inr (9, [.int i4, v5, .ref q6, .int i7, .int i8, .int i9, .int i10, .int i11, .int i12])), (q6, .inl (E.2.1, 81, .inl f13))] 17 [(0, .ref q1), (1, .int i2), (2, .int i3)] [.ref q1] (k17 ())) ?_ ?_
    · intro _
      show V E K mX8_ends (Qm E K mX8_ends (zX8_ends E q1 q6 i4 v5 i10 i11)) 0 0 [(q1, .inr (9, [.int i4, v5, .ref q6, .int i7, .int i8, .int i9, .int i10, .int i11, .int i12])), (q6, .inl (E.2.1, 81, .inl f13))] 17 [(0, .ref q1), (1, .int i2), (2, .int i3)] [.ref q1] _
      refine V_iconst (1 : Int32) (by decide) (dX8_ends 9 rfl) 18 rfl ?_
      refine V_goto (dX8_ends 10 rfl) 22 (by decide) ?_
      exact hk16 (1 : Int32)
    · intro k17 hk18
      refine V_if_eq (dX8_ends 4 rfl) 17 (by decide) 9 rfl ?_ ?_
      · refine V_world [1, 0] [(q1, .inr (9, [.int i4, v5, .ref q6, .int i7, .int i8, .int i9, .int i10, .int i11, .int i12])), (q6, .inl (E.2.1, 81, .inl f13))] rfl rfl rfl ?_
        exact hk18 ()
      · refine V_aload_n (dX8_ends 5 rfl) 10 rfl 0 rfl ?_
        refine V_iload_n (dX8_ends 6 rfl) 11 rfl 2 rfl ?_
        refine V_callV (M := mX8_ends) (wcs := [(q1, .inr (9, [.int i4, v5, .ref q6, .int i7, .int i8, .int i9, .int i10, .int i11, .int i12]))]) (wr := [(q6, .inl (E.2.1, 81, .inl f13))]) mf_X8_isPlace tw_1299 tw_1301 tw_30 ⟨Nat.le_of_ble_eq_true rfl, Nat.le_of_ble_eq_true rfl⟩ (dX8_ends 7 rfl) 14 rfl (kX8_isPlace hs q1 i4 v5 (.ref q6) i7 i8 i9 i10 i11 i12 i3) rfl [1] [0] (q0 := 0) rfl rfl rfl rfl (by decide) rfl rfl rfl rfl (Nat.le_of_ble_eq_true rfl) 0 0 (show 0 + 0 ≤ 0 from Nat.le_of_ble_eq_true rfl) (show 0 + 0 ≤ 0 from Nat.le_of_ble_eq_true rfl) (fun z19 v w hz => ?_)
        obtain ⟨rfl, rfl⟩ := hz
        show V E K mX8_ends (Qm E K mX8_ends (zX8_ends E q1 q6 i4 v5 i10 i11)) 0 0 [(q6, .inl (E.2.1, 81, .inl f13)), (q1, .inr (9, [.int i4, v5, .ref q6, .int i7, .int i8, .int i9, .int i10, .int i11, .int i12]))] 14 [(0, .ref q1), (1, .int i2), (2, .int i3)] [.int z19, .ref q1] _
        refine V_if_ne (dX8_ends 8 rfl) 21 (by decide) 17 rfl ?_ ?_
        · refine V_iconst (0 : Int32) (by decide) (dX8_ends 11 rfl) 22 rfl ?_
          refine V_world [1, 0] [(q1, .inr (9, [.int i4, v5, .ref q6, .int i7, .int i8, .int i9, .int i10, .int i11, .int i12])), (q6, .inl (E.2.1, 81, .inl f13))] rfl rfl rfl ?_
          exact hk16 (0 : Int32)
        · refine V_world [1, 0] [(q1, .inr (9, [.int i4, v5, .ref q6, .int i7, .int i8, .int i9, .int i10, .int i11, .int i12])), (q6, .inl (E.2.1, 81, .inl f13))] rfl rfl rfl ?_
          exact hk18 ())
set_option maxRecDepth 20000 in
theorem kX8_room_ {E : EX} {l : Launch} (hl : l.stackTraces = false) (q1 q6 q7 : Nat) (i5 i8 i9 i10 i11 i12 i13 : Int32) (f14 f15 : Nat → Int32) (i2 i3 i4 : Int32) : Ct E l mX8_room_ [.ref q1, .int i2, .int i3, .int i4] [(q1, .inr (9, [.int i5, .ref q6, .ref q7, .int i8, .int i9, .int i10, .int i11, .int i12, .int i13])), (q6, .inl (E.2.1, 81, .inl f14)), (q7, .inl (E.2.1, 81, .inl f15))] (fX8_room_ i5 i10 i11 f14 f15 i2 i3 i4) (zX8_room_ E q1 q6 q7 i5 i8 i9 i12 f15) := Ct_of hl mf_X8_room_.1 (Nat.le_of_ble_eq_true rfl) (fun K hs => by
  refine V_less 0 0 (Nat.le_refl _) (Nat.le_refl _) ?_
  refine V_pick [0, 1, 2, 3] [(0, .ref q1), (1, .int i2), (2, .int i3), (3, .int i4)] rfl ?_
  unfold fX8_room_
  refine V_aload_n (dX8_room_ 0 rfl) 1 rfl 0 rfl ?_
  refine V_aload_n (dX8_room_ 1 rfl) 2 rfl 0 rfl ?_
  refine V_iload_n (dX8_room_ 2 rfl) 3 rfl 1 rfl ?_
  refine V_callV (M := mX8_room_) (wcs := [(q1, .inr (9, [.int i5, .ref q6, .ref q7, .int i8, .int i9, .int i10, .int i11, .int i12, .int i13]))]) (wr := [(q6, .inl (E.2.1, 81, .inl f14)), (q7, .inl (E.2.1, 81, .inl f15))]) mf_X8_isPlace tw_1299 tw_1301 tw_30 ⟨Nat.le_of_ble_eq_true rfl, Nat.le_of_ble_eq_true rfl⟩ (dX8_room_ 3 rfl) 6 rfl (kX8_isPlace hs q1 i5 (.ref q6) (.ref q7) i8 i9 i10 i11 i12 i13 i2) rfl [0] [1, 2] (q0 := 0) rfl rfl rfl rfl (by decide) rfl rfl rfl rfl (Nat.le_of_ble_eq_true rfl) 0 0 (show 0 + 0 ≤ 0 from Nat.le_of_ble_eq_true rfl) (show 0 + 0 ≤ 0 from Nat.le_of_ble_eq_true rfl) (fun z16 v w hz => ?_)
  obtain ⟨rfl, rfl⟩ := hz
  show V E K mX8_room_ (Qm E K mX8_room_ (zX8_room_ E q1 q6 q7 i5 i8 i9 i12 f15)) 0 0 [(q6, .inl (E.2.1, 81, .inl f14)), (q7, .inl (E.2.1, 81, .inl f15)), (q1, .inr (9, [.int i5, .ref q6, .ref q7, .int i8, .int i9, .int i10, .int i11, .int i12, .int i13]))] 6 [(0, .ref q1), (1, .int i2), (2, .int i3), (3, .int i4)] [.int z16, .ref q1] _
  refine V_jn (fun (k17 : Int32 → Option (Int32 × Int32 × Int32 × Int32 × (Nat → Int32))) => ∀ (i22 : Int32), V E K mX8_room_ (Qm E K mX8_room_ (zX8_room_ E q1 q6 q7 i5 i8 i9 i12 f15)) 0 0 [(q1, .inr (9, [.int i5, .ref q6, .ref q7, .int i8, .int i9, .int i10, .int i11, .int i12, .int i13])), (q6, .inl (E.2.1, 81, .inl f14)), (q7, .inl (E.2.1, 81, .inl f15))] 22 [(0, .ref q1), (1, .int i2), (2, .int i3), (3, .int i4)] [.int i22, .ref q1] (k17 i22)) ?_ ?_
  · intro i22
    show V E K mX8_room_ (Qm E K mX8_room_ (zX8_room_ E q1 q6 q7 i5 i8 i9 i12 f15)) 0 0 [(q1, .inr (9, [.int i5, .ref q6, .ref q7, .int i8, .int i9, .int i10, .int i11, .int i12, .int i13])), (q6, .inl (E.2.1, 81, .inl f14)), (q7, .inl (E.2.1, 81, .inl f15))] 22 [(0, .ref q1), (1, .int i2), (2, .int i3), (3, .int i4)] [.int i22, .ref q1] _
    refine V_iload_n (dX8_room_ 12 rfl) 23 rfl 1 rfl ?_
    refine V_iload_n (dX8_room_ 13 rfl) 24 rfl 2 rfl ?_
    refine V_jn (fun (k23 : Int32 → Option (Int32 × Int32 × Int32 × Int32 × (Nat → Int32))) => ∀ (i28 : Int32), V E K mX8_room_ (Qm E K mX8_room_ (zX8_room_ E q1 q6 q7 i5 i8 i9 i12 f15)) 0 0 [(q1, .inr (9, [.int i5, .ref q6, .ref q7, .int i8, .int i9, .int i10, .int i11, .int i12, .int i13])), (q6, .inl (E.2.1, 81, .inl f14)), (q7, .inl (E.2.1, 81, .inl f15))] 39 [(0, .ref q1), (1, .int i2), (2, .int i3), (3, .int i4)] [.int i28, .int i22, .ref q1] (k23 i28)) ?_ ?_
    · intro i28
      show V E K mX8_room_ (Qm E K mX8_room_ (zX8_room_ E q1 q6 q7 i5 i8 i9 i12 f15)) 0 0 [(q1, .inr (9, [.int i5, .ref q6, .ref q7, .int i8, .int i9, .int i10, .int i11, .int i12, .int i13])), (q6, .inl (E.2.1, 81, .inl f14)), (q7, .inl (E.2.1, 81, .inl f15))] 39 [(0, .ref q1), (1, .int i2), (2, .int i3), (3, .int i4)] [.int i28, .int i22, .ref q1] _
      refine V_callV (M := mX8_room_) (wcs := [(q1, .inr (9, [.int i5, .ref q6, .ref q7, .int i8, .int i9, .int i10, .int i11, .int i12, .int i13]))]) (wr := [(q6, .inl (E.2.1, 81, .inl f14)), (q7, .inl (E.2.1, 81, .inl f15))]) mf_X8_isThrown tw_1287 tw_1289 tw_28 ⟨Nat.le_of_ble_eq_true rfl, Nat.le_of_ble_eq_true rfl⟩ (dX8_room_ 21 rfl) 42 rfl (kX8_isThrown hs q1 i5 (.ref q6) (.ref q7) i8 i9 i10 i11 i12 i13 i22 i28) rfl [0] [1, 2] (q0 := 0) rfl rfl rfl rfl (by decide) rfl rfl rfl rfl (Nat.le_of_ble_eq_true rfl) 0 0 (show 0 + 0 ≤ 0 from Nat.le_of_ble_eq_true rfl) (show 0 + 0 ≤ 0 from Nat.le_of_ble_eq_true rfl) (fun z29 v w hz => ?_)
      obtain ⟨rfl, rfl⟩ := hz
      show V E K mX8_room_ (Qm E K mX8_room_ (zX8_room_ E q1 q6 q7 i5 i8 i9 i12 f15)) 0 0 [(q6, .inl (E.2.1, 81, .inl f14)), (q7, .inl (E.2.1, 81, .inl f15)), (q1, .inr (9, [.int i5, .ref q6, .ref q7, .int i8, .int i9, .int i10, .int i11, .int i12, .int z29.2]))] 42 [(0, .ref q1), (1, .int i2), (2, .int i3), (3, .int i4)] [.int z29.1] _
      refine V_if_eq (dX8_room_ 22 rfl) 47 (by decide) 45 rfl ?_ ?_
      · refine V_aload_n (dX8_room_ 25 rfl) 48 rfl 0 rfl ?_
        refine V_iload_n (dX8_room_ 26 rfl) 49 rfl 1 rfl ?_
        refine V_iload_n (dX8_room_ 27 rfl) 50 rfl 2 rfl ?_
        refine V_callV (M := mX8_room_) (wcs := [(q1, .inr (9, [.int i5, .ref q6, .ref q7, .int i8, .int i9, .int i10, .int i11, .int i12, .int z29.2])), (q7, .inl (E.2.1, 81, .inl f15))]) (wr := [(q6, .inl (E.2.1, 81, .inl f14))]) mf_X8_flow tw_1322 tw_1324 tw_34 ⟨Nat.le_of_ble_eq_true rfl, Nat.le_of_ble_eq_true rfl⟩ (dX8_room_ 28 rfl) 53 rfl (kX8_flow hs q1 q7 i5 (.ref q6) i8 i9 i10 i11 i12 z29.2 f15 i2 i3) rfl [2, 1] [0] (q0 := 0) rfl rfl rfl rfl (by decide) rfl rfl rfl rfl (Nat.le_of_ble_eq_true rfl) 0 0 (show 0 + 0 ≤ 0 from Nat.le_of_ble_eq_true rfl) (show 0 + 0 ≤ 0 from Nat.le_of_ble_eq_true rfl) (fun z30 v w hz => ?_)
        obtain ⟨rfl, rfl⟩ := hz
        show V E K mX8_room_ (Qm E K mX8_room_ (zX8_room_ E q1 q6 q7 i5 i8 i9 i12 f15)) 0 0 [(q6, .inl (E.2.1, 81, .inl f14)), (q1, .inr (9, [.int i5, .ref q6, .ref q7, .int i8, .int i9, .int i10, .int i11, .int i12, .int z29.2])), (q7, .inl (E.2.1, 81, .inl f15))] 53 [(0, .ref q1), (1, .int i2), (2, .int i3), (3, .int i4)] [.int z30] _
        refine V_iload_n (dX8_room_ 29 rfl) 54 rfl 3 rfl ?_
        refine V_icmp_le (dX8_room_ 30 rfl) 62 (by decide) 57 rfl ?_ ?_
        · refine V_aload_n (dX8_room_ 34 rfl) 63 rfl 0 rfl ?_
          refine V_iload_n (dX8_room_ 35 rfl) 64 rfl 1 rfl ?_
          refine V_iload_n (dX8_room_ 36 rfl) 65 rfl 2 rfl ?_
          refine V_callV (M := mX8_room_) (wcs := [(q1, .inr (9, [.int i5, .ref q6, .ref q7, .int i8, .int i9, .int i10, .int i11, .int i12, .int z29.2])), (q6, .inl (E.2.1, 81, .inl f14))]) (wr := [(q7, .inl (E.2.1, 81, .inl f15))]) mf_X8_room tw_1330 tw_1332 tw_36 ⟨Nat.le_of_ble_eq_true rfl, Nat.le_of_ble_eq_true rfl⟩ (dX8_room_ 37 rfl) 68 rfl (kX8_room hs q1 q6 i5 (.ref q7) i8 i9 i10 i11 i12 z29.2 f14 i2 i3) rfl [1, 0] [2] (q0 := 0) rfl rfl rfl rfl (by decide) rfl rfl rfl rfl (Nat.le_of_ble_eq_true rfl) 0 0 (show 0 + 0 ≤ 0 from Nat.le_of_ble_eq_true rfl) (show 0 + 0 ≤ 0 from Nat.le_of_ble_eq_true rfl) (fun z31 v w hz => ?_)
          obtain ⟨rfl, rfl⟩ := hz
          show V E K mX8_room_ (Qm E K mX8_room_ (zX8_room_ E q1 q6 q7 i5 i8 i9 i12 f15)) 0 0 [(q7, .inl (E.2.1, 81, .inl f15)), (q1, .inr (9, [.int i5, .ref q6, .ref q7, .int i8, .int i9, .int i10, .int i11, .int i12, .int z29.2])), (q6, .inl (E.2.1, 81, .inl f14))] 68 [(0, .ref q1), (1, .int i2), (2, .int i3), (3, .int i4)] [.int z31] _
          refine V_istore (dX8_room_ 38 rfl) 70 rfl [(0, .ref q1), (1, .int i2), (2, .int i3), (3, .int i4), (4, .int z31)] (Nat.le_of_ble_eq_true rfl) rfl ?_
          refine V_aload_n (dX8_room_ 39 rfl) 71 rfl 0 rfl ?_
          refine V_get gf_M_20 1 rfl rfl (dX8_room_ 40 rfl) 74 rfl ?_
          refine V_iload_n (dX8_room_ 41 rfl) 75 rfl 1 rfl ?_
          refine V_bipush (9 : Int32) (by decide) (dX8_room_ 42 rfl) 77 rfl ?_
          refine V_imul (dX8_room_ 43 rfl) 78 rfl ?_
          refine V_iload_n (dX8_room_ 44 rfl) 79 rfl 2 rfl ?_
          refine V_iadd (dX8_room_ 45 rfl) 80 rfl ?_
          refine V_iload_n (dX8_room_ 46 rfl) 81 rfl 3 rfl ?_
          refine V_iast 2 rfl (dX8_room_ 47 rfl) 82 rfl [(q7, .inl (E.2.1, 81, .inl f15)), (q1, .inr (9, [.int i5, .ref q6, .ref q7, .int i8, .int i9, .int i10, .int i11, .int i12, .int z29.2])), (q6, .inl (E.2.1, 81, .inl (upd f14 ((i2 * (9 : Int32)) + i3).toNatClampNeg i4)))] rfl ?_
          refine V_aload_n (dX8_room_ 48 rfl) 83 rfl 0 rfl ?_
          refine V_iload (dX8_room_ 49 rfl) 85 rfl 4 rfl ?_
          refine V_callV (M := mX8_room_) (wcs := [(q1, .inr (9, [.int i5, .ref q6, .ref q7, .int i8, .int i9, .int i10, .int i11, .int i12, .int z29.2]))]) (wr := [(q7, .inl (E.2.1, 81, .inl f15)), (q6, .inl (E.2.1, 81, .inl (upd f14 ((i2 * (9 : Int32)) + i3).toNatClampNeg i4)))]) mf_X8_did tw_1291 tw_1293 tw_29 ⟨Nat.le_of_ble_eq_true rfl, Nat.le_of_ble_eq_true rfl⟩ (dX8_room_ 50 rfl) 88 rfl (kX8_did hs q1 i5 (.ref q6) (.ref q7) i8 i9 i10 i11 i12 z29.2 z31) rfl [1] [0, 2] (q0 := 0) rfl rfl rfl rfl (by decide) rfl rfl rfl rfl (Nat.le_of_ble_eq_true rfl) 0 0 (show 0 + 0 ≤ 0 from Nat.le_of_ble_eq_true rfl) (show 0 + 0 ≤ 0 from Nat.le_of_ble_eq_true rfl) (fun z32 v w hz => ?_)
          obtain ⟨rfl, rfl⟩ := hz
          show V E K mX8_room_ (Qm E K mX8_room_ (zX8_room_ E q1 q6 q7 i5 i8 i9 i12 f15)) 0 0 [(q7, .inl (E.2.1, 81, .inl f15)), (q6, .inl (E.2.1, 81, .inl (upd f14 ((i2 * (9 : Int32)) + i3).toNatClampNeg i4))), (q1, .inr (9, [.int i5, .ref q6, .ref q7, .int i8, .int i9, .int z32.2, .int i11, .int i12, .int z29.2]))] 88 [(0, .ref q1), (1, .int i2), (2, .int i3), (3, .int i4), (4, .int z31)] [.int z32.1] _
          refine V_world [2, 1, 0] [(q1, .inr (9, [.int i5, .ref q6, .ref q7, .int i8, .int i9, .int z32.2, .int i11, .int i12, .int z29.2])), (q6, .inl (E.2.1, 81, .inl (upd f14 ((i2 * (9 : Int32)) + i3).toNatClampNeg i4))), (q7, .inl (E.2.1, 81, .inl f15))] rfl rfl rfl ?_
          exact V_iret rfl (dX8_room_ 51 rfl) ⟨rfl, rfl⟩
        · refine V_aload_n (dX8_room_ 31 rfl) 58 rfl 0 rfl ?_
          refine V_callV (M := mX8_room_) (wcs := [(q1, .inr (9, [.int i5, .ref q6, .ref q7, .int i8, .int i9, .int i10, .int i11, .int i12, .int z29.2]))]) (wr := [(q6, .inl (E.2.1, 81, .inl f14)), (q7, .inl (E.2.1, 81, .inl f15))]) mf_X8_no tw_1326 tw_1328 tw_35 ⟨Nat.le_of_ble_eq_true rfl, Nat.le_of_ble_eq_true rfl⟩ (dX8_room_ 32 rfl) 61 rfl (kX8_no hs q1 i5 (.ref q6) (.ref q7) i8 i9 i10 i11 i12 z29.2) rfl [1] [0, 2] (q0 := 0) rfl rfl rfl rfl (by decide) rfl rfl rfl rfl (Nat.le_of_ble_eq_true rfl) 0 0 (show 0 + 0 ≤ 0 from Nat.le_of_ble_eq_true rfl) (show 0 + 0 ≤ 0 from Nat.le_of_ble_eq_true rfl) (fun z33 v w hz => ?_)
          obtain ⟨rfl, rfl⟩ := hz
          show V E K mX8_room_ (Qm E K mX8_room_ (zX8_room_ E q1 q6 q7 i5 i8 i9 i12 f15)) 0 0 [(q6, .inl (E.2.1, 81, .inl f14)), (q7, .inl (E.2.1, 81, .inl f15)), (q1, .inr (9, [.int i5, .ref q6, .ref q7, .int i8, .int i9, .int i10, .int z33, .int i12, .int z29.2]))] 61 [(0, .ref q1), (1, .int i2), (2, .int i3), (3, .int i4)] [.int (-9 : Int32)] _
          refine V_world [2, 0, 1] [(q1, .inr (9, [.int i5, .ref q6, .ref q7, .int i8, .int i9, .int i10, .int z33, .int i12, .int z29.2])), (q6, .inl (E.2.1, 81, .inl f14)), (q7, .inl (E.2.1, 81, .inl f15))] rfl rfl rfl ?_
          exact V_iret rfl (dX8_room_ 33 rfl) ⟨rfl, rfl⟩
      · refine V_iconst (0 : Int32) (by decide) (dX8_room_ 23 rfl) 46 rfl ?_
        refine V_world [2, 0, 1] [(q1, .inr (9, [.int i5, .ref q6, .ref q7, .int i8, .int i9, .int i10, .int i11, .int i12, .int z29.2])), (q6, .inl (E.2.1, 81, .inl f14)), (q7, .inl (E.2.1, 81, .inl f15))] rfl rfl rfl ?_
        exact V_iret rfl (dX8_room_ 24 rfl) ⟨rfl, rfl⟩
    · intro k23 hk24
      refine V_jn (fun (k25 : Unit → Option (Int32 × Int32 × Int32 × Int32 × (Nat → Int32))) => ∀ (_ : Unit), V E K mX8_room_ (Qm E K mX8_room_ (zX8_room_ E q1 q6 q7 i5 i8 i9 i12 f15)) 0 0 [(q1, .inr (9, [.int i5, .ref q6, .ref q7, .int i8, .int i9, .int i10, .int i11, .int i12, .int i13])), (q6, .inl (E.2.1, 81, .inl f14)), (q7, .inl (E.2.1, 81, .inl f15))] 34 [(0, .ref q1), (1, .int i2), (2, .int i3), (3, .int i4)] [.int i22, .ref q1] (k25 ())) ?_ ?_
      · intro _
        show V E K mX8_room_ (Qm E K mX8_room_ (zX8_room_ E q1 q6 q7 i5 i8 i9 i12 f15)) 0 0 [(q1, .inr (9, [.int i5, .ref q6, .ref q7, .int i8, .int i9, .int i10, .int i11, .int i12, .int i13])), (q6, .inl (E.2.1, 81, .inl f14)), (q7, .inl (E.2.1, 81, .inl f15))] 34 [(0, .ref q1), (1, .int i2), (2, .int i3), (3, .int i4)] [.int i22, .ref q1] _
        refine V_iconst (1 : Int32) (by decide) (dX8_room_ 18 rfl) 35 rfl ?_
        refine V_goto (dX8_room_ 19 rfl) 39 (by decide) ?_
        exact hk24 (1 : Int32)
      · intro k25 hk26
        refine V_icmp_eq (dX8_room_ 14 rfl) 34 (by decide) 27 rfl ?_ ?_
        · exact hk26 ()
        · refine V_iload_n (dX8_room_ 15 rfl) 28 rfl 3 rfl ?_
          refine V_callS (M := mX8_room_) (wcs := []) (wr := [(q1, .inr (9, [.int i5, .ref q6, .ref q7, .int i8, .int i9, .int i10, .int i11, .int i12, .int i13])), (q6, .inl (E.2.1, 81, .inl f14)), (q7, .inl (E.2.1, 81, .inl f15))]) mf_X8_isRoom tw_1319 tw_1320 ⟨Nat.le_of_ble_eq_true rfl, Nat.le_of_ble_eq_true rfl⟩ (dX8_room_ 16 rfl) 31 rfl (kX8_isRoom hs i4) rfl [] [0, 1, 2] rfl rfl rfl rfl (by decide) rfl (Nat.le_of_ble_eq_true rfl) 0 0 (show 0 + 0 ≤ 0 from Nat.le_of_ble_eq_true rfl) (show 0 + 0 ≤ 0 from Nat.le_of_ble_eq_true rfl) (fun z27 v w hz => ?_)
          obtain ⟨rfl, rfl⟩ := hz
          show V E K mX8_room_ (Qm E K mX8_room_ (zX8_room_ E q1 q6 q7 i5 i8 i9 i12 f15)) 0 0 [(q1, .inr (9, [.int i5, .ref q6, .ref q7, .int i8, .int i9, .int i10, .int i11, .int i12, .int i13])), (q6, .inl (E.2.1, 81, .inl f14)), (q7, .inl (E.2.1, 81, .inl f15))] 31 [(0, .ref q1), (1, .int i2), (2, .int i3), (3, .int i4)] [.int z27, .int i22, .ref q1] _
          refine V_if_ne (dX8_room_ 17 rfl) 38 (by decide) 34 rfl ?_ ?_
          · refine V_iconst (0 : Int32) (by decide) (dX8_room_ 20 rfl) 39 rfl ?_
            exact hk24 (0 : Int32)
          · exact hk26 ()
  · intro k17 hk18
    refine V_jn (fun (k19 : Unit → Option (Int32 × Int32 × Int32 × Int32 × (Nat → Int32))) => ∀ (_ : Unit), V E K mX8_room_ (Qm E K mX8_room_ (zX8_room_ E q1 q6 q7 i5 i8 i9 i12 f15)) 0 0 [(q1, .inr (9, [.int i5, .ref q6, .ref q7, .int i8, .int i9, .int i10, .int i11, .int i12, .int i13])), (q6, .inl (E.2.1, 81, .inl f14)), (q7, .inl (E.2.1, 81, .inl f15))] 17 [(0, .ref q1), (1, .int i2), (2, .int i3), (3, .int i4)] [.ref q1] (k19 ())) ?_ ?_
    · intro _
      show V E K mX8_room_ (Qm E K mX8_room_ (zX8_room_ E q1 q6 q7 i5 i8 i9 i12 f15)) 0 0 [(q1, .inr (9, [.int i5, .ref q6, .ref q7, .int i8, .int i9, .int i10, .int i11, .int i12, .int i13])), (q6, .inl (E.2.1, 81, .inl f14)), (q7, .inl (E.2.1, 81, .inl f15))] 17 [(0, .ref q1), (1, .int i2), (2, .int i3), (3, .int i4)] [.ref q1] _
      refine V_iconst (1 : Int32) (by decide) (dX8_room_ 9 rfl) 18 rfl ?_
      refine V_goto (dX8_room_ 10 rfl) 22 (by decide) ?_
      exact hk18 (1 : Int32)
    · intro k19 hk20
      refine V_if_eq (dX8_room_ 4 rfl) 17 (by decide) 9 rfl ?_ ?_
      · refine V_world [2, 0, 1] [(q1, .inr (9, [.int i5, .ref q6, .ref q7, .int i8, .int i9, .int i10, .int i11, .int i12, .int i13])), (q6, .inl (E.2.1, 81, .inl f14)), (q7, .inl (E.2.1, 81, .inl f15))] rfl rfl rfl ?_
        exact hk20 ()
      · refine V_aload_n (dX8_room_ 5 rfl) 10 rfl 0 rfl ?_
        refine V_iload_n (dX8_room_ 6 rfl) 11 rfl 2 rfl ?_
        refine V_callV (M := mX8_room_) (wcs := [(q1, .inr (9, [.int i5, .ref q6, .ref q7, .int i8, .int i9, .int i10, .int i11, .int i12, .int i13]))]) (wr := [(q6, .inl (E.2.1, 81, .inl f14)), (q7, .inl (E.2.1, 81, .inl f15))]) mf_X8_isPlace tw_1299 tw_1301 tw_30 ⟨Nat.le_of_ble_eq_true rfl, Nat.le_of_ble_eq_true rfl⟩ (dX8_room_ 7 rfl) 14 rfl (kX8_isPlace hs q1 i5 (.ref q6) (.ref q7) i8 i9 i10 i11 i12 i13 i3) rfl [2] [0, 1] (q0 := 0) rfl rfl rfl rfl (by decide) rfl rfl rfl rfl (Nat.le_of_ble_eq_true rfl) 0 0 (show 0 + 0 ≤ 0 from Nat.le_of_ble_eq_true rfl) (show 0 + 0 ≤ 0 from Nat.le_of_ble_eq_true rfl) (fun z21 v w hz => ?_)
        obtain ⟨rfl, rfl⟩ := hz
        show V E K mX8_room_ (Qm E K mX8_room_ (zX8_room_ E q1 q6 q7 i5 i8 i9 i12 f15)) 0 0 [(q6, .inl (E.2.1, 81, .inl f14)), (q7, .inl (E.2.1, 81, .inl f15)), (q1, .inr (9, [.int i5, .ref q6, .ref q7, .int i8, .int i9, .int i10, .int i11, .int i12, .int i13]))] 14 [(0, .ref q1), (1, .int i2), (2, .int i3), (3, .int i4)] [.int z21, .ref q1] _
        refine V_if_ne (dX8_room_ 8 rfl) 21 (by decide) 17 rfl ?_ ?_
        · refine V_iconst (0 : Int32) (by decide) (dX8_room_ 11 rfl) 22 rfl ?_
          refine V_world [2, 0, 1] [(q1, .inr (9, [.int i5, .ref q6, .ref q7, .int i8, .int i9, .int i10, .int i11, .int i12, .int i13])), (q6, .inl (E.2.1, 81, .inl f14)), (q7, .inl (E.2.1, 81, .inl f15))] rfl rfl rfl ?_
          exact hk18 (0 : Int32)
        · refine V_world [2, 0, 1] [(q1, .inr (9, [.int i5, .ref q6, .ref q7, .int i8, .int i9, .int i10, .int i11, .int i12, .int i13])), (q6, .inl (E.2.1, 81, .inl f14)), (q7, .inl (E.2.1, 81, .inl f15))] rfl rfl rfl ?_
          exact hk20 ())
set_option maxRecDepth 20000 in
theorem kX8_widen {E : EX} {l : Launch} (hl : l.stackTraces = false) (q1 q6 q7 : Nat) (i5 i8 i9 i10 i11 i12 i13 : Int32) (f14 f15 : Nat → Int32) (i2 i3 i4 : Int32) : Ct E l mX8_widen [.ref q1, .int i2, .int i3, .int i4] [(q1, .inr (9, [.int i5, .ref q6, .ref q7, .int i8, .int i9, .int i10, .int i11, .int i12, .int i13])), (q6, .inl (E.2.1, 81, .inl f14)), (q7, .inl (E.2.1, 81, .inl f15))] (fX8_widen i5 i10 i11 f14 f15 i2 i3 i4) (zX8_widen E q1 q6 q7 i5 i8 i9 i12 f15) := Ct_of hl mf_X8_widen.1 (Nat.le_of_ble_eq_true rfl) (fun K hs => by
  refine V_less 0 0 (Nat.le_refl _) (Nat.le_refl _) ?_
  refine V_pick [0, 1, 2, 3] [(0, .ref q1), (1, .int i2), (2, .int i3), (3, .int i4)] rfl ?_
  unfold fX8_widen
  refine V_aload_n (dX8_widen 0 rfl) 1 rfl 0 rfl ?_
  refine V_aload_n (dX8_widen 1 rfl) 2 rfl 0 rfl ?_
  refine V_iload_n (dX8_widen 2 rfl) 3 rfl 1 rfl ?_
  refine V_callV (M := mX8_widen) (wcs := [(q1, .inr (9, [.int i5, .ref q6, .ref q7, .int i8, .int i9, .int i10, .int i11, .int i12, .int i13]))]) (wr := [(q6, .inl (E.2.1, 81, .inl f14)), (q7, .inl (E.2.1, 81, .inl f15))]) mf_X8_isPlace tw_1299 tw_1301 tw_30 ⟨Nat.le_of_ble_eq_true rfl, Nat.le_of_ble_eq_true rfl⟩ (dX8_widen 3 rfl) 6 rfl (kX8_isPlace hs q1 i5 (.ref q6) (.ref q7) i8 i9 i10 i11 i12 i13 i2) rfl [0] [1, 2] (q0 := 0) rfl rfl rfl rfl (by decide) rfl rfl rfl rfl (Nat.le_of_ble_eq_true rfl) 0 0 (show 0 + 0 ≤ 0 from Nat.le_of_ble_eq_true rfl) (show 0 + 0 ≤ 0 from Nat.le_of_ble_eq_true rfl) (fun z16 v w hz => ?_)
  obtain ⟨rfl, rfl⟩ := hz
  show V E K mX8_widen (Qm E K mX8_widen (zX8_widen E q1 q6 q7 i5 i8 i9 i12 f15)) 0 0 [(q6, .inl (E.2.1, 81, .inl f14)), (q7, .inl (E.2.1, 81, .inl f15)), (q1, .inr (9, [.int i5, .ref q6, .ref q7, .int i8, .int i9, .int i10, .int i11, .int i12, .int i13]))] 6 [(0, .ref q1), (1, .int i2), (2, .int i3), (3, .int i4)] [.int z16, .ref q1] _
  refine V_jn (fun (k17 : Int32 → Option (Int32 × Int32 × Int32 × Int32 × (Nat → Int32))) => ∀ (i22 : Int32), V E K mX8_widen (Qm E K mX8_widen (zX8_widen E q1 q6 q7 i5 i8 i9 i12 f15)) 0 0 [(q1, .inr (9, [.int i5, .ref q6, .ref q7, .int i8, .int i9, .int i10, .int i11, .int i12, .int i13])), (q6, .inl (E.2.1, 81, .inl f14)), (q7, .inl (E.2.1, 81, .inl f15))] 22 [(0, .ref q1), (1, .int i2), (2, .int i3), (3, .int i4)] [.int i22, .ref q1] (k17 i22)) ?_ ?_
  · intro i22
    show V E K mX8_widen (Qm E K mX8_widen (zX8_widen E q1 q6 q7 i5 i8 i9 i12 f15)) 0 0 [(q1, .inr (9, [.int i5, .ref q6, .ref q7, .int i8, .int i9, .int i10, .int i11, .int i12, .int i13])), (q6, .inl (E.2.1, 81, .inl f14)), (q7, .inl (E.2.1, 81, .inl f15))] 22 [(0, .ref q1), (1, .int i2), (2, .int i3), (3, .int i4)] [.int i22, .ref q1] _
    refine V_iload_n (dX8_widen 12 rfl) 23 rfl 1 rfl ?_
    refine V_iload_n (dX8_widen 13 rfl) 24 rfl 2 rfl ?_
    refine V_jn (fun (k23 : Int32 → Option (Int32 × Int32 × Int32 × Int32 × (Nat → Int32))) => ∀ (i27 : Int32), V E K mX8_widen (Qm E K mX8_widen (zX8_widen E q1 q6 q7 i5 i8 i9 i12 f15)) 0 0 [(q1, .inr (9, [.int i5, .ref q6, .ref q7, .int i8, .int i9, .int i10, .int i11, .int i12, .int i13])), (q6, .inl (E.2.1, 81, .inl f14)), (q7, .inl (E.2.1, 81, .inl f15))] 44 [(0, .ref q1), (1, .int i2), (2, .int i3), (3, .int i4)] [.int i27, .int i22, .ref q1] (k23 i27)) ?_ ?_
    · intro i27
      show V E K mX8_widen (Qm E K mX8_widen (zX8_widen E q1 q6 q7 i5 i8 i9 i12 f15)) 0 0 [(q1, .inr (9, [.int i5, .ref q6, .ref q7, .int i8, .int i9, .int i10, .int i11, .int i12, .int i13])), (q6, .inl (E.2.1, 81, .inl f14)), (q7, .inl (E.2.1, 81, .inl f15))] 44 [(0, .ref q1), (1, .int i2), (2, .int i3), (3, .int i4)] [.int i27, .int i22, .ref q1] _
      refine V_callV (M := mX8_widen) (wcs := [(q1, .inr (9, [.int i5, .ref q6, .ref q7, .int i8, .int i9, .int i10, .int i11, .int i12, .int i13]))]) (wr := [(q6, .inl (E.2.1, 81, .inl f14)), (q7, .inl (E.2.1, 81, .inl f15))]) mf_X8_isThrown tw_1287 tw_1289 tw_28 ⟨Nat.le_of_ble_eq_true rfl, Nat.le_of_ble_eq_true rfl⟩ (dX8_widen 24 rfl) 47 rfl (kX8_isThrown hs q1 i5 (.ref q6) (.ref q7) i8 i9 i10 i11 i12 i13 i22 i27) rfl [0] [1, 2] (q0 := 0) rfl rfl rfl rfl (by decide) rfl rfl rfl rfl (Nat.le_of_ble_eq_true rfl) 0 0 (show 0 + 0 ≤ 0 from Nat.le_of_ble_eq_true rfl) (show 0 + 0 ≤ 0 from Nat.le_of_ble_eq_true rfl) (fun z28 v w hz => ?_)
      obtain ⟨rfl, rfl⟩ := hz
      show V E K mX8_widen (Qm E K mX8_widen (zX8_widen E q1 q6 q7 i5 i8 i9 i12 f15)) 0 0 [(q6, .inl (E.2.1, 81, .inl f14)), (q7, .inl (E.2.1, 81, .inl f15)), (q1, .inr (9, [.int i5, .ref q6, .ref q7, .int i8, .int i9, .int i10, .int i11, .int i12, .int z28.2]))] 47 [(0, .ref q1), (1, .int i2), (2, .int i3), (3, .int i4)] [.int z28.1] _
      refine V_if_eq (dX8_widen 25 rfl) 52 (by decide) 50 rfl ?_ ?_
      · refine V_aload_n (dX8_widen 28 rfl) 53 rfl 0 rfl ?_
        refine V_iload_n (dX8_widen 29 rfl) 54 rfl 1 rfl ?_
        refine V_iload_n (dX8_widen 30 rfl) 55 rfl 2 rfl ?_
        refine V_callV (M := mX8_widen) (wcs := [(q1, .inr (9, [.int i5, .ref q6, .ref q7, .int i8, .int i9, .int i10, .int i11, .int i12, .int z28.2])), (q6, .inl (E.2.1, 81, .inl f14))]) (wr := [(q7, .inl (E.2.1, 81, .inl f15))]) mf_X8_room tw_1330 tw_1332 tw_36 ⟨Nat.le_of_ble_eq_true rfl, Nat.le_of_ble_eq_true rfl⟩ (dX8_widen 31 rfl) 58 rfl (kX8_room hs q1 q6 i5 (.ref q7) i8 i9 i10 i11 i12 z28.2 f14 i2 i3) rfl [2, 0] [1] (q0 := 0) rfl rfl rfl rfl (by decide) rfl rfl rfl rfl (Nat.le_of_ble_eq_true rfl) 0 0 (show 0 + 0 ≤ 0 from Nat.le_of_ble_eq_true rfl) (show 0 + 0 ≤ 0 from Nat.le_of_ble_eq_true rfl) (fun z29 v w hz => ?_)
        obtain ⟨rfl, rfl⟩ := hz
        show V E K mX8_widen (Qm E K mX8_widen (zX8_widen E q1 q6 q7 i5 i8 i9 i12 f15)) 0 0 [(q7, .inl (E.2.1, 81, .inl f15)), (q1, .inr (9, [.int i5, .ref q6, .ref q7, .int i8, .int i9, .int i10, .int i11, .int i12, .int z28.2])), (q6, .inl (E.2.1, 81, .inl f14))] 58 [(0, .ref q1), (1, .int i2), (2, .int i3), (3, .int i4)] [.int z29] _
        refine V_iload_n (dX8_widen 32 rfl) 59 rfl 3 rfl ?_
        refine V_iadd (dX8_widen 33 rfl) 60 rfl ?_
        refine V_nmI (fun i30 => ?_)
        refine V_istore (dX8_widen 34 rfl) 62 rfl [(0, .ref q1), (1, .int i2), (2, .int i3), (3, .int i4), (4, .int i30)] (Nat.le_of_ble_eq_true rfl) rfl ?_
        refine V_iload (dX8_widen 35 rfl) 64 rfl 4 rfl ?_
        refine V_callS (M := mX8_widen) (wcs := []) (wr := [(q7, .inl (E.2.1, 81, .inl f15)), (q1, .inr (9, [.int i5, .ref q6, .ref q7, .int i8, .int i9, .int i10, .int i11, .int i12, .int z28.2])), (q6, .inl (E.2.1, 81, .inl f14))]) mf_X8_isRoom tw_1319 tw_1320 ⟨Nat.le_of_ble_eq_true rfl, Nat.le_of_ble_eq_true rfl⟩ (dX8_widen 36 rfl) 67 rfl (kX8_isRoom hs i30) rfl [] [0, 1, 2] rfl rfl rfl rfl (by decide) rfl (Nat.le_of_ble_eq_true rfl) 0 0 (show 0 + 0 ≤ 0 from Nat.le_of_ble_eq_true rfl) (show 0 + 0 ≤ 0 from Nat.le_of_ble_eq_true rfl) (fun z31 v w hz => ?_)
        obtain ⟨rfl, rfl⟩ := hz
        show V E K mX8_widen (Qm E K mX8_widen (zX8_widen E q1 q6 q7 i5 i8 i9 i12 f15)) 0 0 [(q7, .inl (E.2.1, 81, .inl f15)), (q1, .inr (9, [.int i5, .ref q6, .ref q7, .int i8, .int i9, .int i10, .int i11, .int i12, .int z28.2])), (q6, .inl (E.2.1, 81, .inl f14))] 67 [(0, .ref q1), (1, .int i2), (2, .int i3), (3, .int i4), (4, .int i30)] [.int z31] _
        refine V_jn (fun (k32 : Unit → Option (Int32 × Int32 × Int32 × Int32 × (Nat → Int32))) => ∀ (_ : Unit), V E K mX8_widen (Qm E K mX8_widen (zX8_widen E q1 q6 q7 i5 i8 i9 i12 f15)) 0 0 [(q1, .inr (9, [.int i5, .ref q6, .ref q7, .int i8, .int i9, .int i10, .int i11, .int i12, .int z28.2])), (q6, .inl (E.2.1, 81, .inl f14)), (q7, .inl (E.2.1, 81, .inl f15))] 81 [(0, .ref q1)] [] (k32 ())) ?_ ?_
        · intro _
          show V E K mX8_widen (Qm E K mX8_widen (zX8_widen E q1 q6 q7 i5 i8 i9 i12 f15)) 0 0 [(q1, .inr (9, [.int i5, .ref q6, .ref q7, .int i8, .int i9, .int i10, .int i11, .int i12, .int z28.2])), (q6, .inl (E.2.1, 81, .inl f14)), (q7, .inl (E.2.1, 81, .inl f15))] 81 [(0, .ref q1)] [] _
          refine V_aload_n (dX8_widen 44 rfl) 82 rfl 0 rfl ?_
          refine V_callV (M := mX8_widen) (wcs := [(q1, .inr (9, [.int i5, .ref q6, .ref q7, .int i8, .int i9, .int i10, .int i11, .int i12, .int z28.2]))]) (wr := [(q6, .inl (E.2.1, 81, .inl f14)), (q7, .inl (E.2.1, 81, .inl f15))]) mf_X8_no tw_1326 tw_1328 tw_35 ⟨Nat.le_of_ble_eq_true rfl, Nat.le_of_ble_eq_true rfl⟩ (dX8_widen 45 rfl) 85 rfl (kX8_no hs q1 i5 (.ref q6) (.ref q7) i8 i9 i10 i11 i12 z28.2) rfl [0] [1, 2] (q0 := 0) rfl rfl rfl rfl (by decide) rfl rfl rfl rfl (Nat.le_of_ble_eq_true rfl) 0 0 (show 0 + 0 ≤ 0 from Nat.le_of_ble_eq_true rfl) (show 0 + 0 ≤ 0 from Nat.le_of_ble_eq_true rfl) (fun z36 v w hz => ?_)
          obtain ⟨rfl, rfl⟩ := hz
          show V E K mX8_widen (Qm E K mX8_widen (zX8_widen E q1 q6 q7 i5 i8 i9 i12 f15)) 0 0 [(q6, .inl (E.2.1, 81, .inl f14)), (q7, .inl (E.2.1, 81, .inl f15)), (q1, .inr (9, [.int i5, .ref q6, .ref q7, .int i8, .int i9, .int i10, .int z36, .int i12, .int z28.2]))] 85 [(0, .ref q1)] [.int (-9 : Int32)] _
          refine V_world [2, 0, 1] [(q1, .inr (9, [.int i5, .ref q6, .ref q7, .int i8, .int i9, .int i10, .int z36, .int i12, .int z28.2])), (q6, .inl (E.2.1, 81, .inl f14)), (q7, .inl (E.2.1, 81, .inl f15))] rfl rfl rfl ?_
          exact V_iret rfl (dX8_widen 46 rfl) ⟨rfl, rfl⟩
        · intro k32 hk33
          refine V_if_eq (dX8_widen 37 rfl) 81 (by decide) 70 rfl ?_ ?_
          · refine V_world [1, 2, 0] [(q1, .inr (9, [.int i5, .ref q6, .ref q7, .int i8, .int i9, .int i10, .int i11, .int i12, .int z28.2])), (q6, .inl (E.2.1, 81, .inl f14)), (q7, .inl (E.2.1, 81, .inl f15))] rfl rfl rfl ?_
            refine V_pick [0] [(0, .ref q1)] rfl ?_
            exact hk33 ()
          · refine V_aload_n (dX8_widen 38 rfl) 71 rfl 0 rfl ?_
            refine V_iload_n (dX8_widen 39 rfl) 72 rfl 1 rfl ?_
            refine V_iload_n (dX8_widen 40 rfl) 73 rfl 2 rfl ?_
            refine V_callV (M := mX8_widen) (wcs := [(q1, .inr (9, [.int i5, .ref q6, .ref q7, .int i8, .int i9, .int i10, .int i11, .int i12, .int z28.2])), (q7, .inl (E.2.1, 81, .inl f15))]) (wr := [(q6, .inl (E.2.1, 81, .inl f14))]) mf_X8_flow tw_1322 tw_1324 tw_34 ⟨Nat.le_of_ble_eq_true rfl, Nat.le_of_ble_eq_true rfl⟩ (dX8_widen 41 rfl) 76 rfl (kX8_flow hs q1 q7 i5 (.ref q6) i8 i9 i10 i11 i12 z28.2 f15 i2 i3) rfl [1, 0] [2] (q0 := 0) rfl rfl rfl rfl (by decide) rfl rfl rfl rfl (Nat.le_of_ble_eq_true rfl) 0 0 (show 0 + 0 ≤ 0 from Nat.le_of_ble_eq_true rfl) (show 0 + 0 ≤ 0 from Nat.le_of_ble_eq_true rfl) (fun z34 v w hz => ?_)
            obtain ⟨rfl, rfl⟩ := hz
            show V E K mX8_widen (Qm E K mX8_widen (zX8_widen E q1 q6 q7 i5 i8 i9 i12 f15)) 0 0 [(q6, .inl (E.2.1, 81, .inl f14)), (q1, .inr (9, [.int i5, .ref q6, .ref q7, .int i8, .int i9, .int i10, .int i11, .int i12, .int z28.2])), (q7, .inl (E.2.1, 81, .inl f15))] 76 [(0, .ref q1), (1, .int i2), (2, .int i3), (3, .int i4), (4, .int i30)] [.int z34] _
            refine V_iload (dX8_widen 42 rfl) 78 rfl 4 rfl ?_
            refine V_icmp_le (dX8_widen 43 rfl) 86 (by decide) 81 rfl ?_ ?_
            · refine V_aload_n (dX8_widen 47 rfl) 87 rfl 0 rfl ?_
              refine V_get gf_M_20 1 rfl rfl (dX8_widen 48 rfl) 90 rfl ?_
              refine V_iload_n (dX8_widen 49 rfl) 91 rfl 1 rfl ?_
              refine V_bipush (9 : Int32) (by decide) (dX8_widen 50 rfl) 93 rfl ?_
              refine V_imul (dX8_widen 51 rfl) 94 rfl ?_
              refine V_iload_n (dX8_widen 52 rfl) 95 rfl 2 rfl ?_
              refine V_iadd (dX8_widen 53 rfl) 96 rfl ?_
              refine V_iload (dX8_widen 54 rfl) 98 rfl 4 rfl ?_
              refine V_iast 0 rfl (dX8_widen 55 rfl) 99 rfl [(q6, .inl (E.2.1, 81, .inl (upd f14 ((i2 * (9 : Int32)) + i3).toNatClampNeg i30))), (q1, .inr (9, [.int i5, .ref q6, .ref q7, .int i8, .int i9, .int i10, .int i11, .int i12, .int z28.2])), (q7, .inl (E.2.1, 81, .inl f15))] rfl ?_
              refine V_aload_n (dX8_widen 56 rfl) 100 rfl 0 rfl ?_
              refine V_iload (dX8_widen 57 rfl) 102 rfl 4 rfl ?_
              refine V_callV (M := mX8_widen) (wcs := [(q1, .inr (9, [.int i5, .ref q6, .ref q7, .int i8, .int i9, .int i10, .int i11, .int i12, .int z28.2]))]) (wr := [(q6, .inl (E.2.1, 81, .inl (upd f14 ((i2 * (9 : Int32)) + i3).toNatClampNeg i30))), (q7, .inl (E.2.1, 81, .inl f15))]) mf_X8_did tw_1291 tw_1293 tw_29 ⟨Nat.le_of_ble_eq_true rfl, Nat.le_of_ble_eq_true rfl⟩ (dX8_widen 58 rfl) 105 rfl (kX8_did hs q1 i5 (.ref q6) (.ref q7) i8 i9 i10 i11 i12 z28.2 i30) rfl [1] [0, 2] (q0 := 0) rfl rfl rfl rfl (by decide) rfl rfl rfl rfl (Nat.le_of_ble_eq_true rfl) 0 0 (show 0 + 0 ≤ 0 from Nat.le_of_ble_eq_true rfl) (show 0 + 0 ≤ 0 from Nat.le_of_ble_eq_true rfl) (fun z35 v w hz => ?_)
              obtain ⟨rfl, rfl⟩ := hz
              show V E K mX8_widen (Qm E K mX8_widen (zX8_widen E q1 q6 q7 i5 i8 i9 i12 f15)) 0 0 [(q6, .inl (E.2.1, 81, .inl (upd f14 ((i2 * (9 : Int32)) + i3).toNatClampNeg i30))), (q7, .inl (E.2.1, 81, .inl f15)), (q1, .inr (9, [.int i5, .ref q6, .ref q7, .int i8, .int i9, .int z35.2, .int i11, .int i12, .int z28.2]))] 105 [(0, .ref q1), (1, .int i2), (2, .int i3), (3, .int i4), (4, .int i30)] [.int z35.1] _
              refine V_world [2, 0, 1] [(q1, .inr (9, [.int i5, .ref q6, .ref q7, .int i8, .int i9, .int z35.2, .int i11, .int i12, .int z28.2])), (q6, .inl (E.2.1, 81, .inl (upd f14 ((i2 * (9 : Int32)) + i3).toNatClampNeg i30))), (q7, .inl (E.2.1, 81, .inl f15))] rfl rfl rfl ?_
              exact V_iret rfl (dX8_widen 59 rfl) ⟨rfl, rfl⟩
            · refine V_world [1, 0, 2] [(q1, .inr (9, [.int i5, .ref q6, .ref q7, .int i8, .int i9, .int i10, .int i11, .int i12, .int z28.2])), (q6, .inl (E.2.1, 81, .inl f14)), (q7, .inl (E.2.1, 81, .inl f15))] rfl rfl rfl ?_
              refine V_pick [0] [(0, .ref q1)] rfl ?_
              exact hk33 ()
      · refine V_iconst (0 : Int32) (by decide) (dX8_widen 26 rfl) 51 rfl ?_
        refine V_world [2, 0, 1] [(q1, .inr (9, [.int i5, .ref q6, .ref q7, .int i8, .int i9, .int i10, .int i11, .int i12, .int z28.2])), (q6, .inl (E.2.1, 81, .inl f14)), (q7, .inl (E.2.1, 81, .inl f15))] rfl rfl rfl ?_
        exact V_iret rfl (dX8_widen 27 rfl) ⟨rfl, rfl⟩
    · intro k23 hk24
      refine V_jn (fun (k25 : Unit → Option (Int32 × Int32 × Int32 × Int32 × (Nat → Int32))) => ∀ (_ : Unit), V E K mX8_widen (Qm E K mX8_widen (zX8_widen E q1 q6 q7 i5 i8 i9 i12 f15)) 0 0 [(q1, .inr (9, [.int i5, .ref q6, .ref q7, .int i8, .int i9, .int i10, .int i11, .int i12, .int i13])), (q6, .inl (E.2.1, 81, .inl f14)), (q7, .inl (E.2.1, 81, .inl f15))] 39 [(0, .ref q1), (1, .int i2), (2, .int i3), (3, .int i4)] [.int i22, .ref q1] (k25 ())) ?_ ?_
      · intro _
        show V E K mX8_widen (Qm E K mX8_widen (zX8_widen E q1 q6 q7 i5 i8 i9 i12 f15)) 0 0 [(q1, .inr (9, [.int i5, .ref q6, .ref q7, .int i8, .int i9, .int i10, .int i11, .int i12, .int i13])), (q6, .inl (E.2.1, 81, .inl f14)), (q7, .inl (E.2.1, 81, .inl f15))] 39 [(0, .ref q1), (1, .int i2), (2, .int i3), (3, .int i4)] [.int i22, .ref q1] _
        refine V_iconst (1 : Int32) (by decide) (dX8_widen 21 rfl) 40 rfl ?_
        refine V_goto (dX8_widen 22 rfl) 44 (by decide) ?_
        exact hk24 (1 : Int32)
      · intro k25 hk26
        refine V_icmp_eq (dX8_widen 14 rfl) 39 (by decide) 27 rfl ?_ ?_
        · exact hk26 ()
        · refine V_iload_n (dX8_widen 15 rfl) 28 rfl 3 rfl ?_
          refine V_bipush (-50 : Int32) (by decide) (dX8_widen 16 rfl) 30 rfl ?_
          refine V_icmp_lt (dX8_widen 17 rfl) 39 (by decide) 33 rfl ?_ ?_
          · exact hk26 ()
          · refine V_iload_n (dX8_widen 18 rfl) 34 rfl 3 rfl ?_
            refine V_bipush (50 : Int32) (by decide) (dX8_widen 19 rfl) 36 rfl ?_
            refine V_icmp_le (dX8_widen 20 rfl) 43 (by decide) 39 rfl ?_ ?_
            · refine V_iconst (0 : Int32) (by decide) (dX8_widen 23 rfl) 44 rfl ?_
              exact hk24 (0 : Int32)
            · exact hk26 ()
  · intro k17 hk18
    refine V_jn (fun (k19 : Unit → Option (Int32 × Int32 × Int32 × Int32 × (Nat → Int32))) => ∀ (_ : Unit), V E K mX8_widen (Qm E K mX8_widen (zX8_widen E q1 q6 q7 i5 i8 i9 i12 f15)) 0 0 [(q1, .inr (9, [.int i5, .ref q6, .ref q7, .int i8, .int i9, .int i10, .int i11, .int i12, .int i13])), (q6, .inl (E.2.1, 81, .inl f14)), (q7, .inl (E.2.1, 81, .inl f15))] 17 [(0, .ref q1), (1, .int i2), (2, .int i3), (3, .int i4)] [.ref q1] (k19 ())) ?_ ?_
    · intro _
      show V E K mX8_widen (Qm E K mX8_widen (zX8_widen E q1 q6 q7 i5 i8 i9 i12 f15)) 0 0 [(q1, .inr (9, [.int i5, .ref q6, .ref q7, .int i8, .int i9, .int i10, .int i11, .int i12, .int i13])), (q6, .inl (E.2.1, 81, .inl f14)), (q7, .inl (E.2.1, 81, .inl f15))] 17 [(0, .ref q1), (1, .int i2), (2, .int i3), (3, .int i4)] [.ref q1] _
      refine V_iconst (1 : Int32) (by decide) (dX8_widen 9 rfl) 18 rfl ?_
      refine V_goto (dX8_widen 10 rfl) 22 (by decide) ?_
      exact hk18 (1 : Int32)
    · intro k19 hk20
      refine V_if_eq (dX8_widen 4 rfl) 17 (by decide) 9 rfl ?_ ?_
      · refine V_world [2, 0, 1] [(q1, .inr (9, [.int i5, .ref q6, .ref q7, .int i8, .int i9, .int i10, .int i11, .int i12, .int i13])), (q6, .inl (E.2.1, 81, .inl f14)), (q7, .inl (E.2.1, 81, .inl f15))] rfl rfl rfl ?_
        exact hk20 ()
      · refine V_aload_n (dX8_widen 5 rfl) 10 rfl 0 rfl ?_
        refine V_iload_n (dX8_widen 6 rfl) 11 rfl 2 rfl ?_
        refine V_callV (M := mX8_widen) (wcs := [(q1, .inr (9, [.int i5, .ref q6, .ref q7, .int i8, .int i9, .int i10, .int i11, .int i12, .int i13]))]) (wr := [(q6, .inl (E.2.1, 81, .inl f14)), (q7, .inl (E.2.1, 81, .inl f15))]) mf_X8_isPlace tw_1299 tw_1301 tw_30 ⟨Nat.le_of_ble_eq_true rfl, Nat.le_of_ble_eq_true rfl⟩ (dX8_widen 7 rfl) 14 rfl (kX8_isPlace hs q1 i5 (.ref q6) (.ref q7) i8 i9 i10 i11 i12 i13 i3) rfl [2] [0, 1] (q0 := 0) rfl rfl rfl rfl (by decide) rfl rfl rfl rfl (Nat.le_of_ble_eq_true rfl) 0 0 (show 0 + 0 ≤ 0 from Nat.le_of_ble_eq_true rfl) (show 0 + 0 ≤ 0 from Nat.le_of_ble_eq_true rfl) (fun z21 v w hz => ?_)
        obtain ⟨rfl, rfl⟩ := hz
        show V E K mX8_widen (Qm E K mX8_widen (zX8_widen E q1 q6 q7 i5 i8 i9 i12 f15)) 0 0 [(q6, .inl (E.2.1, 81, .inl f14)), (q7, .inl (E.2.1, 81, .inl f15)), (q1, .inr (9, [.int i5, .ref q6, .ref q7, .int i8, .int i9, .int i10, .int i11, .int i12, .int i13]))] 14 [(0, .ref q1), (1, .int i2), (2, .int i3), (3, .int i4)] [.int z21, .ref q1] _
        refine V_if_ne (dX8_widen 8 rfl) 21 (by decide) 17 rfl ?_ ?_
        · refine V_iconst (0 : Int32) (by decide) (dX8_widen 11 rfl) 22 rfl ?_
          refine V_world [2, 0, 1] [(q1, .inr (9, [.int i5, .ref q6, .ref q7, .int i8, .int i9, .int i10, .int i11, .int i12, .int i13])), (q6, .inl (E.2.1, 81, .inl f14)), (q7, .inl (E.2.1, 81, .inl f15))] rfl rfl rfl ?_
          exact hk18 (0 : Int32)
        · refine V_world [2, 0, 1] [(q1, .inr (9, [.int i5, .ref q6, .ref q7, .int i8, .int i9, .int i10, .int i11, .int i12, .int i13])), (q6, .inl (E.2.1, 81, .inl f14)), (q7, .inl (E.2.1, 81, .inl f15))] rfl rfl rfl ?_
          exact hk20 ())
set_option maxRecDepth 20000 in
theorem vBX8_circle_L25 {E : EX} {K : KX} (hs : K.l.stackTraces = false) (q1 q4 q5 : Nat) (i3 i6 i7 i10 : Int32) (f13 : Nat → Int32) (i2 i8 i9 i42 : Int32) (f12 : Nat → Int32) (bc bs : Nat) (i40 i41 : Int32) {rec : Int32 → Int32 → Option (Int32 × Int32 × Int32 × Int32 × (Nat → Int32))} {k1 : Unit → Option (Int32 × Int32 × Int32 × Int32 × (Nat → Int32))} {k2 : Int32 → Option (Int32 × Int32 × Int32 × Int32 × (Nat → Int32))} (hrec : ∀ (i40 i41 : Int32), V E K mX8_circle (Qm E K mX8_circle (zX8_circle E q1 q4 q5 i3 i6 i7 i10 f13)) (bc) (bs) [(q1, .inr (9, [.int i3, .ref q4, .ref q5, .int i6, .int i7, .int i8, .int i9, .int i10, .int i42])), (q4, .inl (E.2.1, 81, .inl f12)), (q5, .inl (E.2.1, 81, .inl f13))] 25 [(0, .ref q1), (1, .int i2), (2, .int i40), (3, .int i41)] [] (rec i40 i41)) (hk1 : ∀ (_ : Unit), V E K mX8_circle (Qm E K mX8_circle (zX8_circle E q1 q4 q5 i3 i6 i7 i10 f13)) (bc) (bs) [(q1, .inr (9, [.int i3, .ref q4, .ref q5, .int i6, .int i7, .int i8, .int i9, .int i10, .int i42])), (q4, .inl (E.2.1, 81, .inl f12)), (q5, .inl (E.2.1, 81, .inl f13))] 54 [(0, .ref q1)] [] (k1 ())) (hk2 : ∀ (i50 : Int32), V E K mX8_circle (Qm E K mX8_circle (zX8_circle E q1 q4 q5 i3 i6 i7 i10 f13)) (bc) (bs) [(q1, .inr (9, [.int i3, .ref q4, .ref q5, .int i6, .int i7, .int i8, .int i9, .int i10, .int i42])), (q4, .inl (E.2.1, 81, .inl f12)), (q5, .inl (E.2.1, 81, .inl f13))] 84 [(0, .ref q1), (1, .int i2), (2, .int i50)] [] (k2 i50)) : V E K mX8_circle (Qm E K mX8_circle (zX8_circle E q1 q4 q5 i3 i6 i7 i10 f13)) (bc) (bs) [(q1, .inr (9, [.int i3, .ref q4, .ref q5, .int i6, .int i7, .int i8, .int i9, .int i10, .int i42])), (q4, .inl (E.2.1, 81, .inl f12)), (q5, .inl (E.2.1, 81, .inl f13))] 25 [(0, .ref q1), (1, .int i2), (2, .int i40), (3, .int i41)] [] (BX8_circle_L25  i3 f13 i2 f12 i40 i41 rec k1 k2) := by
  unfold BX8_circle_L25
  refine V_iload_n (dX8_circle_p0 15 rfl) 26 rfl 3 rfl ?_
  refine V_aload_n (dX8_circle_p0 16 rfl) 27 rfl 0 rfl ?_
  refine V_get gf_M_17 0 rfl rfl (dX8_circle_p0 17 rfl) 30 rfl ?_
  refine V_icmp_ge (dX8_circle_p0 18 rfl) 84 (by decide) 33 rfl ?_ ?_
  · refine V_pick [0, 1, 2] [(0, .ref q1), (1, .int i2), (2, .int i40)] rfl ?_
    exact hk2 i40
  · refine V_iload_n (dX8_circle_p0 19 rfl) 34 rfl 3 rfl ?_
    refine V_iconst (1 : Int32) (by decide) (dX8_circle_p0 20 rfl) 35 rfl ?_
    refine V_iadd (dX8_circle_p0 21 rfl) 36 rfl ?_
    refine V_aload_n (dX8_circle_p0 22 rfl) 37 rfl 0 rfl ?_
    refine V_get gf_M_17 0 rfl rfl (dX8_circle_p0 23 rfl) 40 rfl ?_
    refine V_nz (fun hz => ?_)
    refine V_irem hz (dX8_circle_p0 24 rfl) 41 rfl ?_
    refine V_nmI (fun i43 => ?_)
    refine V_istore (dX8_circle_p0 25 rfl) 43 rfl [(0, .ref q1), (1, .int i2), (2, .int i40), (3, .int i41), (4, .int i43)] (Nat.le_of_ble_eq_true rfl) rfl ?_
    refine V_aload_n (dX8_circle_p0 26 rfl) 44 rfl 0 rfl ?_
    refine V_iload_n (dX8_circle_p0 27 rfl) 45 rfl 3 rfl ?_
    refine V_iload (dX8_circle_p0 28 rfl) 47 rfl 4 rfl ?_
    refine V_callV (M := mX8_circle) (wcs := [(q1, .inr (9, [.int i3, .ref q4, .ref q5, .int i6, .int i7, .int i8, .int i9, .int i10, .int i42])), (q5, .inl (E.2.1, 81, .inl f13))]) (wr := [(q4, .inl (E.2.1, 81, .inl f12))]) mf_X8_flow tw_1322 tw_1324 tw_34 ⟨Nat.le_of_ble_eq_true rfl, Nat.le_of_ble_eq_true rfl⟩ (dX8_circle_p0 29 rfl) 50 rfl (kX8_flow hs q1 q5 i3 (.ref q4) i6 i7 i8 i9 i10 i42 f13 i41 i43) rfl [0, 2] [1] (q0 := 0) rfl rfl rfl rfl (by decide) rfl rfl rfl rfl (Nat.le_of_ble_eq_true rfl) (bc) (bs) (show (bc) + 0 ≤ (bc) by omega) (show (bs) + 0 ≤ (bs) by omega) (fun z44 v w hz => ?_)
    obtain ⟨rfl, rfl⟩ := hz
    show V E K mX8_circle (Qm E K mX8_circle (zX8_circle E q1 q4 q5 i3 i6 i7 i10 f13)) (bc) (bs) [(q4, .inl (E.2.1, 81, .inl f12)), (q1, .inr (9, [.int i3, .ref q4, .ref q5, .int i6, .int i7, .int i8, .int i9, .int i10, .int i42])), (q5, .inl (E.2.1, 81, .inl f13))] 50 [(0, .ref q1), (1, .int i2), (2, .int i40), (3, .int i41), (4, .int i43)] [.int z44] _
    refine V_iload_n (dX8_circle_p0 30 rfl) 51 rfl 1 rfl ?_
    refine V_icmp_le (dX8_circle_p0 31 rfl) 59 (by decide) 54 rfl ?_ ?_
    · refine V_iload_n (dX8_circle_p0 35 rfl) 60 rfl 2 rfl ?_
      refine V_aload_n (dX8_circle_p0 36 rfl) 61 rfl 0 rfl ?_
      refine V_iload_n (dX8_circle_p0 37 rfl) 62 rfl 3 rfl ?_
      refine V_iload (dX8_circle_p0 38 rfl) 64 rfl 4 rfl ?_
      refine V_callV (M := mX8_circle) (wcs := [(q1, .inr (9, [.int i3, .ref q4, .ref q5, .int i6, .int i7, .int i8, .int i9, .int i10, .int i42])), (q4, .inl (E.2.1, 81, .inl f12))]) (wr := [(q5, .inl (E.2.1, 81, .inl f13))]) mf_X8_room tw_1330 tw_1332 tw_36 ⟨Nat.le_of_ble_eq_true rfl, Nat.le_of_ble_eq_true rfl⟩ (dX8_circle_p0 39 rfl) 67 rfl (kX8_room hs q1 q4 i3 (.ref q5) i6 i7 i8 i9 i10 i42 f12 i41 i43) rfl [1, 0] [2] (q0 := 0) rfl rfl rfl rfl (by decide) rfl rfl rfl rfl (Nat.le_of_ble_eq_true rfl) (bc) (bs) (show (bc) + 0 ≤ (bc) by omega) (show (bs) + 0 ≤ (bs) by omega) (fun z45 v w hz => ?_)
      obtain ⟨rfl, rfl⟩ := hz
      show V E K mX8_circle (Qm E K mX8_circle (zX8_circle E q1 q4 q5 i3 i6 i7 i10 f13)) (bc) (bs) [(q5, .inl (E.2.1, 81, .inl f13)), (q1, .inr (9, [.int i3, .ref q4, .ref q5, .int i6, .int i7, .int i8, .int i9, .int i10, .int i42])), (q4, .inl (E.2.1, 81, .inl f12))] 67 [(0, .ref q1), (1, .int i2), (2, .int i40), (3, .int i41), (4, .int i43)] [.int z45, .int i40] _
      refine V_iload_n (dX8_circle_p0 40 rfl) 68 rfl 1 rfl ?_
      refine V_jn (fun (k46 : Int32 → Option (Int32 × Int32 × Int32 × Int32 × (Nat → Int32))) => ∀ (i48 : Int32), V E K mX8_circle (Qm E K mX8_circle (zX8_circle E q1 q4 q5 i3 i6 i7 i10 f13)) (bc) (bs) [(q1, .inr (9, [.int i3, .ref q4, .ref q5, .int i6, .int i7, .int i8, .int i9, .int i10, .int i42])), (q4, .inl (E.2.1, 81, .inl f12)), (q5, .inl (E.2.1, 81, .inl f13))] 76 [(0, .ref q1), (1, .int i2), (3, .int i41)] [.int i48, .int i40] (k46 i48)) ?_ ?_
      · intro i48
        show V E K mX8_circle (Qm E K mX8_circle (zX8_circle E q1 q4 q5 i3 i6 i7 i10 f13)) (bc) (bs) [(q1, .inr (9, [.int i3, .ref q4, .ref q5, .int i6, .int i7, .int i8, .int i9, .int i10, .int i42])), (q4, .inl (E.2.1, 81, .inl f12)), (q5, .inl (E.2.1, 81, .inl f13))] 76 [(0, .ref q1), (1, .int i2), (3, .int i41)] [.int i48, .int i40] _
        refine V_iadd (dX8_circle_p0 45 rfl) 77 rfl ?_
        refine V_nmI (fun i49 => ?_)
        refine V_istore_n (dX8_circle_p0 46 rfl) 78 rfl [(0, .ref q1), (1, .int i2), (2, .int i49), (3, .int i41)] (Nat.le_of_ble_eq_true rfl) rfl ?_
        refine V_iinc (dX8_circle_p0 47 rfl) 81 rfl 3 rfl (i41 + (1 : Int32)) rfl [(0, .ref q1), (1, .int i2), (2, .int i49), (3, .int (i41 + (1 : Int32)))] (Nat.le_of_ble_eq_true rfl) rfl ?_
        refine V_goto (dX8_circle_p0 48 rfl) 25 (by decide) ?_
        exact hrec i49 (i41 + (1 : Int32))
      · intro k46 hk47
        refine V_icmp_ne (dX8_circle_p0 41 rfl) 75 (by decide) 71 rfl ?_ ?_
        · refine V_iconst (1 : Int32) (by decide) (dX8_circle_p0 44 rfl) 76 rfl ?_
          refine V_world [1, 2, 0] [(q1, .inr (9, [.int i3, .ref q4, .ref q5, .int i6, .int i7, .int i8, .int i9, .int i10, .int i42])), (q4, .inl (E.2.1, 81, .inl f12)), (q5, .inl (E.2.1, 81, .inl f13))] rfl rfl rfl ?_
          refine V_pick [0, 1, 3] [(0, .ref q1), (1, .int i2), (3, .int i41)] rfl ?_
          exact hk47 (1 : Int32)
        · refine V_iconst (0 : Int32) (by decide) (dX8_circle_p0 42 rfl) 72 rfl ?_
          refine V_goto (dX8_circle_p0 43 rfl) 76 (by decide) ?_
          refine V_world [1, 2, 0] [(q1, .inr (9, [.int i3, .ref q4, .ref q5, .int i6, .int i7, .int i8, .int i9, .int i10, .int i42])), (q4, .inl (E.2.1, 81, .inl f12)), (q5, .inl (E.2.1, 81, .inl f13))] rfl rfl rfl ?_
          refine V_pick [0, 1, 3] [(0, .ref q1), (1, .int i2), (3, .int i41)] rfl ?_
          exact hk47 (0 : Int32)
    · refine V_world [1, 0, 2] [(q1, .inr (9, [.int i3, .ref q4, .ref q5, .int i6, .int i7, .int i8, .int i9, .int i10, .int i42])), (q4, .inl (E.2.1, 81, .inl f12)), (q5, .inl (E.2.1, 81, .inl f13))] rfl rfl rfl ?_
      refine V_pick [0] [(0, .ref q1)] rfl ?_
      exact hk1 ()
set_option maxRecDepth 20000 in
theorem vLX8_circle_L25 {E : EX} {K : KX} (hs : K.l.stackTraces = false) (q1 q4 q5 : Nat) (i3 i6 i7 i10 : Int32) (f13 : Nat → Int32) (i2 i8 i9 i42 : Int32) (f12 : Nat → Int32) (bc bs : Nat) {k1 : Unit → Option (Int32 × Int32 × Int32 × Int32 × (Nat → Int32))} {k2 : Int32 → Option (Int32 × Int32 × Int32 × Int32 × (Nat → Int32))} (hk1 : ∀ (_ : Unit), V E K mX8_circle (Qm E K mX8_circle (zX8_circle E q1 q4 q5 i3 i6 i7 i10 f13)) (bc) (bs) [(q1, .inr (9, [.int i3, .ref q4, .ref q5, .int i6, .int i7, .int i8, .int i9, .int i10, .int i42])), (q4, .inl (E.2.1, 81, .inl f12)), (q5, .inl (E.2.1, 81, .inl f13))] 54 [(0, .ref q1)] [] (k1 ())) (hk2 : ∀ (i50 : Int32), V E K mX8_circle (Qm E K mX8_circle (zX8_circle E q1 q4 q5 i3 i6 i7 i10 f13)) (bc) (bs) [(q1, .inr (9, [.int i3, .ref q4, .ref q5, .int i6, .int i7, .int i8, .int i9, .int i10, .int i42])), (q4, .inl (E.2.1, 81, .inl f12)), (q5, .inl (E.2.1, 81, .inl f13))] 84 [(0, .ref q1), (1, .int i2), (2, .int i50)] [] (k2 i50)) : ∀ (n : Nat) (i40 i41 : Int32), V E K mX8_circle (Qm E K mX8_circle (zX8_circle E q1 q4 q5 i3 i6 i7 i10 f13)) (bc) (bs) [(q1, .inr (9, [.int i3, .ref q4, .ref q5, .int i6, .int i7, .int i8, .int i9, .int i10, .int i42])), (q4, .inl (E.2.1, 81, .inl f12)), (q5, .inl (E.2.1, 81, .inl f13))] 25 [(0, .ref q1), (1, .int i2), (2, .int i40), (3, .int i41)] [] (LX8_circle_L25  i3 f13 i2 f12 n i40 i41 k1 k2)
  | 0, _, _ => V_none
  | n + 1, i40, i41 => vBX8_circle_L25 hs q1 q4 q5 i3 i6 i7 i10 f13 i2 i8 i9 i42 f12 bc bs i40 i41 (fun i40 i41 => vLX8_circle_L25 hs q1 q4 q5 i3 i6 i7 i10 f13 i2 i8 i9 i42 f12 bc bs hk1 hk2 n i40 i41) hk1 hk2
set_option maxRecDepth 20000 in
theorem vBX8_circle_L86 {E : EX} {K : KX} (hs : K.l.stackTraces = false) (q1 q4 q5 : Nat) (i3 i6 i7 i10 : Int32) (f13 : Nat → Int32) (i2 i50 i8 i9 i67 : Int32) (bc bs : Nat) (i66 : Int32) (f68 : Nat → Int32) {rec : Int32 → (Nat → Int32) → Option (Int32 × Int32 × Int32 × Int32 × (Nat → Int32))} {k1 : (Nat → Int32) → Option (Int32 × Int32 × Int32 × Int32 × (Nat → Int32))} (hrec : ∀ (i66 : Int32) (f68 : Nat → Int32), V E K mX8_circle (Qm E K mX8_circle (zX8_circle E q1 q4 q5 i3 i6 i7 i10 f13)) (bc) (bs) [(q1, .inr (9, [.int i3, .ref q4, .ref q5, .int i6, .int i7, .int i8, .int i9, .int i10, .int i67])), (q4, .inl (E.2.1, 81, .inl f68)), (q5, .inl (E.2.1, 81, .inl f13))] 86 [(0, .ref q1), (1, .int i2), (2, .int i50), (3, .int i66)] [] (rec i66 f68)) (hk1 : ∀ (f69 : Nat → Int32), V E K mX8_circle (Qm E K mX8_circle (zX8_circle E q1 q4 q5 i3 i6 i7 i10 f13)) (bc) (bs) [(q1, .inr (9, [.int i3, .ref q4, .ref q5, .int i6, .int i7, .int i8, .int i9, .int i10, .int i67])), (q4, .inl (E.2.1, 81, .inl f69)), (q5, .inl (E.2.1, 81, .inl f13))] 119 [(0, .ref q1), (2, .int i50)] [] (k1 f69)) : V E K mX8_circle (Qm E K mX8_circle (zX8_circle E q1 q4 q5 i3 i6 i7 i10 f13)) (bc) (bs) [(q1, .inr (9, [.int i3, .ref q4, .ref q5, .int i6, .int i7, .int i8, .int i9, .int i10, .int i67])), (q4, .inl (E.2.1, 81, .inl f68)), (q5, .inl (E.2.1, 81, .inl f13))] 86 [(0, .ref q1), (1, .int i2), (2, .int i50), (3, .int i66)] [] (BX8_circle_L86  i3 i2 i66 f68 rec k1) := by
  unfold BX8_circle_L86
  refine V_iload_n (dX8_circle_p0 51 rfl) 87 rfl 3 rfl ?_
  refine V_aload_n (dX8_circle_p0 52 rfl) 88 rfl 0 rfl ?_
  refine V_get gf_M_17 0 rfl rfl (dX8_circle_p0 53 rfl) 91 rfl ?_
  refine V_icmp_ge (dX8_circle_p0 54 rfl) 119 (by decide) 94 rfl ?_ ?_
  · refine V_pick [0, 2] [(0, .ref q1), (2, .int i50)] rfl ?_
    exact hk1 f68
  · refine V_aload_n (dX8_circle_p0 55 rfl) 95 rfl 0 rfl ?_
    refine V_get gf_M_20 0 rfl rfl (dX8_circle_p0 56 rfl) 98 rfl ?_
    refine V_iload_n (dX8_circle_p0 57 rfl) 99 rfl 3 rfl ?_
    refine V_bipush (9 : Int32) (by decide) (dX8_circle_p0 58 rfl) 101 rfl ?_
    refine V_imul (dX8_circle_p0 59 rfl) 102 rfl ?_
    refine V_iload_n (dX8_circle_p0 60 rfl) 103 rfl 3 rfl ?_
    refine V_iconst (1 : Int32) (by decide) (dX8_circle_p0 61 rfl) 104 rfl ?_
    refine V_iadd (dX8_circle_p0 62 rfl) 105 rfl ?_
    refine V_aload_n (dX8_circle_p0 63 rfl) 106 rfl 0 rfl ?_
    refine V_get gf_M_17 0 rfl rfl (dX8_circle_p0 64 rfl) 109 rfl ?_
    refine V_nz (fun hz => ?_)
    refine V_irem hz (dX8_circle_p0 65 rfl) 110 rfl ?_
    refine V_iadd (dX8_circle_p0 66 rfl) 111 rfl ?_
    refine V_iload_n (dX8_circle_p0 67 rfl) 112 rfl 1 rfl ?_
    refine V_iast 1 rfl (dX8_circle_p0 68 rfl) 113 rfl [(q1, .inr (9, [.int i3, .ref q4, .ref q5, .int i6, .int i7, .int i8, .int i9, .int i10, .int i67])), (q4, .inl (E.2.1, 81, .inl (upd f68 ((i66 * (9 : Int32)) + ((i66 + (1 : Int32)) - (i66 + (1 : Int32)) / i3 * i3)).toNatClampNeg i2))), (q5, .inl (E.2.1, 81, .inl f13))] rfl ?_
    refine V_iinc (dX8_circle_p0 69 rfl) 116 rfl 3 rfl (i66 + (1 : Int32)) rfl [(0, .ref q1), (1, .int i2), (2, .int i50), (3, .int (i66 + (1 : Int32)))] (Nat.le_of_ble_eq_true rfl) rfl ?_
    refine V_goto (dX8_circle_p1 0 rfl) 86 (by decide) ?_
    exact hrec (i66 + (1 : Int32)) (upd f68 ((i66 * (9 : Int32)) + ((i66 + (1 : Int32)) - (i66 + (1 : Int32)) / i3 * i3)).toNatClampNeg i2)
set_option maxRecDepth 20000 in
theorem vLX8_circle_L86 {E : EX} {K : KX} (hs : K.l.stackTraces = false) (q1 q4 q5 : Nat) (i3 i6 i7 i10 : Int32) (f13 : Nat → Int32) (i2 i50 i8 i9 i67 : Int32) (bc bs : Nat) {k1 : (Nat → Int32) → Option (Int32 × Int32 × Int32 × Int32 × (Nat → Int32))} (hk1 : ∀ (f69 : Nat → Int32), V E K mX8_circle (Qm E K mX8_circle (zX8_circle E q1 q4 q5 i3 i6 i7 i10 f13)) (bc) (bs) [(q1, .inr (9, [.int i3, .ref q4, .ref q5, .int i6, .int i7, .int i8, .int i9, .int i10, .int i67])), (q4, .inl (E.2.1, 81, .inl f69)), (q5, .inl (E.2.1, 81, .inl f13))] 119 [(0, .ref q1), (2, .int i50)] [] (k1 f69)) : ∀ (n : Nat) (i66 : Int32) (f68 : Nat → Int32), V E K mX8_circle (Qm E K mX8_circle (zX8_circle E q1 q4 q5 i3 i6 i7 i10 f13)) (bc) (bs) [(q1, .inr (9, [.int i3, .ref q4, .ref q5, .int i6, .int i7, .int i8, .int i9, .int i10, .int i67])), (q4, .inl (E.2.1, 81, .inl f68)), (q5, .inl (E.2.1, 81, .inl f13))] 86 [(0, .ref q1), (1, .int i2), (2, .int i50), (3, .int i66)] [] (LX8_circle_L86  i3 i2 n i66 f68 k1)
  | 0, _, _ => V_none
  | n + 1, i66, f68 => vBX8_circle_L86 hs q1 q4 q5 i3 i6 i7 i10 f13 i2 i50 i8 i9 i67 bc bs i66 f68 (fun i66 f68 => vLX8_circle_L86 hs q1 q4 q5 i3 i6 i7 i10 f13 i2 i50 i8 i9 i67 bc bs hk1 n i66 f68) hk1
set_option maxRecDepth 20000 in
theorem kX8_circle {E : EX} {l : Launch} (hl : l.stackTraces = false) (q1 q4 q5 : Nat) (i3 i6 i7 i8 i9 i10 i11 : Int32) (f12 f13 : Nat → Int32) (i2 : Int32) : Ct E l mX8_circle [.ref q1, .int i2] [(q1, .inr (9, [.int i3, .ref q4, .ref q5, .int i6, .int i7, .int i8, .int i9, .int i10, .int i11])), (q4, .inl (E.2.1, 81, .inl f12)), (q5, .inl (E.2.1, 81, .inl f13))] (fX8_circle i3 i8 i9 f12 f13 i2) (zX8_circle E q1 q4 q5 i3 i6 i7 i10 f13) := Ct_of hl mf_X8_circle.1 (Nat.le_of_ble_eq_true rfl) (fun K hs => by
  refine V_less 0 0 (Nat.le_refl _) (Nat.le_refl _) ?_
  refine V_pick [0, 1] [(0, .ref q1), (1, .int i2)] rfl ?_
  unfold fX8_circle
  refine V_aload_n (dX8_circle_p0 0 rfl) 1 rfl 0 rfl ?_
  refine V_iload_n (dX8_circle_p0 1 rfl) 2 rfl 1 rfl ?_
  refine V_callS (M := mX8_circle) (wcs := []) (wr := [(q1, .inr (9, [.int i3, .ref q4, .ref q5, .int i6, .int i7, .int i8, .int i9, .int i10, .int i11])), (q4, .inl (E.2.1, 81, .inl f12)), (q5, .inl (E.2.1, 81, .inl f13))]) mf_X8_isRoom tw_1319 tw_1320 ⟨Nat.le_of_ble_eq_true rfl, Nat.le_of_ble_eq_true rfl⟩ (dX8_circle_p0 2 rfl) 5 rfl (kX8_isRoom hs i2) rfl [] [0, 1, 2] rfl rfl rfl rfl (by decide) rfl (Nat.le_of_ble_eq_true rfl) 0 0 (show 0 + 0 ≤ 0 from Nat.le_of_ble_eq_true rfl) (show 0 + 0 ≤ 0 from Nat.le_of_ble_eq_true rfl) (fun z14 v w hz => ?_)
  obtain ⟨rfl, rfl⟩ := hz
  show V E K mX8_circle (Qm E K mX8_circle (zX8_circle E q1 q4 q5 i3 i6 i7 i10 f13)) 0 0 [(q1, .inr (9, [.int i3, .ref q4, .ref q5, .int i6, .int i7, .int i8, .int i9, .int i10, .int i11])), (q4, .inl (E.2.1, 81, .inl f12)), (q5, .inl (E.2.1, 81, .inl f13))] 5 [(0, .ref q1), (1, .int i2)] [.int z14, .ref q1] _
  refine V_jn (fun (k15 : Int32 → Option (Int32 × Int32 × Int32 × Int32 × (Nat → Int32))) => ∀ (i17 : Int32), V E K mX8_circle (Qm E K mX8_circle (zX8_circle E q1 q4 q5 i3 i6 i7 i10 f13)) 0 0 [(q1, .inr (9, [.int i3, .ref q4, .ref q5, .int i6, .int i7, .int i8, .int i9, .int i10, .int i11])), (q4, .inl (E.2.1, 81, .inl f12)), (q5, .inl (E.2.1, 81, .inl f13))] 13 [(0, .ref q1), (1, .int i2)] [.int i17, .ref q1] (k15 i17)) ?_ ?_
  · intro i17
    show V E K mX8_circle (Qm E K mX8_circle (zX8_circle E q1 q4 q5 i3 i6 i7 i10 f13)) 0 0 [(q1, .inr (9, [.int i3, .ref q4, .ref q5, .int i6, .int i7, .int i8, .int i9, .int i10, .int i11])), (q4, .inl (E.2.1, 81, .inl f12)), (q5, .inl (E.2.1, 81, .inl f13))] 13 [(0, .ref q1), (1, .int i2)] [.int i17, .ref q1] _
    refine V_callV (M := mX8_circle) (wcs := [(q1, .inr (9, [.int i3, .ref q4, .ref q5, .int i6, .int i7, .int i8, .int i9, .int i10, .int i11]))]) (wr := [(q4, .inl (E.2.1, 81, .inl f12)), (q5, .inl (E.2.1, 81, .inl f13))]) mf_X8_isThrown_ tw_1283 tw_1285 tw_27 ⟨Nat.le_of_ble_eq_true rfl, Nat.le_of_ble_eq_true rfl⟩ (dX8_circle_p0 7 rfl) 16 rfl (kX8_isThrown_ hs q1 i3 (.ref q4) (.ref q5) i6 i7 i8 i9 i10 i11 i17) rfl [0] [1, 2] (q0 := 0) rfl rfl rfl rfl (by decide) rfl rfl rfl rfl (Nat.le_of_ble_eq_true rfl) 0 0 (show 0 + 0 ≤ 0 from Nat.le_of_ble_eq_true rfl) (show 0 + 0 ≤ 0 from Nat.le_of_ble_eq_true rfl) (fun z18 v w hz => ?_)
    obtain ⟨rfl, rfl⟩ := hz
    show V E K mX8_circle (Qm E K mX8_circle (zX8_circle E q1 q4 q5 i3 i6 i7 i10 f13)) 0 0 [(q4, .inl (E.2.1, 81, .inl f12)), (q5, .inl (E.2.1, 81, .inl f13)), (q1, .inr (9, [.int i3, .ref q4, .ref q5, .int i6, .int i7, .int i8, .int i9, .int i10, .int z18.2]))] 16 [(0, .ref q1), (1, .int i2)] [.int z18.1] _
    refine V_if_eq (dX8_circle_p0 8 rfl) 21 (by decide) 19 rfl ?_ ?_
    · refine V_iconst (0 : Int32) (by decide) (dX8_circle_p0 11 rfl) 22 rfl ?_
      refine V_istore_n (dX8_circle_p0 12 rfl) 23 rfl [(0, .ref q1), (1, .int i2), (2, .int (0 : Int32))] (Nat.le_of_ble_eq_true rfl) rfl ?_
      refine V_iconst (0 : Int32) (by decide) (dX8_circle_p0 13 rfl) 24 rfl ?_
      refine V_istore_n (dX8_circle_p0 14 rfl) 25 rfl [(0, .ref q1), (1, .int i2), (2, .int (0 : Int32)), (3, .int (0 : Int32))] (Nat.le_of_ble_eq_true rfl) rfl ?_
      refine V_world [2, 0, 1] [(q1, .inr (9, [.int i3, .ref q4, .ref q5, .int i6, .int i7, .int i8, .int i9, .int i10, .int z18.2])), (q4, .inl (E.2.1, 81, .inl f12)), (q5, .inl (E.2.1, 81, .inl f13))] rfl rfl rfl ?_
      refine vLX8_circle_L25 hs q1 q4 q5 i3 i6 i7 i10 f13 i2 i8 i9 z18.2 f12 0 0 ?_ ?_ 600 (0 : Int32) (0 : Int32)
      · intro _
        show V E K mX8_circle (Qm E K mX8_circle (zX8_circle E q1 q4 q5 i3 i6 i7 i10 f13)) 0 0 [(q1, .inr (9, [.int i3, .ref q4, .ref q5, .int i6, .int i7, .int i8, .int i9, .int i10, .int z18.2])), (q4, .inl (E.2.1, 81, .inl f12)), (q5, .inl (E.2.1, 81, .inl f13))] 54 [(0, .ref q1)] [] _
        refine V_aload_n (dX8_circle_p0 32 rfl) 55 rfl 0 rfl ?_
        refine V_callV (M := mX8_circle) (wcs := [(q1, .inr (9, [.int i3, .ref q4, .ref q5, .int i6, .int i7, .int i8, .int i9, .int i10, .int z18.2]))]) (wr := [(q4, .inl (E.2.1, 81, .inl f12)), (q5, .inl (E.2.1, 81, .inl f13))]) mf_X8_no tw_1326 tw_1328 tw_35 ⟨Nat.le_of_ble_eq_true rfl, Nat.le_of_ble_eq_true rfl⟩ (dX8_circle_p0 33 rfl) 58 rfl (kX8_no hs q1 i3 (.ref q4) (.ref q5) i6 i7 i8 i9 i10 z18.2) rfl [0] [1, 2] (q0 := 0) rfl rfl rfl rfl (by decide) rfl rfl rfl rfl (Nat.le_of_ble_eq_true rfl) 0 0 (show 0 + 0 ≤ 0 from Nat.le_of_ble_eq_true rfl) (show 0 + 0 ≤ 0 from Nat.le_of_ble_eq_true rfl) (fun z51 v w hz => ?_)
        obtain ⟨rfl, rfl⟩ := hz
        show V E K mX8_circle (Qm E K mX8_circle (zX8_circle E q1 q4 q5 i3 i6 i7 i10 f13)) 0 0 [(q4, .inl (E.2.1, 81, .inl f12)), (q5, .inl (E.2.1, 81, .inl f13)), (q1, .inr (9, [.int i3, .ref q4, .ref q5, .int i6, .int i7, .int i8, .int z51, .int i10, .int z18.2]))] 58 [(0, .ref q1)] [.int (-9 : Int32)] _
        refine V_world [2, 0, 1] [(q1, .inr (9, [.int i3, .ref q4, .ref q5, .int i6, .int i7, .int i8, .int z51, .int i10, .int z18.2])), (q4, .inl (E.2.1, 81, .inl f12)), (q5, .inl (E.2.1, 81, .inl f13))] rfl rfl rfl ?_
        exact V_iret rfl (dX8_circle_p0 34 rfl) ⟨rfl, rfl⟩
      · intro i50
        show V E K mX8_circle (Qm E K mX8_circle (zX8_circle E q1 q4 q5 i3 i6 i7 i10 f13)) 0 0 [(q1, .inr (9, [.int i3, .ref q4, .ref q5, .int i6, .int i7, .int i8, .int i9, .int i10, .int z18.2])), (q4, .inl (E.2.1, 81, .inl f12)), (q5, .inl (E.2.1, 81, .inl f13))] 84 [(0, .ref q1), (1, .int i2), (2, .int i50)] [] _
        refine V_iconst (0 : Int32) (by decide) (dX8_circle_p0 49 rfl) 85 rfl ?_
        refine V_istore_n (dX8_circle_p0 50 rfl) 86 rfl [(0, .ref q1), (1, .int i2), (2, .int i50), (3, .int (0 : Int32))] (Nat.le_of_ble_eq_true rfl) rfl ?_
        refine vLX8_circle_L86 hs q1 q4 q5 i3 i6 i7 i10 f13 i2 i50 i8 i9 z18.2 0 0 ?_ 600 (0 : Int32) f12
        intro f69
        show V E K mX8_circle (Qm E K mX8_circle (zX8_circle E q1 q4 q5 i3 i6 i7 i10 f13)) 0 0 [(q1, .inr (9, [.int i3, .ref q4, .ref q5, .int i6, .int i7, .int i8, .int i9, .int i10, .int z18.2])), (q4, .inl (E.2.1, 81, .inl f69)), (q5, .inl (E.2.1, 81, .inl f13))] 119 [(0, .ref q1), (2, .int i50)] [] _
        refine V_aload_n (dX8_circle_p1 1 rfl) 120 rfl 0 rfl ?_
        refine V_iload_n (dX8_circle_p1 2 rfl) 121 rfl 1 rfl ?_
        refine V_callV (M := mX8_circle) (wcs := [(q1, .inr (9, [.int i3, .ref q4, .ref q5, .int i6, .int i7, .int i8, .int i9, .int i10, .int z18.2]))]) (wr := [(q4, .inl (E.2.1, 81, .inl f69)), (q5, .inl (E.2.1, 81, .inl f13))]) mf_X8_did tw_1291 tw_1293 tw_29 ⟨Nat.le_of_ble_eq_true rfl, Nat.le_of_ble_eq_true rfl⟩ (dX8_circle_p1 3 rfl) 124 rfl (kX8_did hs q1 i3 (.ref q4) (.ref q5) i6 i7 i8 i9 i10 z18.2 i50) rfl [0] [1, 2] (q0 := 0) rfl rfl rfl rfl (by decide) rfl rfl rfl rfl (Nat.le_of_ble_eq_true rfl) 0 0 (show 0 + 0 ≤ 0 from Nat.le_of_ble_eq_true rfl) (show 0 + 0 ≤ 0 from Nat.le_of_ble_eq_true rfl) (fun z70 v w hz => ?_)
        obtain ⟨rfl, rfl⟩ := hz
        show V E K mX8_circle (Qm E K mX8_circle (zX8_circle E q1 q4 q5 i3 i6 i7 i10 f13)) 0 0 [(q4, .inl (E.2.1, 81, .inl f69)), (q5, .inl (E.2.1, 81, .inl f13)), (q1, .inr (9, [.int i3, .ref q4, .ref q5, .int i6, .int i7, .int z70.2, .int i9, .int i10, .int z18.2]))] 124 [(0, .ref q1), (2, .int i50)] [.int z70.1] _
        refine V_world [2, 0, 1] [(q1, .inr (9, [.int i3, .ref q4, .ref q5, .int i6, .int i7, .int z70.2, .int i9, .int i10, .int z18.2])), (q4, .inl (E.2.1, 81, .inl f69)), (q5, .inl (E.2.1, 81, .inl f13))] rfl rfl rfl ?_
        exact V_iret rfl (dX8_circle_p1 4 rfl) ⟨rfl, rfl⟩
    · refine V_iconst (0 : Int32) (by decide) (dX8_circle_p0 9 rfl) 20 rfl ?_
      refine V_world [2, 0, 1] [(q1, .inr (9, [.int i3, .ref q4, .ref q5, .int i6, .int i7, .int i8, .int i9, .int i10, .int z18.2])), (q4, .inl (E.2.1, 81, .inl f12)), (q5, .inl (E.2.1, 81, .inl f13))] rfl rfl rfl ?_
      exact V_iret rfl (dX8_circle_p0 10 rfl) ⟨rfl, rfl⟩
  · intro k15 hk16
    refine V_if_ne (dX8_circle_p0 3 rfl) 12 (by decide) 8 rfl ?_ ?_
    · refine V_iconst (0 : Int32) (by decide) (dX8_circle_p0 6 rfl) 13 rfl ?_
      exact hk16 (0 : Int32)
    · refine V_iconst (1 : Int32) (by decide) (dX8_circle_p0 4 rfl) 9 rfl ?_
      refine V_goto (dX8_circle_p0 5 rfl) 13 (by decide) ?_
      exact hk16 (1 : Int32))
set_option maxRecDepth 20000 in
theorem vBX8_sumOfRooms_L4 {E : EX} {K : KX} (hs : K.l.stackTraces = false) (q1 q3 : Nat) (i2 : Int32) (v4 : Value) (i5 i6 i7 i8 i9 i10 : Int32) (f11 : Nat → Int32) (bc bs : Nat) (i26 i27 : Int32) {rec : Int32 → Int32 → Option (Int32)}  (hrec : ∀ (i26 i27 : Int32), V E K mX8_sumOfRooms (Qm E K mX8_sumOfRooms (zX8_sumOfRooms E q1 q3 i2 v4 i5 i6 i7 i8 i9 i10 f11)) (bc) (bs) [(q1, .inr (9, [.int i2, .ref q3, v4, .int i5, .int i6, .int i7, .int i8, .int i9, .int i10])), (q3, .inl (E.2.1, 81, .inl f11))] 4 [(0, .ref q1), (1, .int i26), (2, .int i27)] [] (rec i26 i27))  : V E K mX8_sumOfRooms (Qm E K mX8_sumOfRooms (zX8_sumOfRooms E q1 q3 i2 v4 i5 i6 i7 i8 i9 i10 f11)) (bc) (bs) [(q1, .inr (9, [.int i2, .ref q3, v4, .int i5, .int i6, .int i7, .int i8, .int i9, .int i10])), (q3, .inl (E.2.1, 81, .inl f11))] 4 [(0, .ref q1), (1, .int i26), (2, .int i27)] [] (BX8_sumOfRooms_L4  i2 f11 i26 i27 rec ) := by
  unfold BX8_sumOfRooms_L4
  refine V_iload_n (dX8_sumOfRooms 4 rfl) 5 rfl 2 rfl ?_
  refine V_aload_n (dX8_sumOfRooms 5 rfl) 6 rfl 0 rfl ?_
  refine V_get gf_M_17 0 rfl rfl (dX8_sumOfRooms 6 rfl) 9 rfl ?_
  refine V_icmp_ge (dX8_sumOfRooms 7 rfl) 30 (by decide) 12 rfl ?_ ?_
  · refine V_iload_n (dX8_sumOfRooms 18 rfl) 31 rfl 1 rfl ?_
    exact V_iret rfl (dX8_sumOfRooms 19 rfl) ⟨rfl, rfl⟩
  · refine V_iload_n (dX8_sumOfRooms 8 rfl) 13 rfl 1 rfl ?_
    refine V_aload_n (dX8_sumOfRooms 9 rfl) 14 rfl 0 rfl ?_
    refine V_aload_n (dX8_sumOfRooms 10 rfl) 15 rfl 0 rfl ?_
    refine V_get gf_M_20 0 rfl rfl (dX8_sumOfRooms 11 rfl) 18 rfl ?_
    refine V_iload_n (dX8_sumOfRooms 12 rfl) 19 rfl 2 rfl ?_
    refine V_callV (M := mX8_sumOfRooms) (wcs := [(q1, .inr (9, [.int i2, .ref q3, v4, .int i5, .int i6, .int i7, .int i8, .int i9, .int i10])), (q3, .inl (E.2.1, 81, .inl f11))]) (wr := []) mf_X8_fromPlace tw_1307 tw_1309 tw_32 ⟨Nat.le_of_ble_eq_true rfl, Nat.le_of_ble_eq_true rfl⟩ (dX8_sumOfRooms 13 rfl) 22 rfl (kX8_fromPlace hs q1 q3 i2 (.ref q3) v4 i5 i6 i7 i8 i9 i10 f11 i27) rfl [0, 1] [] (q0 := 0) rfl rfl rfl rfl (by decide) rfl rfl rfl rfl (Nat.le_of_ble_eq_true rfl) (bc) (bs) (show (bc) + 0 ≤ (bc) by omega) (show (bs) + 0 ≤ (bs) by omega) (fun z28 v w hz => ?_)
    obtain ⟨rfl, rfl⟩ := hz
    show V E K mX8_sumOfRooms (Qm E K mX8_sumOfRooms (zX8_sumOfRooms E q1 q3 i2 v4 i5 i6 i7 i8 i9 i10 f11)) (bc) (bs) [(q1, .inr (9, [.int i2, .ref q3, v4, .int i5, .int i6, .int i7, .int i8, .int i9, .int i10])), (q3, .inl (E.2.1, 81, .inl f11))] 22 [(0, .ref q1), (1, .int i26), (2, .int i27)] [.int z28, .int i26] _
    refine V_iadd (dX8_sumOfRooms 14 rfl) 23 rfl ?_
    refine V_nmI (fun i29 => ?_)
    refine V_istore_n (dX8_sumOfRooms 15 rfl) 24 rfl [(0, .ref q1), (1, .int i29), (2, .int i27)] (Nat.le_of_ble_eq_true rfl) rfl ?_
    refine V_iinc (dX8_sumOfRooms 16 rfl) 27 rfl 2 rfl (i27 + (1 : Int32)) rfl [(0, .ref q1), (1, .int i29), (2, .int (i27 + (1 : Int32)))] (Nat.le_of_ble_eq_true rfl) rfl ?_
    refine V_goto (dX8_sumOfRooms 17 rfl) 4 (by decide) ?_
    exact hrec i29 (i27 + (1 : Int32))
set_option maxRecDepth 20000 in
theorem vLX8_sumOfRooms_L4 {E : EX} {K : KX} (hs : K.l.stackTraces = false) (q1 q3 : Nat) (i2 : Int32) (v4 : Value) (i5 i6 i7 i8 i9 i10 : Int32) (f11 : Nat → Int32) (bc bs : Nat)   : ∀ (n : Nat) (i26 i27 : Int32), V E K mX8_sumOfRooms (Qm E K mX8_sumOfRooms (zX8_sumOfRooms E q1 q3 i2 v4 i5 i6 i7 i8 i9 i10 f11)) (bc) (bs) [(q1, .inr (9, [.int i2, .ref q3, v4, .int i5, .int i6, .int i7, .int i8, .int i9, .int i10])), (q3, .inl (E.2.1, 81, .inl f11))] 4 [(0, .ref q1), (1, .int i26), (2, .int i27)] [] (LX8_sumOfRooms_L4  i2 f11 n i26 i27 )
  | 0, _, _ => V_none
  | n + 1, i26, i27 => vBX8_sumOfRooms_L4 hs q1 q3 i2 v4 i5 i6 i7 i8 i9 i10 f11 bc bs i26 i27 (fun i26 i27 => vLX8_sumOfRooms_L4 hs q1 q3 i2 v4 i5 i6 i7 i8 i9 i10 f11 bc bs  n i26 i27) 
set_option maxRecDepth 20000 in
theorem kX8_sumOfRooms {E : EX} {l : Launch} (hl : l.stackTraces = false) (q1 q3 : Nat) (i2 : Int32) (v4 : Value) (i5 i6 i7 i8 i9 i10 : Int32) (f11 : Nat → Int32) : Ct E l mX8_sumOfRooms [.ref q1] [(q1, .inr (9, [.int i2, .ref q3, v4, .int i5, .int i6, .int i7, .int i8, .int i9, .int i10])), (q3, .inl (E.2.1, 81, .inl f11))] (fX8_sumOfRooms i2 f11) (zX8_sumOfRooms E q1 q3 i2 v4 i5 i6 i7 i8 i9 i10 f11) := Ct_of hl mf_X8_sumOfRooms.1 (Nat.le_of_ble_eq_true rfl) (fun K hs => by
  refine V_less 0 0 (Nat.le_refl _) (Nat.le_refl _) ?_
  refine V_pick [0] [(0, .ref q1)] rfl ?_
  unfold fX8_sumOfRooms
  refine V_iconst (0 : Int32) (by decide) (dX8_sumOfRooms 0 rfl) 1 rfl ?_
  refine V_istore_n (dX8_sumOfRooms 1 rfl) 2 rfl [(0, .ref q1), (1, .int (0 : Int32))] (Nat.le_of_ble_eq_true rfl) rfl ?_
  refine V_iconst (0 : Int32) (by decide) (dX8_sumOfRooms 2 rfl) 3 rfl ?_
  refine V_istore_n (dX8_sumOfRooms 3 rfl) 4 rfl [(0, .ref q1), (1, .int (0 : Int32)), (2, .int (0 : Int32))] (Nat.le_of_ble_eq_true rfl) rfl ?_
  refine vLX8_sumOfRooms_L4 hs q1 q3 i2 v4 i5 i6 i7 i8 i9 i10 f11 0 0  600 (0 : Int32) (0 : Int32))
set_option maxRecDepth 20000 in
theorem vBX8_strew_L37 {E : EX} {K : KX} (hs : K.l.stackTraces = false) (q1 q4 q5 : Nat) (i3 i6 i7 i9 i10 i2 i56 i8 i57 : Int32) (f13 : Nat → Int32) (bc bs : Nat) (i76 : Int32) (f77 : Nat → Int32) {rec : Int32 → (Nat → Int32) → Option (Int32 × Int32 × Int32 × (Nat → Int32) × (Nat → Int32))} {k1 : (Nat → Int32) → Option (Int32 × Int32 × Int32 × (Nat → Int32) × (Nat → Int32))} (hrec : ∀ (i76 : Int32) (f77 : Nat → Int32), V E K mX8_strew (Qm E K mX8_strew (zX8_strew E q1 q4 q5 i3 i6 i7 i9 i10)) (bc) (bs) [(q1, .inr (9, [.int i3, .ref q4, .ref q5, .int i6, .int i7, .int i8, .int i9, .int i10, .int i57])), (q4, .inl (E.2.1, 81, .inl f77)), (q5, .inl (E.2.1, 81, .inl f13))] 37 [(0, .ref q1), (1, .int i2), (2, .int i56), (3, .int i76)] [] (rec i76 f77)) (hk1 : ∀ (f81 : Nat → Int32), V E K mX8_strew (Qm E K mX8_strew (zX8_strew E q1 q4 q5 i3 i6 i7 i9 i10)) (bc) (bs) [(q1, .inr (9, [.int i3, .ref q4, .ref q5, .int i6, .int i7, .int i8, .int i9, .int i10, .int i57])), (q4, .inl (E.2.1, 81, .inl f81)), (q5, .inl (E.2.1, 81, .inl f13))] 94 [(0, .ref q1), (1, .int i2), (2, .int i56)] [] (k1 f81)) : V E K mX8_strew (Qm E K mX8_strew (zX8_strew E q1 q4 q5 i3 i6 i7 i9 i10)) (bc) (bs) [(q1, .inr (9, [.int i3, .ref q4, .ref q5, .int i6, .int i7, .int i8, .int i9, .int i10, .int i57])), (q4, .inl (E.2.1, 81, .inl f77)), (q5, .inl (E.2.1, 81, .inl f13))] 37 [(0, .ref q1), (1, .int i2), (2, .int i56), (3, .int i76)] [] (BX8_strew_L37  i3 i2 i56 i76 f77 rec k1) := by
  unfold BX8_strew_L37
  refine V_iload_n (dX8_strew 21 rfl) 38 rfl 3 rfl ?_
  refine V_aload_n (dX8_strew 22 rfl) 39 rfl 0 rfl ?_
  refine V_get gf_M_17 0 rfl rfl (dX8_strew 23 rfl) 42 rfl ?_
  refine V_icmp_ge (dX8_strew 24 rfl) 94 (by decide) 45 rfl ?_ ?_
  · refine V_pick [0, 1, 2] [(0, .ref q1), (1, .int i2), (2, .int i56)] rfl ?_
    exact hk1 f77
  · refine V_aload_n (dX8_strew 25 rfl) 46 rfl 0 rfl ?_
    refine V_get gf_M_20 0 rfl rfl (dX8_strew 26 rfl) 49 rfl ?_
    refine V_iload_n (dX8_strew 27 rfl) 50 rfl 2 rfl ?_
    refine V_bipush (9 : Int32) (by decide) (dX8_strew 28 rfl) 52 rfl ?_
    refine V_imul (dX8_strew 29 rfl) 53 rfl ?_
    refine V_iload_n (dX8_strew 30 rfl) 54 rfl 3 rfl ?_
    refine V_iadd (dX8_strew 31 rfl) 55 rfl ?_
    refine V_iload_n (dX8_strew 32 rfl) 56 rfl 2 rfl ?_
    refine V_iload_n (dX8_strew 33 rfl) 57 rfl 3 rfl ?_
    refine V_jn (fun (k78 : Int32 → Option (Int32 × Int32 × Int32 × (Nat → Int32) × (Nat → Int32))) => ∀ (i80 : Int32), V E K mX8_strew (Qm E K mX8_strew (zX8_strew E q1 q4 q5 i3 i6 i7 i9 i10)) (bc) (bs) [(q1, .inr (9, [.int i3, .ref q4, .ref q5, .int i6, .int i7, .int i8, .int i9, .int i10, .int i57])), (q4, .inl (E.2.1, 81, .inl f77)), (q5, .inl (E.2.1, 81, .inl f13))] 87 [(0, .ref q1), (1, .int i2), (2, .int i56), (3, .int i76)] [.int i80, .int ((i56 * (9 : Int32)) + i76), .ref q4] (k78 i80)) ?_ ?_
    · intro i80
      show V E K mX8_strew (Qm E K mX8_strew (zX8_strew E q1 q4 q5 i3 i6 i7 i9 i10)) (bc) (bs) [(q1, .inr (9, [.int i3, .ref q4, .ref q5, .int i6, .int i7, .int i8, .int i9, .int i10, .int i57])), (q4, .inl (E.2.1, 81, .inl f77)), (q5, .inl (E.2.1, 81, .inl f13))] 87 [(0, .ref q1), (1, .int i2), (2, .int i56), (3, .int i76)] [.int i80, .int ((i56 * (9 : Int32)) + i76), .ref q4] _
      refine V_iast 1 rfl (dX8_strew 56 rfl) 88 rfl [(q1, .inr (9, [.int i3, .ref q4, .ref q5, .int i6, .int i7, .int i8, .int i9, .int i10, .int i57])), (q4, .inl (E.2.1, 81, .inl (upd f77 ((i56 * (9 : Int32)) + i76).toNatClampNeg i80))), (q5, .inl (E.2.1, 81, .inl f13))] rfl ?_
      refine V_iinc (dX8_strew 57 rfl) 91 rfl 3 rfl (i76 + (1 : Int32)) rfl [(0, .ref q1), (1, .int i2), (2, .int i56), (3, .int (i76 + (1 : Int32)))] (Nat.le_of_ble_eq_true rfl) rfl ?_
      refine V_goto (dX8_strew 58 rfl) 37 (by decide) ?_
      exact hrec (i76 + (1 : Int32)) (upd f77 ((i56 * (9 : Int32)) + i76).toNatClampNeg i80)
    · intro k78 hk79
      refine V_icmp_ne (dX8_strew 34 rfl) 64 (by decide) 60 rfl ?_ ?_
      · refine V_iconst (0 : Int32) (by decide) (dX8_strew 37 rfl) 65 rfl ?_
        refine V_iload_n (dX8_strew 38 rfl) 66 rfl 1 rfl ?_
        refine V_bipush (7 : Int32) (by decide) (dX8_strew 39 rfl) 68 rfl ?_
        refine V_iload_n (dX8_strew 40 rfl) 69 rfl 2 rfl ?_
        refine V_imul (dX8_strew 41 rfl) 70 rfl ?_
        refine V_iadd (dX8_strew 42 rfl) 71 rfl ?_
        refine V_iconst (3 : Int32) (by decide) (dX8_strew 43 rfl) 72 rfl ?_
        refine V_iload_n (dX8_strew 44 rfl) 73 rfl 3 rfl ?_
        refine V_imul (dX8_strew 45 rfl) 74 rfl ?_
        refine V_iadd (dX8_strew 46 rfl) 75 rfl ?_
        refine V_iload_n (dX8_strew 47 rfl) 76 rfl 2 rfl ?_
        refine V_iload_n (dX8_strew 48 rfl) 77 rfl 3 rfl ?_
        refine V_imul (dX8_strew 49 rfl) 78 rfl ?_
        refine V_iadd (dX8_strew 50 rfl) 79 rfl ?_
        refine V_bipush (11 : Int32) (by decide) (dX8_strew 51 rfl) 81 rfl ?_
        refine V_irem (by decide) (dX8_strew 52 rfl) 82 rfl ?_
        refine V_iconst (4 : Int32) (by decide) (dX8_strew 53 rfl) 83 rfl ?_
        refine V_isub (dX8_strew 54 rfl) 84 rfl ?_
        refine V_mmax tw_1346 tw_612 tw_82 tw_613 (Nat.le_of_ble_eq_true rfl) (Nat.le_of_ble_eq_true rfl) (dX8_strew 55 rfl) 87 rfl ?_
        exact hk79 (if (0 : Int32) < (((((i2 + ((7 : Int32) * i56)) + ((3 : Int32) * i76)) + (i56 * i76)) - (((i2 + ((7 : Int32) * i56)) + ((3 : Int32) * i76)) + (i56 * i76)) / (11 : Int32) * (11 : Int32)) - (4 : Int32)) then (((((i2 + ((7 : Int32) * i56)) + ((3 : Int32) * i76)) + (i56 * i76)) - (((i2 + ((7 : Int32) * i56)) + ((3 : Int32) * i76)) + (i56 * i76)) / (11 : Int32) * (11 : Int32)) - (4 : Int32)) else (0 : Int32))
      · refine V_iconst (0 : Int32) (by decide) (dX8_strew 35 rfl) 61 rfl ?_
        refine V_goto (dX8_strew 36 rfl) 87 (by decide) ?_
        exact hk79 (0 : Int32)
set_option maxRecDepth 20000 in
theorem vLX8_strew_L37 {E : EX} {K : KX} (hs : K.l.stackTraces = false) (q1 q4 q5 : Nat) (i3 i6 i7 i9 i10 i2 i56 i8 i57 : Int32) (f13 : Nat → Int32) (bc bs : Nat) {k1 : (Nat → Int32) → Option (Int32 × Int32 × Int32 × (Nat → Int32) × (Nat → Int32))} (hk1 : ∀ (f81 : Nat → Int32), V E K mX8_strew (Qm E K mX8_strew (zX8_strew E q1 q4 q5 i3 i6 i7 i9 i10)) (bc) (bs) [(q1, .inr (9, [.int i3, .ref q4, .ref q5, .int i6, .int i7, .int i8, .int i9, .int i10, .int i57])), (q4, .inl (E.2.1, 81, .inl f81)), (q5, .inl (E.2.1, 81, .inl f13))] 94 [(0, .ref q1), (1, .int i2), (2, .int i56)] [] (k1 f81)) : ∀ (n : Nat) (i76 : Int32) (f77 : Nat → Int32), V E K mX8_strew (Qm E K mX8_strew (zX8_strew E q1 q4 q5 i3 i6 i7 i9 i10)) (bc) (bs) [(q1, .inr (9, [.int i3, .ref q4, .ref q5, .int i6, .int i7, .int i8, .int i9, .int i10, .int i57])), (q4, .inl (E.2.1, 81, .inl f77)), (q5, .inl (E.2.1, 81, .inl f13))] 37 [(0, .ref q1), (1, .int i2), (2, .int i56), (3, .int i76)] [] (LX8_strew_L37  i3 i2 i56 n i76 f77 k1)
  | 0, _, _ => V_none
  | n + 1, i76, f77 => vBX8_strew_L37 hs q1 q4 q5 i3 i6 i7 i9 i10 i2 i56 i8 i57 f13 bc bs i76 f77 (fun i76 f77 => vLX8_strew_L37 hs q1 q4 q5 i3 i6 i7 i9 i10 i2 i56 i8 i57 f13 bc bs hk1 n i76 f77) hk1
set_option maxRecDepth 20000 in
theorem vBX8_strew_L27 {E : EX} {K : KX} (hs : K.l.stackTraces = false) (q1 q4 q5 : Nat) (i3 i6 i7 i9 i10 i2 i8 i57 : Int32) (f13 : Nat → Int32) (bc bs : Nat) (i56 : Int32) (f58 : Nat → Int32) {rec : Int32 → (Nat → Int32) → Option (Int32 × Int32 × Int32 × (Nat → Int32) × (Nat → Int32))} {k1 : (Nat → Int32) → Option (Int32 × Int32 × Int32 × (Nat → Int32) × (Nat → Int32))} (hrec : ∀ (i56 : Int32) (f58 : Nat → Int32), V E K mX8_strew (Qm E K mX8_strew (zX8_strew E q1 q4 q5 i3 i6 i7 i9 i10)) (bc) (bs) [(q1, .inr (9, [.int i3, .ref q4, .ref q5, .int i6, .int i7, .int i8, .int i9, .int i10, .int i57])), (q4, .inl (E.2.1, 81, .inl f58)), (q5, .inl (E.2.1, 81, .inl f13))] 27 [(0, .ref q1), (1, .int i2), (2, .int i56)] [] (rec i56 f58)) (hk1 : ∀ (f82 : Nat → Int32), V E K mX8_strew (Qm E K mX8_strew (zX8_strew E q1 q4 q5 i3 i6 i7 i9 i10)) (bc) (bs) [(q1, .inr (9, [.int i3, .ref q4, .ref q5, .int i6, .int i7, .int i8, .int i9, .int i10, .int i57])), (q4, .inl (E.2.1, 81, .inl f82)), (q5, .inl (E.2.1, 81, .inl f13))] 100 [(0, .ref q1)] [] (k1 f82)) : V E K mX8_strew (Qm E K mX8_strew (zX8_strew E q1 q4 q5 i3 i6 i7 i9 i10)) (bc) (bs) [(q1, .inr (9, [.int i3, .ref q4, .ref q5, .int i6, .int i7, .int i8, .int i9, .int i10, .int i57])), (q4, .inl (E.2.1, 81, .inl f58)), (q5, .inl (E.2.1, 81, .inl f13))] 27 [(0, .ref q1), (1, .int i2), (2, .int i56)] [] (BX8_strew_L27  i3 i2 i56 f58 rec k1) := by
  unfold BX8_strew_L27
  refine V_iload_n (dX8_strew 15 rfl) 28 rfl 2 rfl ?_
  refine V_aload_n (dX8_strew 16 rfl) 29 rfl 0 rfl ?_
  refine V_get gf_M_17 0 rfl rfl (dX8_strew 17 rfl) 32 rfl ?_
  refine V_icmp_ge (dX8_strew 18 rfl) 100 (by decide) 35 rfl ?_ ?_
  · refine V_pick [0] [(0, .ref q1)] rfl ?_
    exact hk1 f58
  · refine V_iconst (0 : Int32) (by decide) (dX8_strew 19 rfl) 36 rfl ?_
    refine V_istore_n (dX8_strew 20 rfl) 37 rfl [(0, .ref q1), (1, .int i2), (2, .int i56), (3, .int (0 : Int32))] (Nat.le_of_ble_eq_true rfl) rfl ?_
    refine vLX8_strew_L37 hs q1 q4 q5 i3 i6 i7 i9 i10 i2 i56 i8 i57 f13 (bc) (bs) ?_ 600 (0 : Int32) f58
    intro f81
    show V E K mX8_strew (Qm E K mX8_strew (zX8_strew E q1 q4 q5 i3 i6 i7 i9 i10)) (bc) (bs) [(q1, .inr (9, [.int i3, .ref q4, .ref q5, .int i6, .int i7, .int i8, .int i9, .int i10, .int i57])), (q4, .inl (E.2.1, 81, .inl f81)), (q5, .inl (E.2.1, 81, .inl f13))] 94 [(0, .ref q1), (1, .int i2), (2, .int i56)] [] _
    refine V_iinc (dX8_strew 59 rfl) 97 rfl 2 rfl (i56 + (1 : Int32)) rfl [(0, .ref q1), (1, .int i2), (2, .int (i56 + (1 : Int32)))] (Nat.le_of_ble_eq_true rfl) rfl ?_
    refine V_goto (dX8_strew 60 rfl) 27 (by decide) ?_
    exact hrec (i56 + (1 : Int32)) f81
set_option maxRecDepth 20000 in
theorem vLX8_strew_L27 {E : EX} {K : KX} (hs : K.l.stackTraces = false) (q1 q4 q5 : Nat) (i3 i6 i7 i9 i10 i2 i8 i57 : Int32) (f13 : Nat → Int32) (bc bs : Nat) {k1 : (Nat → Int32) → Option (Int32 × Int32 × Int32 × (Nat → Int32) × (Nat → Int32))} (hk1 : ∀ (f82 : Nat → Int32), V E K mX8_strew (Qm E K mX8_strew (zX8_strew E q1 q4 q5 i3 i6 i7 i9 i10)) (bc) (bs) [(q1, .inr (9, [.int i3, .ref q4, .ref q5, .int i6, .int i7, .int i8, .int i9, .int i10, .int i57])), (q4, .inl (E.2.1, 81, .inl f82)), (q5, .inl (E.2.1, 81, .inl f13))] 100 [(0, .ref q1)] [] (k1 f82)) : ∀ (n : Nat) (i56 : Int32) (f58 : Nat → Int32), V E K mX8_strew (Qm E K mX8_strew (zX8_strew E q1 q4 q5 i3 i6 i7 i9 i10)) (bc) (bs) [(q1, .inr (9, [.int i3, .ref q4, .ref q5, .int i6, .int i7, .int i8, .int i9, .int i10, .int i57])), (q4, .inl (E.2.1, 81, .inl f58)), (q5, .inl (E.2.1, 81, .inl f13))] 27 [(0, .ref q1), (1, .int i2), (2, .int i56)] [] (LX8_strew_L27  i3 i2 n i56 f58 k1)
  | 0, _, _ => V_none
  | n + 1, i56, f58 => vBX8_strew_L27 hs q1 q4 q5 i3 i6 i7 i9 i10 i2 i8 i57 f13 bc bs i56 f58 (fun i56 f58 => vLX8_strew_L27 hs q1 q4 q5 i3 i6 i7 i9 i10 i2 i8 i57 f13 bc bs hk1 n i56 f58) hk1
set_option maxRecDepth 20000 in
theorem kX8_strew {E : EX} {l : Launch} (hl : l.stackTraces = false) (q1 q4 q5 : Nat) (i3 i6 i7 i8 i9 i10 i11 : Int32) (f12 f13 : Nat → Int32) (i2 : Int32) : Ct E l mX8_strew [.ref q1, .int i2] [(q1, .inr (9, [.int i3, .ref q4, .ref q5, .int i6, .int i7, .int i8, .int i9, .int i10, .int i11])), (q4, .inl (E.2.1, 81, .inl f12)), (q5, .inl (E.2.1, 81, .inl f13))] (fX8_strew i3 i8 f12 f13 i2) (zX8_strew E q1 q4 q5 i3 i6 i7 i9 i10) := Ct_of hl mf_X8_strew.1 (Nat.le_of_ble_eq_true rfl) (fun K hs => by
  refine V_less 0 0 (Nat.le_refl _) (Nat.le_refl _) ?_
  refine V_pick [0, 1] [(0, .ref q1), (1, .int i2)] rfl ?_
  unfold fX8_strew
  refine V_aload_n (dX8_strew 0 rfl) 1 rfl 0 rfl ?_
  refine V_iload_n (dX8_strew 1 rfl) 2 rfl 1 rfl ?_
  refine V_jn (fun (k14 : Int32 → Option (Int32 × Int32 × Int32 × (Nat → Int32) × (Nat → Int32))) => ∀ (i18 : Int32), V E K mX8_strew (Qm E K mX8_strew (zX8_strew E q1 q4 q5 i3 i6 i7 i9 i10)) 0 0 [(q1, .inr (9, [.int i3, .ref q4, .ref q5, .int i6, .int i7, .int i8, .int i9, .int i10, .int i11])), (q4, .inl (E.2.1, 81, .inl f12)), (q5, .inl (E.2.1, 81, .inl f13))] 17 [(0, .ref q1), (1, .int i2)] [.int i18, .ref q1] (k14 i18)) ?_ ?_
  · intro i18
    show V E K mX8_strew (Qm E K mX8_strew (zX8_strew E q1 q4 q5 i3 i6 i7 i9 i10)) 0 0 [(q1, .inr (9, [.int i3, .ref q4, .ref q5, .int i6, .int i7, .int i8, .int i9, .int i10, .int i11])), (q4, .inl (E.2.1, 81, .inl f12)), (q5, .inl (E.2.1, 81, .inl f13))] 17 [(0, .ref q1), (1, .int i2)] [.int i18, .ref q1] _
    refine V_callV (M := mX8_strew) (wcs := [(q1, .inr (9, [.int i3, .ref q4, .ref q5, .int i6, .int i7, .int i8, .int i9, .int i10, .int i11]))]) (wr := [(q4, .inl (E.2.1, 81, .inl f12)), (q5, .inl (E.2.1, 81, .inl f13))]) mf_X8_isThrown_ tw_1283 tw_1285 tw_27 ⟨Nat.le_of_ble_eq_true rfl, Nat.le_of_ble_eq_true rfl⟩ (dX8_strew 9 rfl) 20 rfl (kX8_isThrown_ hs q1 i3 (.ref q4) (.ref q5) i6 i7 i8 i9 i10 i11 i18) rfl [0] [1, 2] (q0 := 0) rfl rfl rfl rfl (by decide) rfl rfl rfl rfl (Nat.le_of_ble_eq_true rfl) 0 0 (show 0 + 0 ≤ 0 from Nat.le_of_ble_eq_true rfl) (show 0 + 0 ≤ 0 from Nat.le_of_ble_eq_true rfl) (fun z19 v w hz => ?_)
    obtain ⟨rfl, rfl⟩ := hz
    show V E K mX8_strew (Qm E K mX8_strew (zX8_strew E q1 q4 q5 i3 i6 i7 i9 i10)) 0 0 [(q4, .inl (E.2.1, 81, .inl f12)), (q5, .inl (E.2.1, 81, .inl f13)), (q1, .inr (9, [.int i3, .ref q4, .ref q5, .int i6, .int i7, .int i8, .int i9, .int i10, .int z19.2]))] 20 [(0, .ref q1), (1, .int i2)] [.int z19.1] _
    refine V_if_eq (dX8_strew 10 rfl) 25 (by decide) 23 rfl ?_ ?_
    · refine V_iconst (0 : Int32) (by decide) (dX8_strew 13 rfl) 26 rfl ?_
      refine V_istore_n (dX8_strew 14 rfl) 27 rfl [(0, .ref q1), (1, .int i2), (2, .int (0 : Int32))] (Nat.le_of_ble_eq_true rfl) rfl ?_
      refine V_world [2, 0, 1] [(q1, .inr (9, [.int i3, .ref q4, .ref q5, .int i6, .int i7, .int i8, .int i9, .int i10, .int z19.2])), (q4, .inl (E.2.1, 81, .inl f12)), (q5, .inl (E.2.1, 81, .inl f13))] rfl rfl rfl ?_
      refine vLX8_strew_L27 hs q1 q4 q5 i3 i6 i7 i9 i10 i2 i8 z19.2 f13 0 0 ?_ 600 (0 : Int32) f12
      intro f82
      show V E K mX8_strew (Qm E K mX8_strew (zX8_strew E q1 q4 q5 i3 i6 i7 i9 i10)) 0 0 [(q1, .inr (9, [.int i3, .ref q4, .ref q5, .int i6, .int i7, .int i8, .int i9, .int i10, .int z19.2])), (q4, .inl (E.2.1, 81, .inl f82)), (q5, .inl (E.2.1, 81, .inl f13))] 100 [(0, .ref q1)] [] _
      refine V_aload_n (dX8_strew 61 rfl) 101 rfl 0 rfl ?_
      refine V_callV (M := mX8_strew) (wcs := [(q1, .inr (9, [.int i3, .ref q4, .ref q5, .int i6, .int i7, .int i8, .int i9, .int i10, .int z19.2])), (q5, .inl (E.2.1, 81, .inl f13))]) (wr := [(q4, .inl (E.2.1, 81, .inl f82))]) mf_X8_still tw_1311 tw_1313 tw_33 ⟨Nat.le_of_ble_eq_true rfl, Nat.le_of_ble_eq_true rfl⟩ (dX8_strew 62 rfl) 104 rfl (kX8_still hs q1 q5 i3 (.ref q4) i6 i7 i8 i9 i10 z19.2 f13) rfl [0, 2] [1] (q0 := 0) rfl rfl rfl rfl (by decide) rfl rfl rfl rfl (Nat.le_of_ble_eq_true rfl) 0 0 (show 0 + 0 ≤ 0 from Nat.le_of_ble_eq_true rfl) (show 0 + 0 ≤ 0 from Nat.le_of_ble_eq_true rfl) (fun z83 v w hz => ?_)
      obtain ⟨rfl, rfl⟩ := hz
      show V E K mX8_strew (Qm E K mX8_strew (zX8_strew E q1 q4 q5 i3 i6 i7 i9 i10)) 0 0 [(q4, .inl (E.2.1, 81, .inl f82)), (q1, .inr (9, [.int i3, .ref q4, .ref q5, .int i6, .int i7, .int i8, .int i9, .int i10, .int z19.2])), (q5, .inl (E.2.1, 81, .inl z83))] 104 [(0, .ref q1)] [] _
      refine V_aload_n (dX8_strew 63 rfl) 105 rfl 0 rfl ?_
      refine V_aload_n (dX8_strew 64 rfl) 106 rfl 0 rfl ?_
      refine V_callV (M := mX8_strew) (wcs := [(q1, .inr (9, [.int i3, .ref q4, .ref q5, .int i6, .int i7, .int i8, .int i9, .int i10, .int z19.2])), (q4, .inl (E.2.1, 81, .inl f82))]) (wr := [(q5, .inl (E.2.1, 81, .inl z83))]) mf_X8_sumOfRooms tw_1347 tw_1349 tw_37 ⟨Nat.le_of_ble_eq_true rfl, Nat.le_of_ble_eq_true rfl⟩ (dX8_strew 65 rfl) 109 rfl (kX8_sumOfRooms hs q1 q4 i3 (.ref q5) i6 i7 i8 i9 i10 z19.2 f82) rfl [1, 0] [2] (q0 := 0) rfl rfl rfl rfl (by decide) rfl rfl rfl rfl (Nat.le_of_ble_eq_true rfl) 0 0 (show 0 + 0 ≤ 0 from Nat.le_of_ble_eq_true rfl) (show 0 + 0 ≤ 0 from Nat.le_of_ble_eq_true rfl) (fun z84 v w hz => ?_)
      obtain ⟨rfl, rfl⟩ := hz
      show V E K mX8_strew (Qm E K mX8_strew (zX8_strew E q1 q4 q5 i3 i6 i7 i9 i10)) 0 0 [(q5, .inl (E.2.1, 81, .inl z83)), (q1, .inr (9, [.int i3, .ref q4, .ref q5, .int i6, .int i7, .int i8, .int i9, .int i10, .int z19.2])), (q4, .inl (E.2.1, 81, .inl f82))] 109 [(0, .ref q1)] [.int z84, .ref q1] _
      refine V_callV (M := mX8_strew) (wcs := [(q1, .inr (9, [.int i3, .ref q4, .ref q5, .int i6, .int i7, .int i8, .int i9, .int i10, .int z19.2]))]) (wr := [(q5, .inl (E.2.1, 81, .inl z83)), (q4, .inl (E.2.1, 81, .inl f82))]) mf_X8_did tw_1291 tw_1293 tw_29 ⟨Nat.le_of_ble_eq_true rfl, Nat.le_of_ble_eq_true rfl⟩ (dX8_strew 66 rfl) 112 rfl (kX8_did hs q1 i3 (.ref q4) (.ref q5) i6 i7 i8 i9 i10 z19.2 z84) rfl [1] [0, 2] (q0 := 0) rfl rfl rfl rfl (by decide) rfl rfl rfl rfl (Nat.le_of_ble_eq_true rfl) 0 0 (show 0 + 0 ≤ 0 from Nat.le_of_ble_eq_true rfl) (show 0 + 0 ≤ 0 from Nat.le_of_ble_eq_true rfl) (fun z85 v w hz => ?_)
      obtain ⟨rfl, rfl⟩ := hz
      show V E K mX8_strew (Qm E K mX8_strew (zX8_strew E q1 q4 q5 i3 i6 i7 i9 i10)) 0 0 [(q5, .inl (E.2.1, 81, .inl z83)), (q4, .inl (E.2.1, 81, .inl f82)), (q1, .inr (9, [.int i3, .ref q4, .ref q5, .int i6, .int i7, .int z85.2, .int i9, .int i10, .int z19.2]))] 112 [(0, .ref q1)] [.int z85.1] _
      refine V_world [2, 1, 0] [(q1, .inr (9, [.int i3, .ref q4, .ref q5, .int i6, .int i7, .int z85.2, .int i9, .int i10, .int z19.2])), (q4, .inl (E.2.1, 81, .inl f82)), (q5, .inl (E.2.1, 81, .inl z83))] rfl rfl rfl ?_
      exact V_iret rfl (dX8_strew 67 rfl) ⟨rfl, rfl⟩
    · refine V_iconst (0 : Int32) (by decide) (dX8_strew 11 rfl) 24 rfl ?_
      refine V_world [2, 0, 1] [(q1, .inr (9, [.int i3, .ref q4, .ref q5, .int i6, .int i7, .int i8, .int i9, .int i10, .int z19.2])), (q4, .inl (E.2.1, 81, .inl f12)), (q5, .inl (E.2.1, 81, .inl f13))] rfl rfl rfl ?_
      exact V_iret rfl (dX8_strew 12 rfl) ⟨rfl, rfl⟩
  · intro k14 hk15
    refine V_jn (fun (k16 : Unit → Option (Int32 × Int32 × Int32 × (Nat → Int32) × (Nat → Int32))) => ∀ (_ : Unit), V E K mX8_strew (Qm E K mX8_strew (zX8_strew E q1 q4 q5 i3 i6 i7 i9 i10)) 0 0 [(q1, .inr (9, [.int i3, .ref q4, .ref q5, .int i6, .int i7, .int i8, .int i9, .int i10, .int i11])), (q4, .inl (E.2.1, 81, .inl f12)), (q5, .inl (E.2.1, 81, .inl f13))] 12 [(0, .ref q1), (1, .int i2)] [.ref q1] (k16 ())) ?_ ?_
    · intro _
      show V E K mX8_strew (Qm E K mX8_strew (zX8_strew E q1 q4 q5 i3 i6 i7 i9 i10)) 0 0 [(q1, .inr (9, [.int i3, .ref q4, .ref q5, .int i6, .int i7, .int i8, .int i9, .int i10, .int i11])), (q4, .inl (E.2.1, 81, .inl f12)), (q5, .inl (E.2.1, 81, .inl f13))] 12 [(0, .ref q1), (1, .int i2)] [.ref q1] _
      refine V_iconst (1 : Int32) (by decide) (dX8_strew 6 rfl) 13 rfl ?_
      refine V_goto (dX8_strew 7 rfl) 17 (by decide) ?_
      exact hk15 (1 : Int32)
    · intro k16 hk17
      refine V_if_lt (dX8_strew 2 rfl) 12 (by decide) 5 rfl ?_ ?_
      · exact hk17 ()
      · refine V_iload_n (dX8_strew 3 rfl) 6 rfl 1 rfl ?_
        refine V_sipush (9999 : Int32) (by decide) (dX8_strew 4 rfl) 9 rfl ?_
        refine V_icmp_le (dX8_strew 5 rfl) 16 (by decide) 12 rfl ?_ ?_
        · refine V_iconst (0 : Int32) (by decide) (dX8_strew 8 rfl) 17 rfl ?_
          exact hk15 (0 : Int32)
        · exact hk17 ())
set_option maxRecDepth 20000 in
theorem kX8_exchange {E : EX} {l : Launch} (hl : l.stackTraces = false) (q1 : Nat) (f4 : Nat → Int32) (i2 i3 : Int32) : Ct E l mX8_exchange [.ref q1, .int i2, .int i3] [(q1, .inl (E.2.1, 81, .inl f4))] (fX8_exchange f4 i2 i3) (zX8_exchange E q1) := Ct_of hl mf_X8_exchange.1 (Nat.le_of_ble_eq_true rfl) (fun K hs => by
  refine V_less 0 0 (Nat.le_refl _) (Nat.le_refl _) ?_
  refine V_pick [0, 1, 2] [(0, .ref q1), (1, .int i2), (2, .int i3)] rfl ?_
  unfold fX8_exchange
  refine V_aload_n (dX8_exchange 0 rfl) 1 rfl 0 rfl ?_
  refine V_iload_n (dX8_exchange 1 rfl) 2 rfl 1 rfl ?_
  refine V_iald 0 rfl (dX8_exchange 2 rfl) 3 rfl ?_
  refine V_nmI (fun i5 => ?_)
  refine V_istore_n (dX8_exchange 3 rfl) 4 rfl [(0, .ref q1), (1, .int i2), (2, .int i3), (3, .int i5)] (Nat.le_of_ble_eq_true rfl) rfl ?_
  refine V_aload_n (dX8_exchange 4 rfl) 5 rfl 0 rfl ?_
  refine V_iload_n (dX8_exchange 5 rfl) 6 rfl 1 rfl ?_
  refine V_aload_n (dX8_exchange 6 rfl) 7 rfl 0 rfl ?_
  refine V_iload_n (dX8_exchange 7 rfl) 8 rfl 2 rfl ?_
  refine V_iald 0 rfl (dX8_exchange 8 rfl) 9 rfl ?_
  refine V_iast 0 rfl (dX8_exchange 9 rfl) 10 rfl [(q1, .inl (E.2.1, 81, .inl (upd f4 i2.toNatClampNeg (f4 i3.toNatClampNeg))))] rfl ?_
  refine V_aload_n (dX8_exchange 10 rfl) 11 rfl 0 rfl ?_
  refine V_iload_n (dX8_exchange 11 rfl) 12 rfl 2 rfl ?_
  refine V_iload_n (dX8_exchange 12 rfl) 13 rfl 3 rfl ?_
  refine V_iast 0 rfl (dX8_exchange 13 rfl) 14 rfl [(q1, .inl (E.2.1, 81, .inl (upd (upd f4 i2.toNatClampNeg (f4 i3.toNatClampNeg)) i3.toNatClampNeg i5)))] rfl ?_
  exact V_vret rfl (dX8_exchange 14 rfl) ⟨rfl, rfl⟩)
set_option maxRecDepth 20000 in
theorem vBX8_turnRound_L17 {E : EX} {K : KX} (hs : K.l.stackTraces = false) (q1 q3 q4 : Nat) (i2 i6 i5 i8 i9 i47 i7 : Int32) (bc bs : Nat) (i65 : Int32) (f66 f67 : Nat → Int32) {rec : Int32 → (Nat → Int32) → (Nat → Int32) → Option (Int32 × Int32 × (Nat → Int32) × (Nat → Int32))} {k1 : (Nat → Int32) → (Nat → Int32) → Option (Int32 × Int32 × (Nat → Int32) × (Nat → Int32))} (hrec : ∀ (i65 : Int32) (f66 f67 : Nat → Int32), V E K mX8_turnRound (Qm E K mX8_turnRound (zX8_turnRound E q1 q3 q4 i2 i6 i5 i8 i9)) (bc) (bs) [(q1, .inr (9, [.int i2, .ref q3, .ref q4, .int i5, .int i6, .int i7, .int i8, .int i9, .int (0 : Int32)])), (q3, .inl (E.2.1, 81, .inl f66)), (q4, .inl (E.2.1, 81, .inl f67))] 17 [(0, .ref q1), (1, .int i47), (2, .int i65)] [] (rec i65 f66 f67)) (hk1 : ∀ (f70 f71 : Nat → Int32), V E K mX8_turnRound (Qm E K mX8_turnRound (zX8_turnRound E q1 q3 q4 i2 i6 i5 i8 i9)) (bc) (bs) [(q1, .inr (9, [.int i2, .ref q3, .ref q4, .int i5, .int i6, .int i7, .int i8, .int i9, .int (0 : Int32)])), (q3, .inl (E.2.1, 81, .inl f70)), (q4, .inl (E.2.1, 81, .inl f71))] 66 [(0, .ref q1), (1, .int i47)] [] (k1 f70 f71)) : V E K mX8_turnRound (Qm E K mX8_turnRound (zX8_turnRound E q1 q3 q4 i2 i6 i5 i8 i9)) (bc) (bs) [(q1, .inr (9, [.int i2, .ref q3, .ref q4, .int i5, .int i6, .int i7, .int i8, .int i9, .int (0 : Int32)])), (q3, .inl (E.2.1, 81, .inl f66)), (q4, .inl (E.2.1, 81, .inl f67))] 17 [(0, .ref q1), (1, .int i47), (2, .int i65)] [] (BX8_turnRound_L17  i47 i65 f66 f67 rec k1) := by
  unfold BX8_turnRound_L17
  refine V_iload_n (dX8_turnRound 11 rfl) 18 rfl 2 rfl ?_
  refine V_iload_n (dX8_turnRound 12 rfl) 19 rfl 1 rfl ?_
  refine V_icmp_ge (dX8_turnRound 13 rfl) 66 (by decide) 22 rfl ?_ ?_
  · refine V_pick [0, 1] [(0, .ref q1), (1, .int i47)] rfl ?_
    exact hk1 f66 f67
  · refine V_aload_n (dX8_turnRound 14 rfl) 23 rfl 0 rfl ?_
    refine V_get gf_M_20 0 rfl rfl (dX8_turnRound 15 rfl) 26 rfl ?_
    refine V_iload_n (dX8_turnRound 16 rfl) 27 rfl 1 rfl ?_
    refine V_bipush (9 : Int32) (by decide) (dX8_turnRound 17 rfl) 29 rfl ?_
    refine V_imul (dX8_turnRound 18 rfl) 30 rfl ?_
    refine V_iload_n (dX8_turnRound 19 rfl) 31 rfl 2 rfl ?_
    refine V_iadd (dX8_turnRound 20 rfl) 32 rfl ?_
    refine V_iload_n (dX8_turnRound 21 rfl) 33 rfl 2 rfl ?_
    refine V_bipush (9 : Int32) (by decide) (dX8_turnRound 22 rfl) 35 rfl ?_
    refine V_imul (dX8_turnRound 23 rfl) 36 rfl ?_
    refine V_iload_n (dX8_turnRound 24 rfl) 37 rfl 1 rfl ?_
    refine V_iadd (dX8_turnRound 25 rfl) 38 rfl ?_
    refine V_callS (M := mX8_turnRound) (wcs := [(q3, .inl (E.2.1, 81, .inl f66))]) (wr := [(q1, .inr (9, [.int i2, .ref q3, .ref q4, .int i5, .int i6, .int i7, .int i8, .int i9, .int (0 : Int32)])), (q4, .inl (E.2.1, 81, .inl f67))]) mf_X8_exchange tw_1355 tw_1356 ⟨Nat.le_of_ble_eq_true rfl, Nat.le_of_ble_eq_true rfl⟩ (dX8_turnRound 26 rfl) 41 rfl (kX8_exchange hs q3 f66 ((i47 * (9 : Int32)) + i65) ((i65 * (9 : Int32)) + i47)) rfl [1] [0, 2] rfl rfl rfl rfl (by decide) rfl (Nat.le_of_ble_eq_true rfl) (bc) (bs) (show (bc) + 0 ≤ (bc) by omega) (show (bs) + 0 ≤ (bs) by omega) (fun z68 v w hz => ?_)
    obtain ⟨rfl, rfl⟩ := hz
    show V E K mX8_turnRound (Qm E K mX8_turnRound (zX8_turnRound E q1 q3 q4 i2 i6 i5 i8 i9)) (bc) (bs) [(q1, .inr (9, [.int i2, .ref q3, .ref q4, .int i5, .int i6, .int i7, .int i8, .int i9, .int (0 : Int32)])), (q4, .inl (E.2.1, 81, .inl f67)), (q3, .inl (E.2.1, 81, .inl z68))] 41 [(0, .ref q1), (1, .int i47), (2, .int i65)] [] _
    refine V_aload_n (dX8_turnRound 27 rfl) 42 rfl 0 rfl ?_
    refine V_get gf_M_24 0 rfl rfl (dX8_turnRound 28 rfl) 45 rfl ?_
    refine V_iload_n (dX8_turnRound 29 rfl) 46 rfl 1 rfl ?_
    refine V_bipush (9 : Int32) (by decide) (dX8_turnRound 30 rfl) 48 rfl ?_
    refine V_imul (dX8_turnRound 31 rfl) 49 rfl ?_
    refine V_iload_n (dX8_turnRound 32 rfl) 50 rfl 2 rfl ?_
    refine V_iadd (dX8_turnRound 33 rfl) 51 rfl ?_
    refine V_iload_n (dX8_turnRound 34 rfl) 52 rfl 2 rfl ?_
    refine V_bipush (9 : Int32) (by decide) (dX8_turnRound 35 rfl) 54 rfl ?_
    refine V_imul (dX8_turnRound 36 rfl) 55 rfl ?_
    refine V_iload_n (dX8_turnRound 37 rfl) 56 rfl 1 rfl ?_
    refine V_iadd (dX8_turnRound 38 rfl) 57 rfl ?_
    refine V_callS (M := mX8_turnRound) (wcs := [(q4, .inl (E.2.1, 81, .inl f67))]) (wr := [(q1, .inr (9, [.int i2, .ref q3, .ref q4, .int i5, .int i6, .int i7, .int i8, .int i9, .int (0 : Int32)])), (q3, .inl (E.2.1, 81, .inl z68))]) mf_X8_exchange tw_1355 tw_1356 ⟨Nat.le_of_ble_eq_true rfl, Nat.le_of_ble_eq_true rfl⟩ (dX8_turnRound 39 rfl) 60 rfl (kX8_exchange hs q4 f67 ((i47 * (9 : Int32)) + i65) ((i65 * (9 : Int32)) + i47)) rfl [1] [0, 2] rfl rfl rfl rfl (by decide) rfl (Nat.le_of_ble_eq_true rfl) (bc) (bs) (show (bc) + 0 ≤ (bc) by omega) (show (bs) + 0 ≤ (bs) by omega) (fun z69 v w hz => ?_)
    obtain ⟨rfl, rfl⟩ := hz
    show V E K mX8_turnRound (Qm E K mX8_turnRound (zX8_turnRound E q1 q3 q4 i2 i6 i5 i8 i9)) (bc) (bs) [(q1, .inr (9, [.int i2, .ref q3, .ref q4, .int i5, .int i6, .int i7, .int i8, .int i9, .int (0 : Int32)])), (q3, .inl (E.2.1, 81, .inl z68)), (q4, .inl (E.2.1, 81, .inl z69))] 60 [(0, .ref q1), (1, .int i47), (2, .int i65)] [] _
    refine V_iinc (dX8_turnRound 40 rfl) 63 rfl 2 rfl (i65 + (1 : Int32)) rfl [(0, .ref q1), (1, .int i47), (2, .int (i65 + (1 : Int32)))] (Nat.le_of_ble_eq_true rfl) rfl ?_
    refine V_goto (dX8_turnRound 41 rfl) 17 (by decide) ?_
    exact hrec (i65 + (1 : Int32)) z68 z69
set_option maxRecDepth 20000 in
theorem vLX8_turnRound_L17 {E : EX} {K : KX} (hs : K.l.stackTraces = false) (q1 q3 q4 : Nat) (i2 i6 i5 i8 i9 i47 i7 : Int32) (bc bs : Nat) {k1 : (Nat → Int32) → (Nat → Int32) → Option (Int32 × Int32 × (Nat → Int32) × (Nat → Int32))} (hk1 : ∀ (f70 f71 : Nat → Int32), V E K mX8_turnRound (Qm E K mX8_turnRound (zX8_turnRound E q1 q3 q4 i2 i6 i5 i8 i9)) (bc) (bs) [(q1, .inr (9, [.int i2, .ref q3, .ref q4, .int i5, .int i6, .int i7, .int i8, .int i9, .int (0 : Int32)])), (q3, .inl (E.2.1, 81, .inl f70)), (q4, .inl (E.2.1, 81, .inl f71))] 66 [(0, .ref q1), (1, .int i47)] [] (k1 f70 f71)) : ∀ (n : Nat) (i65 : Int32) (f66 f67 : Nat → Int32), V E K mX8_turnRound (Qm E K mX8_turnRound (zX8_turnRound E q1 q3 q4 i2 i6 i5 i8 i9)) (bc) (bs) [(q1, .inr (9, [.int i2, .ref q3, .ref q4, .int i5, .int i6, .int i7, .int i8, .int i9, .int (0 : Int32)])), (q3, .inl (E.2.1, 81, .inl f66)), (q4, .inl (E.2.1, 81, .inl f67))] 17 [(0, .ref q1), (1, .int i47), (2, .int i65)] [] (LX8_turnRound_L17  i47 n i65 f66 f67 k1)
  | 0, _, _, _ => V_none
  | n + 1, i65, f66, f67 => vBX8_turnRound_L17 hs q1 q3 q4 i2 i6 i5 i8 i9 i47 i7 bc bs i65 f66 f67 (fun i65 f66 f67 => vLX8_turnRound_L17 hs q1 q3 q4 i2 i6 i5 i8 i9 i47 i7 bc bs hk1 n i65 f66 f67) hk1
set_option maxRecDepth 20000 in
theorem vBX8_turnRound_L7 {E : EX} {K : KX} (hs : K.l.stackTraces = false) (q1 q3 q4 : Nat) (i2 i6 i5 i8 i9 i7 : Int32) (bc bs : Nat) (i47 : Int32) (f48 f49 : Nat → Int32) {rec : Int32 → (Nat → Int32) → (Nat → Int32) → Option (Int32 × Int32 × (Nat → Int32) × (Nat → Int32))} {k1 : (Nat → Int32) → (Nat → Int32) → Option (Int32 × Int32 × (Nat → Int32) × (Nat → Int32))} (hrec : ∀ (i47 : Int32) (f48 f49 : Nat → Int32), V E K mX8_turnRound (Qm E K mX8_turnRound (zX8_turnRound E q1 q3 q4 i2 i6 i5 i8 i9)) (bc) (bs) [(q1, .inr (9, [.int i2, .ref q3, .ref q4, .int i5, .int i6, .int i7, .int i8, .int i9, .int (0 : Int32)])), (q3, .inl (E.2.1, 81, .inl f48)), (q4, .inl (E.2.1, 81, .inl f49))] 7 [(0, .ref q1), (1, .int i47)] [] (rec i47 f48 f49)) (hk1 : ∀ (f72 f73 : Nat → Int32), V E K mX8_turnRound (Qm E K mX8_turnRound (zX8_turnRound E q1 q3 q4 i2 i6 i5 i8 i9)) (bc) (bs) [(q1, .inr (9, [.int i2, .ref q3, .ref q4, .int i5, .int i6, .int i7, .int i8, .int i9, .int (0 : Int32)])), (q3, .inl (E.2.1, 81, .inl f72)), (q4, .inl (E.2.1, 81, .inl f73))] 72 [(0, .ref q1)] [] (k1 f72 f73)) : V E K mX8_turnRound (Qm E K mX8_turnRound (zX8_turnRound E q1 q3 q4 i2 i6 i5 i8 i9)) (bc) (bs) [(q1, .inr (9, [.int i2, .ref q3, .ref q4, .int i5, .int i6, .int i7, .int i8, .int i9, .int (0 : Int32)])), (q3, .inl (E.2.1, 81, .inl f48)), (q4, .inl (E.2.1, 81, .inl f49))] 7 [(0, .ref q1), (1, .int i47)] [] (BX8_turnRound_L7  i2 i47 f48 f49 rec k1) := by
  unfold BX8_turnRound_L7
  refine V_iload_n (dX8_turnRound 5 rfl) 8 rfl 1 rfl ?_
  refine V_aload_n (dX8_turnRound 6 rfl) 9 rfl 0 rfl ?_
  refine V_get gf_M_17 0 rfl rfl (dX8_turnRound 7 rfl) 12 rfl ?_
  refine V_icmp_ge (dX8_turnRound 8 rfl) 72 (by decide) 15 rfl ?_ ?_
  · refine V_pick [0] [(0, .ref q1)] rfl ?_
    exact hk1 f48 f49
  · refine V_iconst (0 : Int32) (by decide) (dX8_turnRound 9 rfl) 16 rfl ?_
    refine V_istore_n (dX8_turnRound 10 rfl) 17 rfl [(0, .ref q1), (1, .int i47), (2, .int (0 : Int32))] (Nat.le_of_ble_eq_true rfl) rfl ?_
    refine vLX8_turnRound_L17 hs q1 q3 q4 i2 i6 i5 i8 i9 i47 i7 (bc) (bs) ?_ 600 (0 : Int32) f48 f49
    intro f70 f71
    show V E K mX8_turnRound (Qm E K mX8_turnRound (zX8_turnRound E q1 q3 q4 i2 i6 i5 i8 i9)) (bc) (bs) [(q1, .inr (9, [.int i2, .ref q3, .ref q4, .int i5, .int i6, .int i7, .int i8, .int i9, .int (0 : Int32)])), (q3, .inl (E.2.1, 81, .inl f70)), (q4, .inl (E.2.1, 81, .inl f71))] 66 [(0, .ref q1), (1, .int i47)] [] _
    refine V_iinc (dX8_turnRound 42 rfl) 69 rfl 1 rfl (i47 + (1 : Int32)) rfl [(0, .ref q1), (1, .int (i47 + (1 : Int32)))] (Nat.le_of_ble_eq_true rfl) rfl ?_
    refine V_goto (dX8_turnRound 43 rfl) 7 (by decide) ?_
    exact hrec (i47 + (1 : Int32)) f70 f71
set_option maxRecDepth 20000 in
theorem vLX8_turnRound_L7 {E : EX} {K : KX} (hs : K.l.stackTraces = false) (q1 q3 q4 : Nat) (i2 i6 i5 i8 i9 i7 : Int32) (bc bs : Nat) {k1 : (Nat → Int32) → (Nat → Int32) → Option (Int32 × Int32 × (Nat → Int32) × (Nat → Int32))} (hk1 : ∀ (f72 f73 : Nat → Int32), V E K mX8_turnRound (Qm E K mX8_turnRound (zX8_turnRound E q1 q3 q4 i2 i6 i5 i8 i9)) (bc) (bs) [(q1, .inr (9, [.int i2, .ref q3, .ref q4, .int i5, .int i6, .int i7, .int i8, .int i9, .int (0 : Int32)])), (q3, .inl (E.2.1, 81, .inl f72)), (q4, .inl (E.2.1, 81, .inl f73))] 72 [(0, .ref q1)] [] (k1 f72 f73)) : ∀ (n : Nat) (i47 : Int32) (f48 f49 : Nat → Int32), V E K mX8_turnRound (Qm E K mX8_turnRound (zX8_turnRound E q1 q3 q4 i2 i6 i5 i8 i9)) (bc) (bs) [(q1, .inr (9, [.int i2, .ref q3, .ref q4, .int i5, .int i6, .int i7, .int i8, .int i9, .int (0 : Int32)])), (q3, .inl (E.2.1, 81, .inl f48)), (q4, .inl (E.2.1, 81, .inl f49))] 7 [(0, .ref q1), (1, .int i47)] [] (LX8_turnRound_L7  i2 n i47 f48 f49 k1)
  | 0, _, _, _ => V_none
  | n + 1, i47, f48, f49 => vBX8_turnRound_L7 hs q1 q3 q4 i2 i6 i5 i8 i9 i7 bc bs i47 f48 f49 (fun i47 f48 f49 => vLX8_turnRound_L7 hs q1 q3 q4 i2 i6 i5 i8 i9 i7 bc bs hk1 n i47 f48 f49) hk1
set_option maxRecDepth 20000 in
theorem kX8_turnRound {E : EX} {l : Launch} (hl : l.stackTraces = false) (q1 q3 q4 : Nat) (i2 i5 i6 i7 i8 i9 i10 : Int32) (f11 f12 : Nat → Int32) : Ct E l mX8_turnRound [.ref q1] [(q1, .inr (9, [.int i2, .ref q3, .ref q4, .int i5, .int i6, .int i7, .int i8, .int i9, .int i10])), (q3, .inl (E.2.1, 81, .inl f11)), (q4, .inl (E.2.1, 81, .inl f12))] (fX8_turnRound i2 i6 i7 f11 f12) (zX8_turnRound E q1 q3 q4 i2 i6 i5 i8 i9) := Ct_of hl mf_X8_turnRound.1 (Nat.le_of_ble_eq_true rfl) (fun K hs => by
  refine V_less 0 0 (Nat.le_refl _) (Nat.le_refl _) ?_
  refine V_pick [0] [(0, .ref q1)] rfl ?_
  unfold fX8_turnRound
  refine V_aload_n (dX8_turnRound 0 rfl) 1 rfl 0 rfl ?_
  refine V_iconst (0 : Int32) (by decide) (dX8_turnRound 1 rfl) 2 rfl ?_
  refine V_put pf_M_13 0 rfl rfl rfl (Nat.le_of_ble_eq_true rfl) (dX8_turnRound 2 rfl) 5 rfl [(q1, .inr (9, [.int i2, .ref q3, .ref q4, .int i5, .int i6, .int i7, .int i8, .int i9, .int (0 : Int32)])), (q3, .inl (E.2.1, 81, .inl f11)), (q4, .inl (E.2.1, 81, .inl f12))] rfl ?_
  refine V_iconst (0 : Int32) (by decide) (dX8_turnRound 3 rfl) 6 rfl ?_
  refine V_istore_n (dX8_turnRound 4 rfl) 7 rfl [(0, .ref q1), (1, .int (0 : Int32))] (Nat.le_of_ble_eq_true rfl) rfl ?_
  refine vLX8_turnRound_L7 hs q1 q3 q4 i2 i6 i5 i8 i9 i7 0 0 ?_ 600 (0 : Int32) f11 f12
  intro f72 f73
  show V E K mX8_turnRound (Qm E K mX8_turnRound (zX8_turnRound E q1 q3 q4 i2 i6 i5 i8 i9)) 0 0 [(q1, .inr (9, [.int i2, .ref q3, .ref q4, .int i5, .int i6, .int i7, .int i8, .int i9, .int (0 : Int32)])), (q3, .inl (E.2.1, 81, .inl f72)), (q4, .inl (E.2.1, 81, .inl f73))] 72 [(0, .ref q1)] [] _
  refine V_aload_n (dX8_turnRound 44 rfl) 73 rfl 0 rfl ?_
  refine V_get gf_M_27 0 rfl rfl (dX8_turnRound 45 rfl) 76 rfl ?_
  refine V_istore_n (dX8_turnRound 46 rfl) 77 rfl [(0, .ref q1), (1, .int i5)] (Nat.le_of_ble_eq_true rfl) rfl ?_
  refine V_aload_n (dX8_turnRound 47 rfl) 78 rfl 0 rfl ?_
  refine V_aload_n (dX8_turnRound 48 rfl) 79 rfl 0 rfl ?_
  refine V_get gf_M_30 0 rfl rfl (dX8_turnRound 49 rfl) 82 rfl ?_
  refine V_put pf_M_27 0 rfl rfl rfl (Nat.le_of_ble_eq_true rfl) (dX8_turnRound 50 rfl) 85 rfl [(q1, .inr (9, [.int i2, .ref q3, .ref q4, .int i6, .int i6, .int i7, .int i8, .int i9, .int (0 : Int32)])), (q3, .inl (E.2.1, 81, .inl f72)), (q4, .inl (E.2.1, 81, .inl f73))] rfl ?_
  refine V_aload_n (dX8_turnRound 51 rfl) 86 rfl 0 rfl ?_
  refine V_iload_n (dX8_turnRound 52 rfl) 87 rfl 1 rfl ?_
  refine V_put pf_M_30 0 rfl rfl rfl (Nat.le_of_ble_eq_true rfl) (dX8_turnRound 53 rfl) 90 rfl [(q1, .inr (9, [.int i2, .ref q3, .ref q4, .int i6, .int i5, .int i7, .int i8, .int i9, .int (0 : Int32)])), (q3, .inl (E.2.1, 81, .inl f72)), (q4, .inl (E.2.1, 81, .inl f73))] rfl ?_
  refine V_aload_n (dX8_turnRound 54 rfl) 91 rfl 0 rfl ?_
  refine V_aload_n (dX8_turnRound 55 rfl) 92 rfl 0 rfl ?_
  refine V_callV (M := mX8_turnRound) (wcs := [(q1, .inr (9, [.int i2, .ref q3, .ref q4, .int i6, .int i5, .int i7, .int i8, .int i9, .int (0 : Int32)])), (q4, .inl (E.2.1, 81, .inl f73))]) (wr := [(q3, .inl (E.2.1, 81, .inl f72))]) mf_X8_valueNow tw_1303 tw_1305 tw_31 ⟨Nat.le_of_ble_eq_true rfl, Nat.le_of_ble_eq_true rfl⟩ (dX8_turnRound 56 rfl) 95 rfl (kX8_valueNow hs q1 q4 i2 (.ref q3) i6 i5 i7 i8 i9 (0 : Int32) f73) rfl [0, 2] [1] (q0 := 0) rfl rfl rfl rfl (by decide) rfl rfl rfl rfl (Nat.le_of_ble_eq_true rfl) 0 0 (show 0 + 0 ≤ 0 from Nat.le_of_ble_eq_true rfl) (show 0 + 0 ≤ 0 from Nat.le_of_ble_eq_true rfl) (fun z74 v w hz => ?_)
  obtain ⟨rfl, rfl⟩ := hz
  show V E K mX8_turnRound (Qm E K mX8_turnRound (zX8_turnRound E q1 q3 q4 i2 i6 i5 i8 i9)) 0 0 [(q3, .inl (E.2.1, 81, .inl f72)), (q1, .inr (9, [.int i2, .ref q3, .ref q4, .int i6, .int i5, .int i7, .int i8, .int i9, .int (0 : Int32)])), (q4, .inl (E.2.1, 81, .inl f73))] 95 [(0, .ref q1), (1, .int i5)] [.int z74, .ref q1] _
  refine V_callV (M := mX8_turnRound) (wcs := [(q1, .inr (9, [.int i2, .ref q3, .ref q4, .int i6, .int i5, .int i7, .int i8, .int i9, .int (0 : Int32)]))]) (wr := [(q3, .inl (E.2.1, 81, .inl f72)), (q4, .inl (E.2.1, 81, .inl f73))]) mf_X8_did tw_1291 tw_1293 tw_29 ⟨Nat.le_of_ble_eq_true rfl, Nat.le_of_ble_eq_true rfl⟩ (dX8_turnRound 57 rfl) 98 rfl (kX8_did hs q1 i2 (.ref q3) (.ref q4) i6 i5 i7 i8 i9 (0 : Int32) z74) rfl [1] [0, 2] (q0 := 0) rfl rfl rfl rfl (by decide) rfl rfl rfl rfl (Nat.le_of_ble_eq_true rfl) 0 0 (show 0 + 0 ≤ 0 from Nat.le_of_ble_eq_true rfl) (show 0 + 0 ≤ 0 from Nat.le_of_ble_eq_true rfl) (fun z75 v w hz => ?_)
  obtain ⟨rfl, rfl⟩ := hz
  show V E K mX8_turnRound (Qm E K mX8_turnRound (zX8_turnRound E q1 q3 q4 i2 i6 i5 i8 i9)) 0 0 [(q3, .inl (E.2.1, 81, .inl f72)), (q4, .inl (E.2.1, 81, .inl f73)), (q1, .inr (9, [.int i2, .ref q3, .ref q4, .int i6, .int i5, .int z75.2, .int i8, .int i9, .int (0 : Int32)]))] 98 [(0, .ref q1), (1, .int i5)] [.int z75.1] _
  refine V_world [2, 0, 1] [(q1, .inr (9, [.int i2, .ref q3, .ref q4, .int i6, .int i5, .int z75.2, .int i8, .int i9, .int (0 : Int32)])), (q3, .inl (E.2.1, 81, .inl f72)), (q4, .inl (E.2.1, 81, .inl f73))] rfl rfl rfl ?_
  exact V_iret rfl (dX8_turnRound 58 rfl) ⟨rfl, rfl⟩)
set_option maxRecDepth 20000 in
theorem kX8_swapped {E : EX} {l : Launch} (hl : l.stackTraces = false)  (i1 i2 i3 : Int32) : Ct E l mX8_swapped [.int i1, .int i2, .int i3] [] (fX8_swapped i1 i2 i3) (zX8_swapped E) := Ct_of hl mf_X8_swapped.1 (Nat.le_of_ble_eq_true rfl) (fun K hs => by
  refine V_less 0 0 (Nat.le_refl _) (Nat.le_refl _) ?_
  refine V_pick [0, 1, 2] [(0, .int i1), (1, .int i2), (2, .int i3)] rfl ?_
  unfold fX8_swapped
  refine V_iload_n (dX8_swapped 0 rfl) 1 rfl 0 rfl ?_
  refine V_iload_n (dX8_swapped 1 rfl) 2 rfl 1 rfl ?_
  refine V_icmp_ne (dX8_swapped 2 rfl) 9 (by decide) 5 rfl ?_ ?_
  · refine V_iload_n (dX8_swapped 5 rfl) 10 rfl 0 rfl ?_
    refine V_iload_n (dX8_swapped 6 rfl) 11 rfl 2 rfl ?_
    refine V_icmp_ne (dX8_swapped 7 rfl) 18 (by decide) 14 rfl ?_ ?_
    · refine V_iload_n (dX8_swapped 10 rfl) 19 rfl 0 rfl ?_
      exact V_iret rfl (dX8_swapped 11 rfl) ⟨rfl, rfl⟩
    · refine V_iload_n (dX8_swapped 8 rfl) 15 rfl 1 rfl ?_
      refine V_goto (dX8_swapped 9 rfl) 19 (by decide) ?_
      exact V_iret rfl (dX8_swapped 11 rfl) ⟨rfl, rfl⟩
  · refine V_iload_n (dX8_swapped 3 rfl) 6 rfl 2 rfl ?_
    refine V_goto (dX8_swapped 4 rfl) 19 (by decide) ?_
    exact V_iret rfl (dX8_swapped 11 rfl) ⟨rfl, rfl⟩)
set_option maxRecDepth 20000 in
theorem vBX8_swappedRow_L21 {E : EX} {K : KX} (hs : K.l.stackTraces = false) (q1 q2 q15 : Nat) (i5 : Int32) (v6 v7 : Value) (i8 i9 i10 i11 i12 i13 : Int32) (f14 : Nat → Int32) (i3 i4 i54 : Int32) (bc bs : Nat) (i74 : Int32) (f75 : Nat → Int32) {rec : Int32 → (Nat → Int32) → Option ((Nat → Int32))} {k1 : (Nat → Int32) → Option ((Nat → Int32))} (hrec : ∀ (i74 : Int32) (f75 : Nat → Int32), V E K mX8_swappedRow (Qm E K mX8_swappedRow (zX8_swappedRow E q1 q2 i5 v6 v7 i8 i9 i10 i11 i12 i13 f14)) (bc) (bs) [(q1, .inr (9, [.int i5, v6, v7, .int i8, .int i9, .int i10, .int i11, .int i12, .int i13])), (q2, .inl (E.2.1, 81, .inl f14)), (q15, .inl (E.2.1, 81, .inl f75))] 21 [(0, .ref q1), (1, .ref q2), (2, .int i3), (3, .int i4), (4, .ref q15), (5, .int i54), (6, .int i74)] [] (rec i74 f75)) (hk1 : ∀ (f78 : Nat → Int32), V E K mX8_swappedRow (Qm E K mX8_swappedRow (zX8_swappedRow E q1 q2 i5 v6 v7 i8 i9 i10 i11 i12 i13 f14)) (bc) (bs) [(q1, .inr (9, [.int i5, v6, v7, .int i8, .int i9, .int i10, .int i11, .int i12, .int i13])), (q2, .inl (E.2.1, 81, .inl f14)), (q15, .inl (E.2.1, 81, .inl f78))] 67 [(0, .ref q1), (1, .ref q2), (2, .int i3), (3, .int i4), (4, .ref q15), (5, .int i54)] [] (k1 f78)) : V E K mX8_swappedRow (Qm E K mX8_swappedRow (zX8_swappedRow E q1 q2 i5 v6 v7 i8 i9 i10 i11 i12 i13 f14)) (bc) (bs) [(q1, .inr (9, [.int i5, v6, v7, .int i8, .int i9, .int i10, .int i11, .int i12, .int i13])), (q2, .inl (E.2.1, 81, .inl f14)), (q15, .inl (E.2.1, 81, .inl f75))] 21 [(0, .ref q1), (1, .ref q2), (2, .int i3), (3, .int i4), (4, .ref q15), (5, .int i54), (6, .int i74)] [] (BX8_swappedRow_L21  i5 f14 i3 i4 i54 i74 f75 rec k1) := by
  unfold BX8_swappedRow_L21
  refine V_iload (dX8_swappedRow 12 rfl) 23 rfl 6 rfl ?_
  refine V_aload_n (dX8_swappedRow 13 rfl) 24 rfl 0 rfl ?_
  refine V_get gf_M_17 0 rfl rfl (dX8_swappedRow 14 rfl) 27 rfl ?_
  refine V_icmp_ge (dX8_swappedRow 15 rfl) 67 (by decide) 30 rfl ?_ ?_
  · refine V_pick [0, 1, 2, 3, 4, 5] [(0, .ref q1), (1, .ref q2), (2, .int i3), (3, .int i4), (4, .ref q15), (5, .int i54)] rfl ?_
    exact hk1 f75
  · refine V_aload (dX8_swappedRow 16 rfl) 32 rfl 4 rfl ?_
    refine V_iload (dX8_swappedRow 17 rfl) 34 rfl 5 rfl ?_
    refine V_iload_n (dX8_swappedRow 18 rfl) 35 rfl 2 rfl ?_
    refine V_iload_n (dX8_swappedRow 19 rfl) 36 rfl 3 rfl ?_
    refine V_callS (M := mX8_swappedRow) (wcs := []) (wr := [(q1, .inr (9, [.int i5, v6, v7, .int i8, .int i9, .int i10, .int i11, .int i12, .int i13])), (q2, .inl (E.2.1, 81, .inl f14)), (q15, .inl (E.2.1, 81, .inl f75))]) mf_X8_swapped tw_1366 tw_1367 ⟨Nat.le_of_ble_eq_true rfl, Nat.le_of_ble_eq_true rfl⟩ (dX8_swappedRow 20 rfl) 39 rfl (kX8_swapped hs i54 i3 i4) rfl [] [0, 1, 2] rfl rfl rfl rfl (by decide) rfl (Nat.le_of_ble_eq_true rfl) (bc) (bs) (show (bc) + 0 ≤ (bc) by omega) (show (bs) + 0 ≤ (bs) by omega) (fun z76 v w hz => ?_)
    obtain ⟨rfl, rfl⟩ := hz
    show V E K mX8_swappedRow (Qm E K mX8_swappedRow (zX8_swappedRow E q1 q2 i5 v6 v7 i8 i9 i10 i11 i12 i13 f14)) (bc) (bs) [(q1, .inr (9, [.int i5, v6, v7, .int i8, .int i9, .int i10, .int i11, .int i12, .int i13])), (q2, .inl (E.2.1, 81, .inl f14)), (q15, .inl (E.2.1, 81, .inl f75))] 39 [(0, .ref q1), (1, .ref q2), (2, .int i3), (3, .int i4), (4, .ref q15), (5, .int i54), (6, .int i74)] [.int z76, .ref q15] _
    refine V_bipush (9 : Int32) (by decide) (dX8_swappedRow 21 rfl) 41 rfl ?_
    refine V_imul (dX8_swappedRow 22 rfl) 42 rfl ?_
    refine V_iload (dX8_swappedRow 23 rfl) 44 rfl 6 rfl ?_
    refine V_iload_n (dX8_swappedRow 24 rfl) 45 rfl 2 rfl ?_
    refine V_iload_n (dX8_swappedRow 25 rfl) 46 rfl 3 rfl ?_
    refine V_callS (M := mX8_swappedRow) (wcs := []) (wr := [(q1, .inr (9, [.int i5, v6, v7, .int i8, .int i9, .int i10, .int i11, .int i12, .int i13])), (q2, .inl (E.2.1, 81, .inl f14)), (q15, .inl (E.2.1, 81, .inl f75))]) mf_X8_swapped tw_1366 tw_1367 ⟨Nat.le_of_ble_eq_true rfl, Nat.le_of_ble_eq_true rfl⟩ (dX8_swappedRow 26 rfl) 49 rfl (kX8_swapped hs i74 i3 i4) rfl [] [0, 1, 2] rfl rfl rfl rfl (by decide) rfl (Nat.le_of_ble_eq_true rfl) (bc) (bs) (show (bc) + 0 ≤ (bc) by omega) (show (bs) + 0 ≤ (bs) by omega) (fun z77 v w hz => ?_)
    obtain ⟨rfl, rfl⟩ := hz
    show V E K mX8_swappedRow (Qm E K mX8_swappedRow (zX8_swappedRow E q1 q2 i5 v6 v7 i8 i9 i10 i11 i12 i13 f14)) (bc) (bs) [(q1, .inr (9, [.int i5, v6, v7, .int i8, .int i9, .int i10, .int i11, .int i12, .int i13])), (q2, .inl (E.2.1, 81, .inl f14)), (q15, .inl (E.2.1, 81, .inl f75))] 49 [(0, .ref q1), (1, .ref q2), (2, .int i3), (3, .int i4), (4, .ref q15), (5, .int i54), (6, .int i74)] [.int z77, .int (z76 * (9 : Int32)), .ref q15] _
    refine V_iadd (dX8_swappedRow 27 rfl) 50 rfl ?_
    refine V_aload_n (dX8_swappedRow 28 rfl) 51 rfl 1 rfl ?_
    refine V_iload (dX8_swappedRow 29 rfl) 53 rfl 5 rfl ?_
    refine V_bipush (9 : Int32) (by decide) (dX8_swappedRow 30 rfl) 55 rfl ?_
    refine V_imul (dX8_swappedRow 31 rfl) 56 rfl ?_
    refine V_iload (dX8_swappedRow 32 rfl) 58 rfl 6 rfl ?_
    refine V_iadd (dX8_swappedRow 33 rfl) 59 rfl ?_
    refine V_iald 1 rfl (dX8_swappedRow 34 rfl) 60 rfl ?_
    refine V_iast 2 rfl (dX8_swappedRow 35 rfl) 61 rfl [(q1, .inr (9, [.int i5, v6, v7, .int i8, .int i9, .int i10, .int i11, .int i12, .int i13])), (q2, .inl (E.2.1, 81, .inl f14)), (q15, .inl (E.2.1, 81, .inl (upd f75 ((z76 * (9 : Int32)) + z77).toNatClampNeg (f14 ((i54 * (9 : Int32)) + i74).toNatClampNeg))))] rfl ?_
    refine V_iinc (dX8_swappedRow 36 rfl) 64 rfl 6 rfl (i74 + (1 : Int32)) rfl [(0, .ref q1), (1, .ref q2), (2, .int i3), (3, .int i4), (4, .ref q15), (5, .int i54), (6, .int (i74 + (1 : Int32)))] (Nat.le_of_ble_eq_true rfl) rfl ?_
    refine V_goto (dX8_swappedRow 37 rfl) 21 (by decide) ?_
    exact hrec (i74 + (1 : Int32)) (upd f75 ((z76 * (9 : Int32)) + z77).toNatClampNeg (f14 ((i54 * (9 : Int32)) + i74).toNatClampNeg))
set_option maxRecDepth 20000 in
theorem vLX8_swappedRow_L21 {E : EX} {K : KX} (hs : K.l.stackTraces = false) (q1 q2 q15 : Nat) (i5 : Int32) (v6 v7 : Value) (i8 i9 i10 i11 i12 i13 : Int32) (f14 : Nat → Int32) (i3 i4 i54 : Int32) (bc bs : Nat) {k1 : (Nat → Int32) → Option ((Nat → Int32))} (hk1 : ∀ (f78 : Nat → Int32), V E K mX8_swappedRow (Qm E K mX8_swappedRow (zX8_swappedRow E q1 q2 i5 v6 v7 i8 i9 i10 i11 i12 i13 f14)) (bc) (bs) [(q1, .inr (9, [.int i5, v6, v7, .int i8, .int i9, .int i10, .int i11, .int i12, .int i13])), (q2, .inl (E.2.1, 81, .inl f14)), (q15, .inl (E.2.1, 81, .inl f78))] 67 [(0, .ref q1), (1, .ref q2), (2, .int i3), (3, .int i4), (4, .ref q15), (5, .int i54)] [] (k1 f78)) : ∀ (n : Nat) (i74 : Int32) (f75 : Nat → Int32), V E K mX8_swappedRow (Qm E K mX8_swappedRow (zX8_swappedRow E q1 q2 i5 v6 v7 i8 i9 i10 i11 i12 i13 f14)) (bc) (bs) [(q1, .inr (9, [.int i5, v6, v7, .int i8, .int i9, .int i10, .int i11, .int i12, .int i13])), (q2, .inl (E.2.1, 81, .inl f14)), (q15, .inl (E.2.1, 81, .inl f75))] 21 [(0, .ref q1), (1, .ref q2), (2, .int i3), (3, .int i4), (4, .ref q15), (5, .int i54), (6, .int i74)] [] (LX8_swappedRow_L21  i5 f14 i3 i4 i54 n i74 f75 k1)
  | 0, _, _ => V_none
  | n + 1, i74, f75 => vBX8_swappedRow_L21 hs q1 q2 q15 i5 v6 v7 i8 i9 i10 i11 i12 i13 f14 i3 i4 i54 bc bs i74 f75 (fun i74 f75 => vLX8_swappedRow_L21 hs q1 q2 q15 i5 v6 v7 i8 i9 i10 i11 i12 i13 f14 i3 i4 i54 bc bs hk1 n i74 f75) hk1
set_option maxRecDepth 20000 in
theorem vBX8_swappedRow_L9 {E : EX} {K : KX} (hs : K.l.stackTraces = false) (q1 q2 q15 : Nat) (i5 : Int32) (v6 v7 : Value) (i8 i9 i10 i11 i12 i13 : Int32) (f14 : Nat → Int32) (i3 i4 : Int32) (bc bs : Nat) (i54 : Int32) (f55 : Nat → Int32) {rec : Int32 → (Nat → Int32) → Option ((Nat → Int32))}  (hrec : ∀ (i54 : Int32) (f55 : Nat → Int32), V E K mX8_swappedRow (Qm E K mX8_swappedRow (zX8_swappedRow E q1 q2 i5 v6 v7 i8 i9 i10 i11 i12 i13 f14)) (bc) (bs) [(q1, .inr (9, [.int i5, v6, v7, .int i8, .int i9, .int i10, .int i11, .int i12, .int i13])), (q2, .inl (E.2.1, 81, .inl f14)), (q15, .inl (E.2.1, 81, .inl f55))] 9 [(0, .ref q1), (1, .ref q2), (2, .int i3), (3, .int i4), (4, .ref q15), (5, .int i54)] [] (rec i54 f55))  : V E K mX8_swappedRow (Qm E K mX8_swappedRow (zX8_swappedRow E q1 q2 i5 v6 v7 i8 i9 i10 i11 i12 i13 f14)) (bc) (bs) [(q1, .inr (9, [.int i5, v6, v7, .int i8, .int i9, .int i10, .int i11, .int i12, .int i13])), (q2, .inl (E.2.1, 81, .inl f14)), (q15, .inl (E.2.1, 81, .inl f55))] 9 [(0, .ref q1), (1, .ref q2), (2, .int i3), (3, .int i4), (4, .ref q15), (5, .int i54)] [] (BX8_swappedRow_L9  i5 f14 i3 i4 i54 f55 rec ) := by
  unfold BX8_swappedRow_L9
  refine V_iload (dX8_swappedRow 6 rfl) 11 rfl 5 rfl ?_
  refine V_aload_n (dX8_swappedRow 7 rfl) 12 rfl 0 rfl ?_
  refine V_get gf_M_17 0 rfl rfl (dX8_swappedRow 8 rfl) 15 rfl ?_
  refine V_icmp_ge (dX8_swappedRow 9 rfl) 73 (by decide) 18 rfl ?_ ?_
  · refine V_aload (dX8_swappedRow 40 rfl) 75 rfl 4 rfl ?_
    exact V_aret rfl (Or.inr ⟨_, rfl⟩) (Or.inr ⟨_, rfl⟩) (dX8_swappedRow 41 rfl) ⟨q15, rfl, rfl⟩
  · refine V_iconst (0 : Int32) (by decide) (dX8_swappedRow 10 rfl) 19 rfl ?_
    refine V_istore (dX8_swappedRow 11 rfl) 21 rfl [(0, .ref q1), (1, .ref q2), (2, .int i3), (3, .int i4), (4, .ref q15), (5, .int i54), (6, .int (0 : Int32))] (Nat.le_of_ble_eq_true rfl) rfl ?_
    refine vLX8_swappedRow_L21 hs q1 q2 q15 i5 v6 v7 i8 i9 i10 i11 i12 i13 f14 i3 i4 i54 (bc) (bs) ?_ 600 (0 : Int32) f55
    intro f78
    show V E K mX8_swappedRow (Qm E K mX8_swappedRow (zX8_swappedRow E q1 q2 i5 v6 v7 i8 i9 i10 i11 i12 i13 f14)) (bc) (bs) [(q1, .inr (9, [.int i5, v6, v7, .int i8, .int i9, .int i10, .int i11, .int i12, .int i13])), (q2, .inl (E.2.1, 81, .inl f14)), (q15, .inl (E.2.1, 81, .inl f78))] 67 [(0, .ref q1), (1, .ref q2), (2, .int i3), (3, .int i4), (4, .ref q15), (5, .int i54)] [] _
    refine V_iinc (dX8_swappedRow 38 rfl) 70 rfl 5 rfl (i54 + (1 : Int32)) rfl [(0, .ref q1), (1, .ref q2), (2, .int i3), (3, .int i4), (4, .ref q15), (5, .int (i54 + (1 : Int32)))] (Nat.le_of_ble_eq_true rfl) rfl ?_
    refine V_goto (dX8_swappedRow 39 rfl) 9 (by decide) ?_
    exact hrec (i54 + (1 : Int32)) f78
set_option maxRecDepth 20000 in
theorem vLX8_swappedRow_L9 {E : EX} {K : KX} (hs : K.l.stackTraces = false) (q1 q2 q15 : Nat) (i5 : Int32) (v6 v7 : Value) (i8 i9 i10 i11 i12 i13 : Int32) (f14 : Nat → Int32) (i3 i4 : Int32) (bc bs : Nat)   : ∀ (n : Nat) (i54 : Int32) (f55 : Nat → Int32), V E K mX8_swappedRow (Qm E K mX8_swappedRow (zX8_swappedRow E q1 q2 i5 v6 v7 i8 i9 i10 i11 i12 i13 f14)) (bc) (bs) [(q1, .inr (9, [.int i5, v6, v7, .int i8, .int i9, .int i10, .int i11, .int i12, .int i13])), (q2, .inl (E.2.1, 81, .inl f14)), (q15, .inl (E.2.1, 81, .inl f55))] 9 [(0, .ref q1), (1, .ref q2), (2, .int i3), (3, .int i4), (4, .ref q15), (5, .int i54)] [] (LX8_swappedRow_L9  i5 f14 i3 i4 n i54 f55 )
  | 0, _, _ => V_none
  | n + 1, i54, f55 => vBX8_swappedRow_L9 hs q1 q2 q15 i5 v6 v7 i8 i9 i10 i11 i12 i13 f14 i3 i4 bc bs i54 f55 (fun i54 f55 => vLX8_swappedRow_L9 hs q1 q2 q15 i5 v6 v7 i8 i9 i10 i11 i12 i13 f14 i3 i4 bc bs  n i54 f55) 
set_option maxRecDepth 20000 in
theorem kX8_swappedRow {E : EX} {l : Launch} (hl : l.stackTraces = false) (q1 q2 : Nat) (i5 : Int32) (v6 v7 : Value) (i8 i9 i10 i11 i12 i13 : Int32) (f14 : Nat → Int32) (i3 i4 : Int32) : Ct E l mX8_swappedRow [.ref q1, .ref q2, .int i3, .int i4] [(q1, .inr (9, [.int i5, v6, v7, .int i8, .int i9, .int i10, .int i11, .int i12, .int i13])), (q2, .inl (E.2.1, 81, .inl f14))] (fX8_swappedRow i5 f14 i3 i4) (zX8_swappedRow E q1 q2 i5 v6 v7 i8 i9 i10 i11 i12 i13 f14) := Ct_of hl mf_X8_swappedRow.1 (Nat.le_of_ble_eq_true rfl) (fun K hs => by
  refine V_less 1 81 (Nat.le_refl _) (Nat.le_refl _) ?_
  refine V_pick [0, 1, 2, 3] [(0, .ref q1), (1, .ref q2), (2, .int i3), (3, .int i4)] rfl ?_
  unfold fX8_swappedRow
  refine V_aload_n (dX8_swappedRow 0 rfl) 1 rfl 1 rfl ?_
  refine V_alen 1 rfl ((81 : Int32)) (show Int32.ofNat 81 = (81 : Int32) by decide) (dX8_swappedRow 1 rfl) 2 rfl ?_
  refine V_newc 81 (by decide) (by decide) (by decide) tw_116 (dX8_swappedRow 2 rfl) 4 rfl 0 0 (show 0 + 1 ≤ 1 from Nat.le_of_ble_eq_true rfl) (show 0 + 81 ≤ 81 from Nat.le_of_ble_eq_true rfl) (fun q15 => ?_)
  refine V_eqW (ws2 := [(q1, .inr (9, [.int i5, v6, v7, .int i8, .int i9, .int i10, .int i11, .int i12, .int i13])), (q2, .inl (E.2.1, 81, .inl f14)), (q15, .inl (E.2.1, 81, .inl (fun _ => 0)))]) rfl ?_
  refine V_astore (dX8_swappedRow 3 rfl) 6 rfl [(0, .ref q1), (1, .ref q2), (2, .int i3), (3, .int i4), (4, .ref q15)] (Nat.le_of_ble_eq_true rfl) rfl ?_
  refine V_iconst (0 : Int32) (by decide) (dX8_swappedRow 4 rfl) 7 rfl ?_
  refine V_istore (dX8_swappedRow 5 rfl) 9 rfl [(0, .ref q1), (1, .ref q2), (2, .int i3), (3, .int i4), (4, .ref q15), (5, .int (0 : Int32))] (Nat.le_of_ble_eq_true rfl) rfl ?_
  refine vLX8_swappedRow_L9 hs q1 q2 q15 i5 v6 v7 i8 i9 i10 i11 i12 i13 f14 i3 i4 0 0  600 (0 : Int32) (fun _ => 0))
set_option maxRecDepth 20000 in
theorem kX8_swap {E : EX} {l : Launch} (hl : l.stackTraces = false) (q1 q5 q6 : Nat) (i4 i7 i8 i9 i10 i11 i12 : Int32) (f13 f14 : Nat → Int32) (i2 i3 : Int32) : Ct E l mX8_swap [.ref q1, .int i2, .int i3] [(q1, .inr (9, [.int i4, .ref q5, .ref q6, .int i7, .int i8, .int i9, .int i10, .int i11, .int i12])), (q5, .inl (E.2.1, 81, .inl f13)), (q6, .inl (E.2.1, 81, .inl f14))] (fX8_swap i4 i7 i8 i9 f13 f14 i2 i3) (zX8_swap E q1 i4 i10 i11) := Ct_of hl mf_X8_swap.1 (Nat.le_of_ble_eq_true rfl) (fun K hs => by
  refine V_less 2 162 (Nat.le_refl _) (Nat.le_refl _) ?_
  refine V_pick [0, 1, 2] [(0, .ref q1), (1, .int i2), (2, .int i3)] rfl ?_
  unfold fX8_swap
  refine V_aload_n (dX8_swap 0 rfl) 1 rfl 0 rfl ?_
  refine V_aload_n (dX8_swap 1 rfl) 2 rfl 0 rfl ?_
  refine V_iload_n (dX8_swap 2 rfl) 3 rfl 1 rfl ?_
  refine V_callV (M := mX8_swap) (wcs := [(q1, .inr (9, [.int i4, .ref q5, .ref q6, .int i7, .int i8, .int i9, .int i10, .int i11, .int i12]))]) (wr := [(q5, .inl (E.2.1, 81, .inl f13)), (q6, .inl (E.2.1, 81, .inl f14))]) mf_X8_isPlace tw_1299 tw_1301 tw_30 ⟨Nat.le_of_ble_eq_true rfl, Nat.le_of_ble_eq_true rfl⟩ (dX8_swap 3 rfl) 6 rfl (kX8_isPlace hs q1 i4 (.ref q5) (.ref q6) i7 i8 i9 i10 i11 i12 i2) rfl [0] [1, 2] (q0 := 0) rfl rfl rfl rfl (by decide) rfl rfl rfl rfl (Nat.le_of_ble_eq_true rfl) 2 162 (show 2 + 0 ≤ 2 from Nat.le_of_ble_eq_true rfl) (show 162 + 0 ≤ 162 from Nat.le_of_ble_eq_true rfl) (fun z15 v w hz => ?_)
  obtain ⟨rfl, rfl⟩ := hz
  show V E K mX8_swap (Qm E K mX8_swap (zX8_swap E q1 i4 i10 i11)) 2 162 [(q5, .inl (E.2.1, 81, .inl f13)), (q6, .inl (E.2.1, 81, .inl f14)), (q1, .inr (9, [.int i4, .ref q5, .ref q6, .int i7, .int i8, .int i9, .int i10, .int i11, .int i12]))] 6 [(0, .ref q1), (1, .int i2), (2, .int i3)] [.int z15, .ref q1] _
  refine V_jn (fun (k16 : Int32 → Option (Int32 × Int32 × Int32 × Int32 × Int32 × (Nat → Int32) × (Nat → Int32))) => ∀ (i21 : Int32), V E K mX8_swap (Qm E K mX8_swap (zX8_swap E q1 i4 i10 i11)) 2 162 [(q1, .inr (9, [.int i4, .ref q5, .ref q6, .int i7, .int i8, .int i9, .int i10, .int i11, .int i12])), (q5, .inl (E.2.1, 81, .inl f13)), (q6, .inl (E.2.1, 81, .inl f14))] 22 [(0, .ref q1), (1, .int i2), (2, .int i3)] [.int i21, .ref q1] (k16 i21)) ?_ ?_
  · intro i21
    show V E K mX8_swap (Qm E K mX8_swap (zX8_swap E q1 i4 i10 i11)) 2 162 [(q1, .inr (9, [.int i4, .ref q5, .ref q6, .int i7, .int i8, .int i9, .int i10, .int i11, .int i12])), (q5, .inl (E.2.1, 81, .inl f13)), (q6, .inl (E.2.1, 81, .inl f14))] 22 [(0, .ref q1), (1, .int i2), (2, .int i3)] [.int i21, .ref q1] _
    refine V_callV (M := mX8_swap) (wcs := [(q1, .inr (9, [.int i4, .ref q5, .ref q6, .int i7, .int i8, .int i9, .int i10, .int i11, .int i12]))]) (wr := [(q5, .inl (E.2.1, 81, .inl f13)), (q6, .inl (E.2.1, 81, .inl f14))]) mf_X8_isThrown_ tw_1283 tw_1285 tw_27 ⟨Nat.le_of_ble_eq_true rfl, Nat.le_of_ble_eq_true rfl⟩ (dX8_swap 12 rfl) 25 rfl (kX8_isThrown_ hs q1 i4 (.ref q5) (.ref q6) i7 i8 i9 i10 i11 i12 i21) rfl [0] [1, 2] (q0 := 0) rfl rfl rfl rfl (by decide) rfl rfl rfl rfl (Nat.le_of_ble_eq_true rfl) 2 162 (show 2 + 0 ≤ 2 from Nat.le_of_ble_eq_true rfl) (show 162 + 0 ≤ 162 from Nat.le_of_ble_eq_true rfl) (fun z22 v w hz => ?_)
    obtain ⟨rfl, rfl⟩ := hz
    show V E K mX8_swap (Qm E K mX8_swap (zX8_swap E q1 i4 i10 i11)) 2 162 [(q5, .inl (E.2.1, 81, .inl f13)), (q6, .inl (E.2.1, 81, .inl f14)), (q1, .inr (9, [.int i4, .ref q5, .ref q6, .int i7, .int i8, .int i9, .int i10, .int i11, .int z22.2]))] 25 [(0, .ref q1), (1, .int i2), (2, .int i3)] [.int z22.1] _
    refine V_if_eq (dX8_swap 13 rfl) 30 (by decide) 28 rfl ?_ ?_
    · refine V_aload_n (dX8_swap 16 rfl) 31 rfl 0 rfl ?_
      refine V_aload_n (dX8_swap 17 rfl) 32 rfl 0 rfl ?_
      refine V_aload_n (dX8_swap 18 rfl) 33 rfl 0 rfl ?_
      refine V_get gf_M_20 2 rfl rfl (dX8_swap 19 rfl) 36 rfl ?_
      refine V_iload_n (dX8_swap 20 rfl) 37 rfl 1 rfl ?_
      refine V_iload_n (dX8_swap 21 rfl) 38 rfl 2 rfl ?_
      refine V_callV (M := mX8_swap) (wcs := [(q1, .inr (9, [.int i4, .ref q5, .ref q6, .int i7, .int i8, .int i9, .int i10, .int i11, .int z22.2])), (q5, .inl (E.2.1, 81, .inl f13))]) (wr := [(q6, .inl (E.2.1, 81, .inl f14))]) mf_X8_swappedRow tw_1362 tw_1364 tw_38 ⟨Nat.le_of_ble_eq_true rfl, Nat.le_of_ble_eq_true rfl⟩ (dX8_swap 22 rfl) 41 rfl (kX8_swappedRow hs q1 q5 i4 (.ref q5) (.ref q6) i7 i8 i9 i10 i11 z22.2 f13 i2 i3) rfl [2, 0] [1] (q0 := 0) rfl rfl rfl rfl (by decide) rfl rfl rfl rfl (Nat.le_of_ble_eq_true rfl) 1 81 (show 1 + 1 ≤ 2 from Nat.le_of_ble_eq_true rfl) (show 81 + 81 ≤ 162 from Nat.le_of_ble_eq_true rfl) (fun z23 v w hz => ?_)
      obtain ⟨q24, rfl, rfl⟩ := hz
      show V E K mX8_swap (Qm E K mX8_swap (zX8_swap E q1 i4 i10 i11)) 1 81 [(q6, .inl (E.2.1, 81, .inl f14)), (q1, .inr (9, [.int i4, .ref q5, .ref q6, .int i7, .int i8, .int i9, .int i10, .int i11, .int z22.2])), (q5, .inl (E.2.1, 81, .inl f13)), (q24, .inl (E.2.1, 81, .inl z23))] 41 [(0, .ref q1), (1, .int i2), (2, .int i3)] [.ref q24, .ref q1] _
      refine V_put pf_M_20 1 rfl rfl rfl (Nat.le_of_ble_eq_true rfl) (dX8_swap 23 rfl) 44 rfl [(q6, .inl (E.2.1, 81, .inl f14)), (q1, .inr (9, [.int i4, .ref q24, .ref q6, .int i7, .int i8, .int i9, .int i10, .int i11, .int z22.2])), (q5, .inl (E.2.1, 81, .inl f13)), (q24, .inl (E.2.1, 81, .inl z23))] rfl ?_
      refine V_aload_n (dX8_swap 24 rfl) 45 rfl 0 rfl ?_
      refine V_aload_n (dX8_swap 25 rfl) 46 rfl 0 rfl ?_
      refine V_aload_n (dX8_swap 26 rfl) 47 rfl 0 rfl ?_
      refine V_get gf_M_24 1 rfl rfl (dX8_swap 27 rfl) 50 rfl ?_
      refine V_iload_n (dX8_swap 28 rfl) 51 rfl 1 rfl ?_
      refine V_iload_n (dX8_swap 29 rfl) 52 rfl 2 rfl ?_
      refine V_callV (M := mX8_swap) (wcs := [(q1, .inr (9, [.int i4, .ref q24, .ref q6, .int i7, .int i8, .int i9, .int i10, .int i11, .int z22.2])), (q6, .inl (E.2.1, 81, .inl f14))]) (wr := [(q5, .inl (E.2.1, 81, .inl f13)), (q24, .inl (E.2.1, 81, .inl z23))]) mf_X8_swappedRow tw_1362 tw_1364 tw_38 ⟨Nat.le_of_ble_eq_true rfl, Nat.le_of_ble_eq_true rfl⟩ (dX8_swap 30 rfl) 55 rfl (kX8_swappedRow hs q1 q6 i4 (.ref q24) (.ref q6) i7 i8 i9 i10 i11 z22.2 f14 i2 i3) rfl [1, 0] [2, 3] (q0 := 0) rfl rfl rfl rfl (by decide) rfl rfl rfl rfl (Nat.le_of_ble_eq_true rfl) 0 0 (show 0 + 1 ≤ 1 from Nat.le_of_ble_eq_true rfl) (show 0 + 81 ≤ 81 from Nat.le_of_ble_eq_true rfl) (fun z25 v w hz => ?_)
      obtain ⟨q26, rfl, rfl⟩ := hz
      show V E K mX8_swap (Qm E K mX8_swap (zX8_swap E q1 i4 i10 i11)) 0 0 [(q5, .inl (E.2.1, 81, .inl f13)), (q24, .inl (E.2.1, 81, .inl z23)), (q1, .inr (9, [.int i4, .ref q24, .ref q6, .int i7, .int i8, .int i9, .int i10, .int i11, .int z22.2])), (q6, .inl (E.2.1, 81, .inl f14)), (q26, .inl (E.2.1, 81, .inl z25))] 55 [(0, .ref q1), (1, .int i2), (2, .int i3)] [.ref q26, .ref q1] _
      refine V_put pf_M_24 2 rfl rfl rfl (Nat.le_of_ble_eq_true rfl) (dX8_swap 31 rfl) 58 rfl [(q5, .inl (E.2.1, 81, .inl f13)), (q24, .inl (E.2.1, 81, .inl z23)), (q1, .inr (9, [.int i4, .ref q24, .ref q26, .int i7, .int i8, .int i9, .int i10, .int i11, .int z22.2])), (q6, .inl (E.2.1, 81, .inl f14)), (q26, .inl (E.2.1, 81, .inl z25))] rfl ?_
      refine V_aload_n (dX8_swap 32 rfl) 59 rfl 0 rfl ?_
      refine V_aload_n (dX8_swap 33 rfl) 60 rfl 0 rfl ?_
      refine V_get gf_M_27 2 rfl rfl (dX8_swap 34 rfl) 63 rfl ?_
      refine V_iload_n (dX8_swap 35 rfl) 64 rfl 1 rfl ?_
      refine V_iload_n (dX8_swap 36 rfl) 65 rfl 2 rfl ?_
      refine V_callS (M := mX8_swap) (wcs := []) (wr := [(q5, .inl (E.2.1, 81, .inl f13)), (q24, .inl (E.2.1, 81, .inl z23)), (q1, .inr (9, [.int i4, .ref q24, .ref q26, .int i7, .int i8, .int i9, .int i10, .int i11, .int z22.2])), (q6, .inl (E.2.1, 81, .inl f14)), (q26, .inl (E.2.1, 81, .inl z25))]) mf_X8_swapped tw_1366 tw_1367 ⟨Nat.le_of_ble_eq_true rfl, Nat.le_of_ble_eq_true rfl⟩ (dX8_swap 37 rfl) 68 rfl (kX8_swapped hs i7 i2 i3) rfl [] [0, 1, 2, 3, 4] rfl rfl rfl rfl (by decide) rfl (Nat.le_of_ble_eq_true rfl) 0 0 (show 0 + 0 ≤ 0 from Nat.le_of_ble_eq_true rfl) (show 0 + 0 ≤ 0 from Nat.le_of_ble_eq_true rfl) (fun z27 v w hz => ?_)
      obtain ⟨rfl, rfl⟩ := hz
      show V E K mX8_swap (Qm E K mX8_swap (zX8_swap E q1 i4 i10 i11)) 0 0 [(q5, .inl (E.2.1, 81, .inl f13)), (q24, .inl (E.2.1, 81, .inl z23)), (q1, .inr (9, [.int i4, .ref q24, .ref q26, .int i7, .int i8, .int i9, .int i10, .int i11, .int z22.2])), (q6, .inl (E.2.1, 81, .inl f14)), (q26, .inl (E.2.1, 81, .inl z25))] 68 [(0, .ref q1), (1, .int i2), (2, .int i3)] [.int z27, .ref q1] _
      refine V_put pf_M_27 2 rfl rfl rfl (Nat.le_of_ble_eq_true rfl) (dX8_swap 38 rfl) 71 rfl [(q5, .inl (E.2.1, 81, .inl f13)), (q24, .inl (E.2.1, 81, .inl z23)), (q1, .inr (9, [.int i4, .ref q24, .ref q26, .int z27, .int i8, .int i9, .int i10, .int i11, .int z22.2])), (q6, .inl (E.2.1, 81, .inl f14)), (q26, .inl (E.2.1, 81, .inl z25))] rfl ?_
      refine V_aload_n (dX8_swap 39 rfl) 72 rfl 0 rfl ?_
      refine V_aload_n (dX8_swap 40 rfl) 73 rfl 0 rfl ?_
      refine V_get gf_M_30 2 rfl rfl (dX8_swap 41 rfl) 76 rfl ?_
      refine V_iload_n (dX8_swap 42 rfl) 77 rfl 1 rfl ?_
      refine V_iload_n (dX8_swap 43 rfl) 78 rfl 2 rfl ?_
      refine V_callS (M := mX8_swap) (wcs := []) (wr := [(q5, .inl (E.2.1, 81, .inl f13)), (q24, .inl (E.2.1, 81, .inl z23)), (q1, .inr (9, [.int i4, .ref q24, .ref q26, .int z27, .int i8, .int i9, .int i10, .int i11, .int z22.2])), (q6, .inl (E.2.1, 81, .inl f14)), (q26, .inl (E.2.1, 81, .inl z25))]) mf_X8_swapped tw_1366 tw_1367 ⟨Nat.le_of_ble_eq_true rfl, Nat.le_of_ble_eq_true rfl⟩ (dX8_swap 44 rfl) 81 rfl (kX8_swapped hs i8 i2 i3) rfl [] [0, 1, 2, 3, 4] rfl rfl rfl rfl (by decide) rfl (Nat.le_of_ble_eq_true rfl) 0 0 (show 0 + 0 ≤ 0 from Nat.le_of_ble_eq_true rfl) (show 0 + 0 ≤ 0 from Nat.le_of_ble_eq_true rfl) (fun z28 v w hz => ?_)
      obtain ⟨rfl, rfl⟩ := hz
      show V E K mX8_swap (Qm E K mX8_swap (zX8_swap E q1 i4 i10 i11)) 0 0 [(q5, .inl (E.2.1, 81, .inl f13)), (q24, .inl (E.2.1, 81, .inl z23)), (q1, .inr (9, [.int i4, .ref q24, .ref q26, .int z27, .int i8, .int i9, .int i10, .int i11, .int z22.2])), (q6, .inl (E.2.1, 81, .inl f14)), (q26, .inl (E.2.1, 81, .inl z25))] 81 [(0, .ref q1), (1, .int i2), (2, .int i3)] [.int z28, .ref q1] _
      refine V_put pf_M_30 2 rfl rfl rfl (Nat.le_of_ble_eq_true rfl) (dX8_swap 45 rfl) 84 rfl [(q5, .inl (E.2.1, 81, .inl f13)), (q24, .inl (E.2.1, 81, .inl z23)), (q1, .inr (9, [.int i4, .ref q24, .ref q26, .int z27, .int z28, .int i9, .int i10, .int i11, .int z22.2])), (q6, .inl (E.2.1, 81, .inl f14)), (q26, .inl (E.2.1, 81, .inl z25))] rfl ?_
      refine V_aload_n (dX8_swap 46 rfl) 85 rfl 0 rfl ?_
      refine V_aload_n (dX8_swap 47 rfl) 86 rfl 0 rfl ?_
      refine V_get gf_M_30 2 rfl rfl (dX8_swap 48 rfl) 89 rfl ?_
      refine V_callV (M := mX8_swap) (wcs := [(q1, .inr (9, [.int i4, .ref q24, .ref q26, .int z27, .int z28, .int i9, .int i10, .int i11, .int z22.2]))]) (wr := [(q5, .inl (E.2.1, 81, .inl f13)), (q24, .inl (E.2.1, 81, .inl z23)), (q6, .inl (E.2.1, 81, .inl f14)), (q26, .inl (E.2.1, 81, .inl z25))]) mf_X8_did tw_1291 tw_1293 tw_29 ⟨Nat.le_of_ble_eq_true rfl, Nat.le_of_ble_eq_true rfl⟩ (dX8_swap 49 rfl) 92 rfl (kX8_did hs q1 i4 (.ref q24) (.ref q26) z27 z28 i9 i10 i11 z22.2 z28) rfl [2] [0, 1, 3, 4] (q0 := 0) rfl rfl rfl rfl (by decide) rfl rfl rfl rfl (Nat.le_of_ble_eq_true rfl) 0 0 (show 0 + 0 ≤ 0 from Nat.le_of_ble_eq_true rfl) (show 0 + 0 ≤ 0 from Nat.le_of_ble_eq_true rfl) (fun z29 v w hz => ?_)
      obtain ⟨rfl, rfl⟩ := hz
      show V E K mX8_swap (Qm E K mX8_swap (zX8_swap E q1 i4 i10 i11)) 0 0 [(q5, .inl (E.2.1, 81, .inl f13)), (q24, .inl (E.2.1, 81, .inl z23)), (q6, .inl (E.2.1, 81, .inl f14)), (q26, .inl (E.2.1, 81, .inl z25)), (q1, .inr (9, [.int i4, .ref q24, .ref q26, .int z27, .int z28, .int z29.2, .int i10, .int i11, .int z22.2]))] 92 [(0, .ref q1), (1, .int i2), (2, .int i3)] [.int z29.1] _
      refine V_world [4, 1, 3] [(q1, .inr (9, [.int i4, .ref q24, .ref q26, .int z27, .int z28, .int z29.2, .int i10, .int i11, .int z22.2])), (q24, .inl (E.2.1, 81, .inl z23)), (q26, .inl (E.2.1, 81, .inl z25))] rfl rfl rfl ?_
      exact V_iret rfl (dX8_swap 50 rfl) ⟨q24, q26, rfl, rfl⟩
    · refine V_iconst (0 : Int32) (by decide) (dX8_swap 14 rfl) 29 rfl ?_
      refine V_world [2, 0, 1] [(q1, .inr (9, [.int i4, .ref q5, .ref q6, .int i7, .int i8, .int i9, .int i10, .int i11, .int z22.2])), (q5, .inl (E.2.1, 81, .inl f13)), (q6, .inl (E.2.1, 81, .inl f14))] rfl rfl rfl ?_
      exact V_iret rfl (dX8_swap 15 rfl) ⟨q5, q6, rfl, rfl⟩
  · intro k16 hk17
    refine V_jn (fun (k18 : Unit → Option (Int32 × Int32 × Int32 × Int32 × Int32 × (Nat → Int32) × (Nat → Int32))) => ∀ (_ : Unit), V E K mX8_swap (Qm E K mX8_swap (zX8_swap E q1 i4 i10 i11)) 2 162 [(q1, .inr (9, [.int i4, .ref q5, .ref q6, .int i7, .int i8, .int i9, .int i10, .int i11, .int i12])), (q5, .inl (E.2.1, 81, .inl f13)), (q6, .inl (E.2.1, 81, .inl f14))] 17 [(0, .ref q1), (1, .int i2), (2, .int i3)] [.ref q1] (k18 ())) ?_ ?_
    · intro _
      show V E K mX8_swap (Qm E K mX8_swap (zX8_swap E q1 i4 i10 i11)) 2 162 [(q1, .inr (9, [.int i4, .ref q5, .ref q6, .int i7, .int i8, .int i9, .int i10, .int i11, .int i12])), (q5, .inl (E.2.1, 81, .inl f13)), (q6, .inl (E.2.1, 81, .inl f14))] 17 [(0, .ref q1), (1, .int i2), (2, .int i3)] [.ref q1] _
      refine V_iconst (1 : Int32) (by decide) (dX8_swap 9 rfl) 18 rfl ?_
      refine V_goto (dX8_swap 10 rfl) 22 (by decide) ?_
      exact hk17 (1 : Int32)
    · intro k18 hk19
      refine V_if_eq (dX8_swap 4 rfl) 17 (by decide) 9 rfl ?_ ?_
      · refine V_world [2, 0, 1] [(q1, .inr (9, [.int i4, .ref q5, .ref q6, .int i7, .int i8, .int i9, .int i10, .int i11, .int i12])), (q5, .inl (E.2.1, 81, .inl f13)), (q6, .inl (E.2.1, 81, .inl f14))] rfl rfl rfl ?_
        exact hk19 ()
      · refine V_aload_n (dX8_swap 5 rfl) 10 rfl 0 rfl ?_
        refine V_iload_n (dX8_swap 6 rfl) 11 rfl 2 rfl ?_
        refine V_callV (M := mX8_swap) (wcs := [(q1, .inr (9, [.int i4, .ref q5, .ref q6, .int i7, .int i8, .int i9, .int i10, .int i11, .int i12]))]) (wr := [(q5, .inl (E.2.1, 81, .inl f13)), (q6, .inl (E.2.1, 81, .inl f14))]) mf_X8_isPlace tw_1299 tw_1301 tw_30 ⟨Nat.le_of_ble_eq_true rfl, Nat.le_of_ble_eq_true rfl⟩ (dX8_swap 7 rfl) 14 rfl (kX8_isPlace hs q1 i4 (.ref q5) (.ref q6) i7 i8 i9 i10 i11 i12 i3) rfl [2] [0, 1] (q0 := 0) rfl rfl rfl rfl (by decide) rfl rfl rfl rfl (Nat.le_of_ble_eq_true rfl) 2 162 (show 2 + 0 ≤ 2 from Nat.le_of_ble_eq_true rfl) (show 162 + 0 ≤ 162 from Nat.le_of_ble_eq_true rfl) (fun z20 v w hz => ?_)
        obtain ⟨rfl, rfl⟩ := hz
        show V E K mX8_swap (Qm E K mX8_swap (zX8_swap E q1 i4 i10 i11)) 2 162 [(q5, .inl (E.2.1, 81, .inl f13)), (q6, .inl (E.2.1, 81, .inl f14)), (q1, .inr (9, [.int i4, .ref q5, .ref q6, .int i7, .int i8, .int i9, .int i10, .int i11, .int i12]))] 14 [(0, .ref q1), (1, .int i2), (2, .int i3)] [.int z20, .ref q1] _
        refine V_if_ne (dX8_swap 8 rfl) 21 (by decide) 17 rfl ?_ ?_
        · refine V_iconst (0 : Int32) (by decide) (dX8_swap 11 rfl) 22 rfl ?_
          refine V_world [2, 0, 1] [(q1, .inr (9, [.int i4, .ref q5, .ref q6, .int i7, .int i8, .int i9, .int i10, .int i11, .int i12])), (q5, .inl (E.2.1, 81, .inl f13)), (q6, .inl (E.2.1, 81, .inl f14))] rfl rfl rfl ?_
          exact hk17 (0 : Int32)
        · refine V_world [2, 0, 1] [(q1, .inr (9, [.int i4, .ref q5, .ref q6, .int i7, .int i8, .int i9, .int i10, .int i11, .int i12])), (q5, .inl (E.2.1, 81, .inl f13)), (q6, .inl (E.2.1, 81, .inl f14))] rfl rfl rfl ?_
          exact hk19 ())
set_option maxRecDepth 20000 in
theorem kX8_step {E : EX} {l : Launch} (hl : l.stackTraces = false) (q1 q4 q5 : Nat) (i3 i6 i7 i8 i9 i10 i11 : Int32) (f12 f13 : Nat → Int32) (i2 : Int32) : Ct E l mX8_step [.ref q1, .int i2] [(q1, .inr (9, [.int i3, .ref q4, .ref q5, .int i6, .int i7, .int i8, .int i9, .int i10, .int i11])), (q4, .inl (E.2.1, 81, .inl f12)), (q5, .inl (E.2.1, 81, .inl f13))] (fX8_step i3 i6 i7 i8 i9 i10 f12 f13 i2) (zX8_step E q1 q4 q5 i3 i6 i7 i9 i10 f12) := Ct_of hl mf_X8_step.1 (Nat.le_of_ble_eq_true rfl) (fun K hs => by
  refine V_less 3 48 (Nat.le_refl _) (Nat.le_refl _) ?_
  refine V_pick [0, 1] [(0, .ref q1), (1, .int i2)] rfl ?_
  unfold fX8_step
  refine V_aload_n (dX8_step 0 rfl) 1 rfl 0 rfl ?_
  refine V_iload_n (dX8_step 1 rfl) 2 rfl 1 rfl ?_
  refine V_callS (M := mX8_step) (wcs := []) (wr := [(q1, .inr (9, [.int i3, .ref q4, .ref q5, .int i6, .int i7, .int i8, .int i9, .int i10, .int i11])), (q4, .inl (E.2.1, 81, .inl f12)), (q5, .inl (E.2.1, 81, .inl f13))]) mf_X8_isRule tw_1373 tw_1374 ⟨Nat.le_of_ble_eq_true rfl, Nat.le_of_ble_eq_true rfl⟩ (dX8_step 2 rfl) 5 rfl (kX8_isRule hs i2) rfl [] [0, 1, 2] rfl rfl rfl rfl (by decide) rfl (Nat.le_of_ble_eq_true rfl) 3 48 (show 3 + 0 ≤ 3 from Nat.le_of_ble_eq_true rfl) (show 48 + 0 ≤ 48 from Nat.le_of_ble_eq_true rfl) (fun z14 v w hz => ?_)
  obtain ⟨rfl, rfl⟩ := hz
  show V E K mX8_step (Qm E K mX8_step (zX8_step E q1 q4 q5 i3 i6 i7 i9 i10 f12)) 3 48 [(q1, .inr (9, [.int i3, .ref q4, .ref q5, .int i6, .int i7, .int i8, .int i9, .int i10, .int i11])), (q4, .inl (E.2.1, 81, .inl f12)), (q5, .inl (E.2.1, 81, .inl f13))] 5 [(0, .ref q1), (1, .int i2)] [.int z14, .ref q1] _
  refine V_jn (fun (k15 : Int32 → Option (Int32 × Int32 × Int32 × (Nat → Int32))) => ∀ (i17 : Int32), V E K mX8_step (Qm E K mX8_step (zX8_step E q1 q4 q5 i3 i6 i7 i9 i10 f12)) 3 48 [(q1, .inr (9, [.int i3, .ref q4, .ref q5, .int i6, .int i7, .int i8, .int i9, .int i10, .int i11])), (q4, .inl (E.2.1, 81, .inl f12)), (q5, .inl (E.2.1, 81, .inl f13))] 13 [(0, .ref q1), (1, .int i2)] [.int i17, .ref q1] (k15 i17)) ?_ ?_
  · intro i17
    show V E K mX8_step (Qm E K mX8_step (zX8_step E q1 q4 q5 i3 i6 i7 i9 i10 f12)) 3 48 [(q1, .inr (9, [.int i3, .ref q4, .ref q5, .int i6, .int i7, .int i8, .int i9, .int i10, .int i11])), (q4, .inl (E.2.1, 81, .inl f12)), (q5, .inl (E.2.1, 81, .inl f13))] 13 [(0, .ref q1), (1, .int i2)] [.int i17, .ref q1] _
    refine V_callV (M := mX8_step) (wcs := [(q1, .inr (9, [.int i3, .ref q4, .ref q5, .int i6, .int i7, .int i8, .int i9, .int i10, .int i11]))]) (wr := [(q4, .inl (E.2.1, 81, .inl f12)), (q5, .inl (E.2.1, 81, .inl f13))]) mf_X8_isThrown_ tw_1283 tw_1285 tw_27 ⟨Nat.le_of_ble_eq_true rfl, Nat.le_of_ble_eq_true rfl⟩ (dX8_step 7 rfl) 16 rfl (kX8_isThrown_ hs q1 i3 (.ref q4) (.ref q5) i6 i7 i8 i9 i10 i11 i17) rfl [0] [1, 2] (q0 := 0) rfl rfl rfl rfl (by decide) rfl rfl rfl rfl (Nat.le_of_ble_eq_true rfl) 3 48 (show 3 + 0 ≤ 3 from Nat.le_of_ble_eq_true rfl) (show 48 + 0 ≤ 48 from Nat.le_of_ble_eq_true rfl) (fun z18 v w hz => ?_)
    obtain ⟨rfl, rfl⟩ := hz
    show V E K mX8_step (Qm E K mX8_step (zX8_step E q1 q4 q5 i3 i6 i7 i9 i10 f12)) 3 48 [(q4, .inl (E.2.1, 81, .inl f12)), (q5, .inl (E.2.1, 81, .inl f13)), (q1, .inr (9, [.int i3, .ref q4, .ref q5, .int i6, .int i7, .int i8, .int i9, .int i10, .int z18.2]))] 16 [(0, .ref q1), (1, .int i2)] [.int z18.1] _
    refine V_if_eq (dX8_step 8 rfl) 23 (by decide) 19 rfl ?_ ?_
    · refine V_aload_n (dX8_step 11 rfl) 24 rfl 0 rfl ?_
      refine V_aload_n (dX8_step 12 rfl) 25 rfl 0 rfl ?_
      refine V_iload_n (dX8_step 13 rfl) 26 rfl 1 rfl ?_
      refine V_callV (M := mX8_step) (wcs := [(q1, .inr (9, [.int i3, .ref q4, .ref q5, .int i6, .int i7, .int i8, .int i9, .int i10, .int z18.2])), (q4, .inl (E.2.1, 81, .inl f12)), (q5, .inl (E.2.1, 81, .inl f13))]) (wr := []) mf_X8_stepNow tw_1376 tw_1378 tw_39 ⟨Nat.le_of_ble_eq_true rfl, Nat.le_of_ble_eq_true rfl⟩ (dX8_step 14 rfl) 29 rfl (kX8_stepNow hs q1 q4 q5 i3 i6 i7 i8 i9 i10 z18.2 f12 f13 i2) rfl [2, 0, 1] [] (q0 := 0) rfl rfl rfl rfl (by decide) rfl rfl rfl rfl (Nat.le_of_ble_eq_true rfl) 0 0 (show 0 + 3 ≤ 3 from Nat.le_of_ble_eq_true rfl) (show 0 + 48 ≤ 48 from Nat.le_of_ble_eq_true rfl) (fun z19 v w hz => ?_)
      obtain ⟨rfl, rfl⟩ := hz
      show V E K mX8_step (Qm E K mX8_step (zX8_step E q1 q4 q5 i3 i6 i7 i9 i10 f12)) 0 0 [(q1, .inr (9, [.int i3, .ref q4, .ref q5, .int i6, .int i7, .int i8, .int i9, .int i10, .int z18.2])), (q4, .inl (E.2.1, 81, .inl f12)), (q5, .inl (E.2.1, 81, .inl z19.2))] 29 [(0, .ref q1), (1, .int i2)] [.int z19.1, .ref q1] _
      refine V_callV (M := mX8_step) (wcs := [(q1, .inr (9, [.int i3, .ref q4, .ref q5, .int i6, .int i7, .int i8, .int i9, .int i10, .int z18.2]))]) (wr := [(q4, .inl (E.2.1, 81, .inl f12)), (q5, .inl (E.2.1, 81, .inl z19.2))]) mf_X8_did tw_1291 tw_1293 tw_29 ⟨Nat.le_of_ble_eq_true rfl, Nat.le_of_ble_eq_true rfl⟩ (dX8_step 15 rfl) 32 rfl (kX8_did hs q1 i3 (.ref q4) (.ref q5) i6 i7 i8 i9 i10 z18.2 z19.1) rfl [0] [1, 2] (q0 := 0) rfl rfl rfl rfl (by decide) rfl rfl rfl rfl (Nat.le_of_ble_eq_true rfl) 0 0 (show 0 + 0 ≤ 0 from Nat.le_of_ble_eq_true rfl) (show 0 + 0 ≤ 0 from Nat.le_of_ble_eq_true rfl) (fun z20 v w hz => ?_)
      obtain ⟨rfl, rfl⟩ := hz
      show V E K mX8_step (Qm E K mX8_step (zX8_step E q1 q4 q5 i3 i6 i7 i9 i10 f12)) 0 0 [(q4, .inl (E.2.1, 81, .inl f12)), (q5, .inl (E.2.1, 81, .inl z19.2)), (q1, .inr (9, [.int i3, .ref q4, .ref q5, .int i6, .int i7, .int z20.2, .int i9, .int i10, .int z18.2]))] 32 [(0, .ref q1), (1, .int i2)] [.int z20.1] _
      refine V_world [2, 0, 1] [(q1, .inr (9, [.int i3, .ref q4, .ref q5, .int i6, .int i7, .int z20.2, .int i9, .int i10, .int z18.2])), (q4, .inl (E.2.1, 81, .inl f12)), (q5, .inl (E.2.1, 81, .inl z19.2))] rfl rfl rfl ?_
      exact V_iret rfl (dX8_step 16 rfl) ⟨rfl, rfl⟩
    · refine V_iconst (0 : Int32) (by decide) (dX8_step 9 rfl) 20 rfl ?_
      refine V_goto (dX8_step 10 rfl) 32 (by decide) ?_
      refine V_world [2, 0, 1] [(q1, .inr (9, [.int i3, .ref q4, .ref q5, .int i6, .int i7, .int i8, .int i9, .int i10, .int z18.2])), (q4, .inl (E.2.1, 81, .inl f12)), (q5, .inl (E.2.1, 81, .inl f13))] rfl rfl rfl ?_
      exact V_iret rfl (dX8_step 16 rfl) ⟨rfl, rfl⟩
  · intro k15 hk16
    refine V_if_ne (dX8_step 3 rfl) 12 (by decide) 8 rfl ?_ ?_
    · refine V_iconst (0 : Int32) (by decide) (dX8_step 6 rfl) 13 rfl ?_
      exact hk16 (0 : Int32)
    · refine V_iconst (1 : Int32) (by decide) (dX8_step 4 rfl) 9 rfl ?_
      refine V_goto (dX8_step 5 rfl) 13 (by decide) ?_
      exact hk16 (1 : Int32))
set_option maxRecDepth 20000 in
theorem vBX8_fill_L23 {E : EX} {K : KX} (hs : K.l.stackTraces = false) (q1 q4 q5 : Nat) (i3 i6 i7 i9 i10 : Int32) (f12 : Nat → Int32) (i2 i8 i34 : Int32) (bc bs : Nat) (n : Nat) (i33 : Int32) (f35 : Nat → Int32) {rec : Int32 → (Nat → Int32) → Option (Int32 × Int32 × Int32 × (Nat → Int32))} {k1 : Int32 → (Nat → Int32) → Option (Int32 × Int32 × Int32 × (Nat → Int32))} (hrec : ∀ (i33 : Int32) (f35 : Nat → Int32), V E K mX8_fill (Qm E K mX8_fill (zX8_fill E q1 q4 q5 i3 i6 i7 i9 i10 f12)) (n * 3 + bc) (n * 48 + bs) [(q1, .inr (9, [.int i3, .ref q4, .ref q5, .int i6, .int i7, .int i8, .int i9, .int i10, .int i34])), (q4, .inl (E.2.1, 81, .inl f12)), (q5, .inl (E.2.1, 81, .inl f35))] 23 [(0, .ref q1), (1, .int i2), (2, .int i33)] [] (rec i33 f35)) (hk1 : ∀ (i37 : Int32) (f38 : Nat → Int32), V E K mX8_fill (Qm E K mX8_fill (zX8_fill E q1 q4 q5 i3 i6 i7 i9 i10 f12)) (bc) (bs) [(q1, .inr (9, [.int i3, .ref q4, .ref q5, .int i6, .int i7, .int i8, .int i9, .int i10, .int i34])), (q4, .inl (E.2.1, 81, .inl f12)), (q5, .inl (E.2.1, 81, .inl f38))] 37 [(0, .ref q1), (2, .int i37)] [] (k1 i37 f38)) : V E K mX8_fill (Qm E K mX8_fill (zX8_fill E q1 q4 q5 i3 i6 i7 i9 i10 f12)) (n * 3 + bc + 3) (n * 48 + bs + 48) [(q1, .inr (9, [.int i3, .ref q4, .ref q5, .int i6, .int i7, .int i8, .int i9, .int i10, .int i34])), (q4, .inl (E.2.1, 81, .inl f12)), (q5, .inl (E.2.1, 81, .inl f35))] 23 [(0, .ref q1), (1, .int i2), (2, .int i33)] [] (BX8_fill_L23  i3 i6 i7 i9 i10 f12 i2 i8 i34 i33 f35 rec k1) := by
  unfold BX8_fill_L23
  refine V_aload_n (dX8_fill 13 rfl) 24 rfl 0 rfl ?_
  refine V_iload_n (dX8_fill 14 rfl) 25 rfl 1 rfl ?_
  refine V_callV (M := mX8_fill) (wcs := [(q1, .inr (9, [.int i3, .ref q4, .ref q5, .int i6, .int i7, .int i8, .int i9, .int i10, .int i34])), (q4, .inl (E.2.1, 81, .inl f12)), (q5, .inl (E.2.1, 81, .inl f35))]) (wr := []) mf_X8_stepNow tw_1376 tw_1378 tw_39 ⟨Nat.le_of_ble_eq_true rfl, Nat.le_of_ble_eq_true rfl⟩ (dX8_fill 15 rfl) 28 rfl (kX8_stepNow hs q1 q4 q5 i3 i6 i7 i8 i9 i10 i34 f12 f35 i2) rfl [0, 1, 2] [] (q0 := 0) rfl rfl rfl rfl (by decide) rfl rfl rfl rfl (Nat.le_of_ble_eq_true rfl) (n * 3 + bc) (n * 48 + bs) (show (n * 3 + bc) + 3 ≤ (n * 3 + bc + 3) by omega) (show (n * 48 + bs) + 48 ≤ (n * 48 + bs + 48) by omega) (fun z36 v w hz => ?_)
  obtain ⟨rfl, rfl⟩ := hz
  show V E K mX8_fill (Qm E K mX8_fill (zX8_fill E q1 q4 q5 i3 i6 i7 i9 i10 f12)) (n * 3 + bc) (n * 48 + bs) [(q1, .inr (9, [.int i3, .ref q4, .ref q5, .int i6, .int i7, .int i8, .int i9, .int i10, .int i34])), (q4, .inl (E.2.1, 81, .inl f12)), (q5, .inl (E.2.1, 81, .inl z36.2))] 28 [(0, .ref q1), (1, .int i2), (2, .int i33)] [.int z36.1] _
  refine V_if_le (dX8_fill 16 rfl) 37 (by decide) 31 rfl ?_ ?_
  · refine V_less (bc) (bs) (show (bc) ≤ (n * 3 + bc) by omega) (show (bs) ≤ (n * 48 + bs) by omega) ?_
    refine V_pick [0, 2] [(0, .ref q1), (2, .int i33)] rfl ?_
    exact hk1 i33 z36.2
  · refine V_iinc (dX8_fill 17 rfl) 34 rfl 2 rfl (i33 + (1 : Int32)) rfl [(0, .ref q1), (1, .int i2), (2, .int (i33 + (1 : Int32)))] (Nat.le_of_ble_eq_true rfl) rfl ?_
    refine V_goto (dX8_fill 18 rfl) 23 (by decide) ?_
    exact hrec (i33 + (1 : Int32)) z36.2
set_option maxRecDepth 20000 in
theorem vLX8_fill_L23 {E : EX} {K : KX} (hs : K.l.stackTraces = false) (q1 q4 q5 : Nat) (i3 i6 i7 i9 i10 : Int32) (f12 : Nat → Int32) (i2 i8 i34 : Int32) (bc bs : Nat) {k1 : Int32 → (Nat → Int32) → Option (Int32 × Int32 × Int32 × (Nat → Int32))} (hk1 : ∀ (i37 : Int32) (f38 : Nat → Int32), V E K mX8_fill (Qm E K mX8_fill (zX8_fill E q1 q4 q5 i3 i6 i7 i9 i10 f12)) (bc) (bs) [(q1, .inr (9, [.int i3, .ref q4, .ref q5, .int i6, .int i7, .int i8, .int i9, .int i10, .int i34])), (q4, .inl (E.2.1, 81, .inl f12)), (q5, .inl (E.2.1, 81, .inl f38))] 37 [(0, .ref q1), (2, .int i37)] [] (k1 i37 f38)) : ∀ (n : Nat) (i33 : Int32) (f35 : Nat → Int32), V E K mX8_fill (Qm E K mX8_fill (zX8_fill E q1 q4 q5 i3 i6 i7 i9 i10 f12)) (n * 3 + bc) (n * 48 + bs) [(q1, .inr (9, [.int i3, .ref q4, .ref q5, .int i6, .int i7, .int i8, .int i9, .int i10, .int i34])), (q4, .inl (E.2.1, 81, .inl f12)), (q5, .inl (E.2.1, 81, .inl f35))] 23 [(0, .ref q1), (1, .int i2), (2, .int i33)] [] (LX8_fill_L23  i3 i6 i7 i9 i10 f12 i2 i8 i34 n i33 f35 k1)
  | 0, _, _ => V_none
  | n + 1, i33, f35 => V_less (n * 3 + bc + 3) (n * 48 + bs + 48) (by omega) (by omega) (vBX8_fill_L23 hs q1 q4 q5 i3 i6 i7 i9 i10 f12 i2 i8 i34 bc bs n i33 f35 (fun i33 f35 => vLX8_fill_L23 hs q1 q4 q5 i3 i6 i7 i9 i10 f12 i2 i8 i34 bc bs hk1 n i33 f35) hk1)
set_option maxRecDepth 20000 in
theorem kX8_fill {E : EX} {l : Launch} (hl : l.stackTraces = false) (q1 q4 q5 : Nat) (i3 i6 i7 i8 i9 i10 i11 : Int32) (f12 f13 : Nat → Int32) (i2 : Int32) : Ct E l mX8_fill [.ref q1, .int i2] [(q1, .inr (9, [.int i3, .ref q4, .ref q5, .int i6, .int i7, .int i8, .int i9, .int i10, .int i11])), (q4, .inl (E.2.1, 81, .inl f12)), (q5, .inl (E.2.1, 81, .inl f13))] (fX8_fill i3 i6 i7 i8 i9 i10 f12 f13 i2) (zX8_fill E q1 q4 q5 i3 i6 i7 i9 i10 f12) := Ct_of hl mf_X8_fill.1 (Nat.le_of_ble_eq_true rfl) (fun K hs => by
  refine V_less 1260 20160 (Nat.le_refl _) (Nat.le_refl _) ?_
  refine V_pick [0, 1] [(0, .ref q1), (1, .int i2)] rfl ?_
  unfold fX8_fill
  refine V_aload_n (dX8_fill 0 rfl) 1 rfl 0 rfl ?_
  refine V_iload_n (dX8_fill 1 rfl) 2 rfl 1 rfl ?_
  refine V_callS (M := mX8_fill) (wcs := []) (wr := [(q1, .inr (9, [.int i3, .ref q4, .ref q5, .int i6, .int i7, .int i8, .int i9, .int i10, .int i11])), (q4, .inl (E.2.1, 81, .inl f12)), (q5, .inl (E.2.1, 81, .inl f13))]) mf_X8_isRule tw_1373 tw_1374 ⟨Nat.le_of_ble_eq_true rfl, Nat.le_of_ble_eq_true rfl⟩ (dX8_fill 2 rfl) 5 rfl (kX8_isRule hs i2) rfl [] [0, 1, 2] rfl rfl rfl rfl (by decide) rfl (Nat.le_of_ble_eq_true rfl) 1260 20160 (show 1260 + 0 ≤ 1260 from Nat.le_of_ble_eq_true rfl) (show 20160 + 0 ≤ 20160 from Nat.le_of_ble_eq_true rfl) (fun z14 v w hz => ?_)
  obtain ⟨rfl, rfl⟩ := hz
  show V E K mX8_fill (Qm E K mX8_fill (zX8_fill E q1 q4 q5 i3 i6 i7 i9 i10 f12)) 1260 20160 [(q1, .inr (9, [.int i3, .ref q4, .ref q5, .int i6, .int i7, .int i8, .int i9, .int i10, .int i11])), (q4, .inl (E.2.1, 81, .inl f12)), (q5, .inl (E.2.1, 81, .inl f13))] 5 [(0, .ref q1), (1, .int i2)] [.int z14, .ref q1] _
  refine V_jn (fun (k15 : Int32 → Option (Int32 × Int32 × Int32 × (Nat → Int32))) => ∀ (i17 : Int32), V E K mX8_fill (Qm E K mX8_fill (zX8_fill E q1 q4 q5 i3 i6 i7 i9 i10 f12)) 1260 20160 [(q1, .inr (9, [.int i3, .ref q4, .ref q5, .int i6, .int i7, .int i8, .int i9, .int i10, .int i11])), (q4, .inl (E.2.1, 81, .inl f12)), (q5, .inl (E.2.1, 81, .inl f13))] 13 [(0, .ref q1), (1, .int i2)] [.int i17, .ref q1] (k15 i17)) ?_ ?_
  · intro i17
    show V E K mX8_fill (Qm E K mX8_fill (zX8_fill E q1 q4 q5 i3 i6 i7 i9 i10 f12)) 1260 20160 [(q1, .inr (9, [.int i3, .ref q4, .ref q5, .int i6, .int i7, .int i8, .int i9, .int i10, .int i11])), (q4, .inl (E.2.1, 81, .inl f12)), (q5, .inl (E.2.1, 81, .inl f13))] 13 [(0, .ref q1), (1, .int i2)] [.int i17, .ref q1] _
    refine V_callV (M := mX8_fill) (wcs := [(q1, .inr (9, [.int i3, .ref q4, .ref q5, .int i6, .int i7, .int i8, .int i9, .int i10, .int i11]))]) (wr := [(q4, .inl (E.2.1, 81, .inl f12)), (q5, .inl (E.2.1, 81, .inl f13))]) mf_X8_isThrown_ tw_1283 tw_1285 tw_27 ⟨Nat.le_of_ble_eq_true rfl, Nat.le_of_ble_eq_true rfl⟩ (dX8_fill 7 rfl) 16 rfl (kX8_isThrown_ hs q1 i3 (.ref q4) (.ref q5) i6 i7 i8 i9 i10 i11 i17) rfl [0] [1, 2] (q0 := 0) rfl rfl rfl rfl (by decide) rfl rfl rfl rfl (Nat.le_of_ble_eq_true rfl) 1260 20160 (show 1260 + 0 ≤ 1260 from Nat.le_of_ble_eq_true rfl) (show 20160 + 0 ≤ 20160 from Nat.le_of_ble_eq_true rfl) (fun z18 v w hz => ?_)
    obtain ⟨rfl, rfl⟩ := hz
    show V E K mX8_fill (Qm E K mX8_fill (zX8_fill E q1 q4 q5 i3 i6 i7 i9 i10 f12)) 1260 20160 [(q4, .inl (E.2.1, 81, .inl f12)), (q5, .inl (E.2.1, 81, .inl f13)), (q1, .inr (9, [.int i3, .ref q4, .ref q5, .int i6, .int i7, .int i8, .int i9, .int i10, .int z18.2]))] 16 [(0, .ref q1), (1, .int i2)] [.int z18.1] _
    refine V_if_eq (dX8_fill 8 rfl) 21 (by decide) 19 rfl ?_ ?_
    · refine V_iconst (0 : Int32) (by decide) (dX8_fill 11 rfl) 22 rfl ?_
      refine V_istore_n (dX8_fill 12 rfl) 23 rfl [(0, .ref q1), (1, .int i2), (2, .int (0 : Int32))] (Nat.le_of_ble_eq_true rfl) rfl ?_
      refine V_world [2, 0, 1] [(q1, .inr (9, [.int i3, .ref q4, .ref q5, .int i6, .int i7, .int i8, .int i9, .int i10, .int z18.2])), (q4, .inl (E.2.1, 81, .inl f12)), (q5, .inl (E.2.1, 81, .inl f13))] rfl rfl rfl ?_
      refine V_less (420 * 3 + 0) (420 * 48 + 0) (by omega) (by omega) ?_
      refine vLX8_fill_L23 hs q1 q4 q5 i3 i6 i7 i9 i10 f12 i2 i8 z18.2 0 0 ?_ 420 (0 : Int32) f13
      intro i37 f38
      show V E K mX8_fill (Qm E K mX8_fill (zX8_fill E q1 q4 q5 i3 i6 i7 i9 i10 f12)) 0 0 [(q1, .inr (9, [.int i3, .ref q4, .ref q5, .int i6, .int i7, .int i8, .int i9, .int i10, .int z18.2])), (q4, .inl (E.2.1, 81, .inl f12)), (q5, .inl (E.2.1, 81, .inl f38))] 37 [(0, .ref q1), (2, .int i37)] [] _
      refine V_aload_n (dX8_fill 19 rfl) 38 rfl 0 rfl ?_
      refine V_iload_n (dX8_fill 20 rfl) 39 rfl 1 rfl ?_
      refine V_callV (M := mX8_fill) (wcs := [(q1, .inr (9, [.int i3, .ref q4, .ref q5, .int i6, .int i7, .int i8, .int i9, .int i10, .int z18.2]))]) (wr := [(q4, .inl (E.2.1, 81, .inl f12)), (q5, .inl (E.2.1, 81, .inl f38))]) mf_X8_did tw_1291 tw_1293 tw_29 ⟨Nat.le_of_ble_eq_true rfl, Nat.le_of_ble_eq_true rfl⟩ (dX8_fill 21 rfl) 42 rfl (kX8_did hs q1 i3 (.ref q4) (.ref q5) i6 i7 i8 i9 i10 z18.2 i37) rfl [0] [1, 2] (q0 := 0) rfl rfl rfl rfl (by decide) rfl rfl rfl rfl (Nat.le_of_ble_eq_true rfl) 0 0 (show 0 + 0 ≤ 0 from Nat.le_of_ble_eq_true rfl) (show 0 + 0 ≤ 0 from Nat.le_of_ble_eq_true rfl) (fun z39 v w hz => ?_)
      obtain ⟨rfl, rfl⟩ := hz
      show V E K mX8_fill (Qm E K mX8_fill (zX8_fill E q1 q4 q5 i3 i6 i7 i9 i10 f12)) 0 0 [(q4, .inl (E.2.1, 81, .inl f12)), (q5, .inl (E.2.1, 81, .inl f38)), (q1, .inr (9, [.int i3, .ref q4, .ref q5, .int i6, .int i7, .int z39.2, .int i9, .int i10, .int z18.2]))] 42 [(0, .ref q1), (2, .int i37)] [.int z39.1] _
      refine V_world [2, 0, 1] [(q1, .inr (9, [.int i3, .ref q4, .ref q5, .int i6, .int i7, .int z39.2, .int i9, .int i10, .int z18.2])), (q4, .inl (E.2.1, 81, .inl f12)), (q5, .inl (E.2.1, 81, .inl f38))] rfl rfl rfl ?_
      exact V_iret rfl (dX8_fill 22 rfl) ⟨rfl, rfl⟩
    · refine V_iconst (0 : Int32) (by decide) (dX8_fill 9 rfl) 20 rfl ?_
      refine V_world [2, 0, 1] [(q1, .inr (9, [.int i3, .ref q4, .ref q5, .int i6, .int i7, .int i8, .int i9, .int i10, .int z18.2])), (q4, .inl (E.2.1, 81, .inl f12)), (q5, .inl (E.2.1, 81, .inl f13))] rfl rfl rfl ?_
      exact V_iret rfl (dX8_fill 10 rfl) ⟨rfl, rfl⟩
  · intro k15 hk16
    refine V_if_ne (dX8_fill 3 rfl) 12 (by decide) 8 rfl ?_ ?_
    · refine V_iconst (0 : Int32) (by decide) (dX8_fill 6 rfl) 13 rfl ?_
      exact hk16 (0 : Int32)
    · refine V_iconst (1 : Int32) (by decide) (dX8_fill 4 rfl) 9 rfl ?_
      refine V_goto (dX8_fill 5 rfl) 13 (by decide) ?_
      exact hk16 (1 : Int32))
set_option maxRecDepth 20000 in
theorem kX8_send {E : EX} {l : Launch} (hl : l.stackTraces = false) (q1 q5 q6 : Nat) (i4 i7 i8 i9 i10 i11 i12 : Int32) (f13 f14 : Nat → Int32) (i2 i3 : Int32) : Ct E l mX8_send [.ref q1, .int i2, .int i3] [(q1, .inr (9, [.int i4, .ref q5, .ref q6, .int i7, .int i8, .int i9, .int i10, .int i11, .int i12])), (q5, .inl (E.2.1, 81, .inl f13)), (q6, .inl (E.2.1, 81, .inl f14))] (fX8_send i4 i7 i8 i9 i10 f13 f14 i2 i3) (zX8_send E q1 q5 q6 i4 i7 i8 i11 f13) := Ct_of hl mf_X8_send.1 (Nat.le_of_ble_eq_true rfl) (fun K hs => by
  refine V_less 0 0 (Nat.le_refl _) (Nat.le_refl _) ?_
  refine V_pick [0, 1, 2] [(0, .ref q1), (1, .int i2), (2, .int i3)] rfl ?_
  unfold fX8_send
  refine V_aload_n (dX8_send_p0 0 rfl) 1 rfl 0 rfl ?_
  refine V_aload_n (dX8_send_p0 1 rfl) 2 rfl 0 rfl ?_
  refine V_iload_n (dX8_send_p0 2 rfl) 3 rfl 1 rfl ?_
  refine V_callV (M := mX8_send) (wcs := [(q1, .inr (9, [.int i4, .ref q5, .ref q6, .int i7, .int i8, .int i9, .int i10, .int i11, .int i12]))]) (wr := [(q5, .inl (E.2.1, 81, .inl f13)), (q6, .inl (E.2.1, 81, .inl f14))]) mf_X8_isPlace tw_1299 tw_1301 tw_30 ⟨Nat.le_of_ble_eq_true rfl, Nat.le_of_ble_eq_true rfl⟩ (dX8_send_p0 3 rfl) 6 rfl (kX8_isPlace hs q1 i4 (.ref q5) (.ref q6) i7 i8 i9 i10 i11 i12 i2) rfl [0] [1, 2] (q0 := 0) rfl rfl rfl rfl (by decide) rfl rfl rfl rfl (Nat.le_of_ble_eq_true rfl) 0 0 (show 0 + 0 ≤ 0 from Nat.le_of_ble_eq_true rfl) (show 0 + 0 ≤ 0 from Nat.le_of_ble_eq_true rfl) (fun z15 v w hz => ?_)
  obtain ⟨rfl, rfl⟩ := hz
  show V E K mX8_send (Qm E K mX8_send (zX8_send E q1 q5 q6 i4 i7 i8 i11 f13)) 0 0 [(q5, .inl (E.2.1, 81, .inl f13)), (q6, .inl (E.2.1, 81, .inl f14)), (q1, .inr (9, [.int i4, .ref q5, .ref q6, .int i7, .int i8, .int i9, .int i10, .int i11, .int i12]))] 6 [(0, .ref q1), (1, .int i2), (2, .int i3)] [.int z15, .ref q1] _
  refine V_jn (fun (k16 : Int32 → Option (Int32 × Int32 × Int32 × Int32 × (Nat → Int32))) => ∀ (i18 : Int32), V E K mX8_send (Qm E K mX8_send (zX8_send E q1 q5 q6 i4 i7 i8 i11 f13)) 0 0 [(q1, .inr (9, [.int i4, .ref q5, .ref q6, .int i7, .int i8, .int i9, .int i10, .int i11, .int i12])), (q5, .inl (E.2.1, 81, .inl f13)), (q6, .inl (E.2.1, 81, .inl f14))] 14 [(0, .ref q1), (1, .int i2), (2, .int i3)] [.int i18, .ref q1] (k16 i18)) ?_ ?_
  · intro i18
    show V E K mX8_send (Qm E K mX8_send (zX8_send E q1 q5 q6 i4 i7 i8 i11 f13)) 0 0 [(q1, .inr (9, [.int i4, .ref q5, .ref q6, .int i7, .int i8, .int i9, .int i10, .int i11, .int i12])), (q5, .inl (E.2.1, 81, .inl f13)), (q6, .inl (E.2.1, 81, .inl f14))] 14 [(0, .ref q1), (1, .int i2), (2, .int i3)] [.int i18, .ref q1] _
    refine V_iload_n (dX8_send_p0 8 rfl) 15 rfl 2 rfl ?_
    refine V_callS (M := mX8_send) (wcs := []) (wr := [(q1, .inr (9, [.int i4, .ref q5, .ref q6, .int i7, .int i8, .int i9, .int i10, .int i11, .int i12])), (q5, .inl (E.2.1, 81, .inl f13)), (q6, .inl (E.2.1, 81, .inl f14))]) mf_X8_isRoom tw_1319 tw_1320 ⟨Nat.le_of_ble_eq_true rfl, Nat.le_of_ble_eq_true rfl⟩ (dX8_send_p0 9 rfl) 18 rfl (kX8_isRoom hs i3) rfl [] [0, 1, 2] rfl rfl rfl rfl (by decide) rfl (Nat.le_of_ble_eq_true rfl) 0 0 (show 0 + 0 ≤ 0 from Nat.le_of_ble_eq_true rfl) (show 0 + 0 ≤ 0 from Nat.le_of_ble_eq_true rfl) (fun z19 v w hz => ?_)
    obtain ⟨rfl, rfl⟩ := hz
    show V E K mX8_send (Qm E K mX8_send (zX8_send E q1 q5 q6 i4 i7 i8 i11 f13)) 0 0 [(q1, .inr (9, [.int i4, .ref q5, .ref q6, .int i7, .int i8, .int i9, .int i10, .int i11, .int i12])), (q5, .inl (E.2.1, 81, .inl f13)), (q6, .inl (E.2.1, 81, .inl f14))] 18 [(0, .ref q1), (1, .int i2), (2, .int i3)] [.int z19, .int i18, .ref q1] _
    refine V_jn (fun (k20 : Int32 → Option (Int32 × Int32 × Int32 × Int32 × (Nat → Int32))) => ∀ (i22 : Int32), V E K mX8_send (Qm E K mX8_send (zX8_send E q1 q5 q6 i4 i7 i8 i11 f13)) 0 0 [(q1, .inr (9, [.int i4, .ref q5, .ref q6, .int i7, .int i8, .int i9, .int i10, .int i11, .int i12])), (q5, .inl (E.2.1, 81, .inl f13)), (q6, .inl (E.2.1, 81, .inl f14))] 26 [(0, .ref q1), (1, .int i2), (2, .int i3)] [.int i22, .int i18, .ref q1] (k20 i22)) ?_ ?_
    · intro i22
      show V E K mX8_send (Qm E K mX8_send (zX8_send E q1 q5 q6 i4 i7 i8 i11 f13)) 0 0 [(q1, .inr (9, [.int i4, .ref q5, .ref q6, .int i7, .int i8, .int i9, .int i10, .int i11, .int i12])), (q5, .inl (E.2.1, 81, .inl f13)), (q6, .inl (E.2.1, 81, .inl f14))] 26 [(0, .ref q1), (1, .int i2), (2, .int i3)] [.int i22, .int i18, .ref q1] _
      refine V_callV (M := mX8_send) (wcs := [(q1, .inr (9, [.int i4, .ref q5, .ref q6, .int i7, .int i8, .int i9, .int i10, .int i11, .int i12]))]) (wr := [(q5, .inl (E.2.1, 81, .inl f13)), (q6, .inl (E.2.1, 81, .inl f14))]) mf_X8_isThrown tw_1287 tw_1289 tw_28 ⟨Nat.le_of_ble_eq_true rfl, Nat.le_of_ble_eq_true rfl⟩ (dX8_send_p0 14 rfl) 29 rfl (kX8_isThrown hs q1 i4 (.ref q5) (.ref q6) i7 i8 i9 i10 i11 i12 i18 i22) rfl [0] [1, 2] (q0 := 0) rfl rfl rfl rfl (by decide) rfl rfl rfl rfl (Nat.le_of_ble_eq_true rfl) 0 0 (show 0 + 0 ≤ 0 from Nat.le_of_ble_eq_true rfl) (show 0 + 0 ≤ 0 from Nat.le_of_ble_eq_true rfl) (fun z23 v w hz => ?_)
      obtain ⟨rfl, rfl⟩ := hz
      show V E K mX8_send (Qm E K mX8_send (zX8_send E q1 q5 q6 i4 i7 i8 i11 f13)) 0 0 [(q5, .inl (E.2.1, 81, .inl f13)), (q6, .inl (E.2.1, 81, .inl f14)), (q1, .inr (9, [.int i4, .ref q5, .ref q6, .int i7, .int i8, .int i9, .int i10, .int i11, .int z23.2]))] 29 [(0, .ref q1), (1, .int i2), (2, .int i3)] [.int z23.1] _
      refine V_if_eq (dX8_send_p0 15 rfl) 34 (by decide) 32 rfl ?_ ?_
      · refine V_iload_n (dX8_send_p0 18 rfl) 35 rfl 1 rfl ?_
        refine V_aload_n (dX8_send_p0 19 rfl) 36 rfl 0 rfl ?_
        refine V_get gf_M_27 2 rfl rfl (dX8_send_p0 20 rfl) 39 rfl ?_
        refine V_jn (fun (k24 : Int32 → Option (Int32 × Int32 × Int32 × Int32 × (Nat → Int32))) => ∀ (i28 : Int32), V E K mX8_send (Qm E K mX8_send (zX8_send E q1 q5 q6 i4 i7 i8 i11 f13)) 0 0 [(q1, .inr (9, [.int i4, .ref q5, .ref q6, .int i7, .int i8, .int i9, .int i10, .int i11, .int z23.2])), (q5, .inl (E.2.1, 81, .inl f13)), (q6, .inl (E.2.1, 81, .inl f14))] 55 [(0, .ref q1), (1, .int i2), (2, .int i3)] [.int i28] (k24 i28)) ?_ ?_
        · intro i28
          show V E K mX8_send (Qm E K mX8_send (zX8_send E q1 q5 q6 i4 i7 i8 i11 f13)) 0 0 [(q1, .inr (9, [.int i4, .ref q5, .ref q6, .int i7, .int i8, .int i9, .int i10, .int i11, .int z23.2])), (q5, .inl (E.2.1, 81, .inl f13)), (q6, .inl (E.2.1, 81, .inl f14))] 55 [(0, .ref q1), (1, .int i2), (2, .int i3)] [.int i28] _
          refine V_istore_n (dX8_send_p0 29 rfl) 56 rfl [(0, .ref q1), (1, .int i2), (2, .int i3), (3, .int i28)] (Nat.le_of_ble_eq_true rfl) rfl ?_
          refine V_iload_n (dX8_send_p0 30 rfl) 57 rfl 3 rfl ?_
          refine V_jn (fun (k29 : Unit → Option (Int32 × Int32 × Int32 × Int32 × (Nat → Int32))) => ∀ (_ : Unit), V E K mX8_send (Qm E K mX8_send (zX8_send E q1 q5 q6 i4 i7 i8 i11 f13)) 0 0 [(q1, .inr (9, [.int i4, .ref q5, .ref q6, .int i7, .int i8, .int i9, .int i10, .int i11, .int z23.2])), (q5, .inl (E.2.1, 81, .inl f13)), (q6, .inl (E.2.1, 81, .inl f14))] 105 [(0, .ref q1)] [] (k29 ())) ?_ ?_
          · intro _
            show V E K mX8_send (Qm E K mX8_send (zX8_send E q1 q5 q6 i4 i7 i8 i11 f13)) 0 0 [(q1, .inr (9, [.int i4, .ref q5, .ref q6, .int i7, .int i8, .int i9, .int i10, .int i11, .int z23.2])), (q5, .inl (E.2.1, 81, .inl f13)), (q6, .inl (E.2.1, 81, .inl f14))] 105 [(0, .ref q1)] [] _
            refine V_aload_n (dX8_send_p0 55 rfl) 106 rfl 0 rfl ?_
            refine V_callV (M := mX8_send) (wcs := [(q1, .inr (9, [.int i4, .ref q5, .ref q6, .int i7, .int i8, .int i9, .int i10, .int i11, .int z23.2]))]) (wr := [(q5, .inl (E.2.1, 81, .inl f13)), (q6, .inl (E.2.1, 81, .inl f14))]) mf_X8_no tw_1326 tw_1328 tw_35 ⟨Nat.le_of_ble_eq_true rfl, Nat.le_of_ble_eq_true rfl⟩ (dX8_send_p0 56 rfl) 109 rfl (kX8_no hs q1 i4 (.ref q5) (.ref q6) i7 i8 i9 i10 i11 z23.2) rfl [0] [1, 2] (q0 := 0) rfl rfl rfl rfl (by decide) rfl rfl rfl rfl (Nat.le_of_ble_eq_true rfl) 0 0 (show 0 + 0 ≤ 0 from Nat.le_of_ble_eq_true rfl) (show 0 + 0 ≤ 0 from Nat.le_of_ble_eq_true rfl) (fun z44 v w hz => ?_)
            obtain ⟨rfl, rfl⟩ := hz
            show V E K mX8_send (Qm E K mX8_send (zX8_send E q1 q5 q6 i4 i7 i8 i11 f13)) 0 0 [(q5, .inl (E.2.1, 81, .inl f13)), (q6, .inl (E.2.1, 81, .inl f14)), (q1, .inr (9, [.int i4, .ref q5, .ref q6, .int i7, .int i8, .int i9, .int z44, .int i11, .int z23.2]))] 109 [(0, .ref q1)] [.int (-9 : Int32)] _
            refine V_world [2, 0, 1] [(q1, .inr (9, [.int i4, .ref q5, .ref q6, .int i7, .int i8, .int i9, .int z44, .int i11, .int z23.2])), (q5, .inl (E.2.1, 81, .inl f13)), (q6, .inl (E.2.1, 81, .inl f14))] rfl rfl rfl ?_
            exact V_iret rfl (dX8_send_p0 57 rfl) ⟨rfl, rfl⟩
          · intro k29 hk30
            refine V_jn (fun (k31 : Unit → Option (Int32 × Int32 × Int32 × Int32 × (Nat → Int32))) => ∀ (_ : Unit), V E K mX8_send (Qm E K mX8_send (zX8_send E q1 q5 q6 i4 i7 i8 i11 f13)) 0 0 [(q1, .inr (9, [.int i4, .ref q5, .ref q6, .int i7, .int i8, .int i9, .int i10, .int i11, .int z23.2])), (q5, .inl (E.2.1, 81, .inl f13)), (q6, .inl (E.2.1, 81, .inl f14))] 110 [(0, .ref q1), (1, .int i2), (2, .int i3), (3, .int i28)] [] (k31 ())) ?_ ?_
            · intro _
              show V E K mX8_send (Qm E K mX8_send (zX8_send E q1 q5 q6 i4 i7 i8 i11 f13)) 0 0 [(q1, .inr (9, [.int i4, .ref q5, .ref q6, .int i7, .int i8, .int i9, .int i10, .int i11, .int z23.2])), (q5, .inl (E.2.1, 81, .inl f13)), (q6, .inl (E.2.1, 81, .inl f14))] 110 [(0, .ref q1), (1, .int i2), (2, .int i3), (3, .int i28)] [] _
              refine V_iload_n (dX8_send_p0 58 rfl) 111 rfl 3 rfl ?_
              refine V_jn (fun (k36 : (Nat → Int32) → Option (Int32 × Int32 × Int32 × Int32 × (Nat → Int32))) => ∀ (f41 : Nat → Int32), V E K mX8_send (Qm E K mX8_send (zX8_send E q1 q5 q6 i4 i7 i8 i11 f13)) 0 0 [(q1, .inr (9, [.int i4, .ref q5, .ref q6, .int i7, .int i8, .int i9, .int i10, .int i11, .int z23.2])), (q5, .inl (E.2.1, 81, .inl f13)), (q6, .inl (E.2.1, 81, .inl f41))] 150 [(0, .ref q1)] [] (k36 f41)) ?_ ?_
              · intro f41
                show V E K mX8_send (Qm E K mX8_send (zX8_send E q1 q5 q6 i4 i7 i8 i11 f13)) 0 0 [(q1, .inr (9, [.int i4, .ref q5, .ref q6, .int i7, .int i8, .int i9, .int i10, .int i11, .int z23.2])), (q5, .inl (E.2.1, 81, .inl f13)), (q6, .inl (E.2.1, 81, .inl f41))] 150 [(0, .ref q1)] [] _
                refine V_aload_n (dX8_send_p1 10 rfl) 151 rfl 0 rfl ?_
                refine V_aload_n (dX8_send_p1 11 rfl) 152 rfl 0 rfl ?_
                refine V_callV (M := mX8_send) (wcs := [(q1, .inr (9, [.int i4, .ref q5, .ref q6, .int i7, .int i8, .int i9, .int i10, .int i11, .int z23.2])), (q6, .inl (E.2.1, 81, .inl f41))]) (wr := [(q5, .inl (E.2.1, 81, .inl f13))]) mf_X8_valueNow tw_1303 tw_1305 tw_31 ⟨Nat.le_of_ble_eq_true rfl, Nat.le_of_ble_eq_true rfl⟩ (dX8_send_p1 12 rfl) 155 rfl (kX8_valueNow hs q1 q6 i4 (.ref q5) i7 i8 i9 i10 i11 z23.2 f41) rfl [0, 2] [1] (q0 := 0) rfl rfl rfl rfl (by decide) rfl rfl rfl rfl (Nat.le_of_ble_eq_true rfl) 0 0 (show 0 + 0 ≤ 0 from Nat.le_of_ble_eq_true rfl) (show 0 + 0 ≤ 0 from Nat.le_of_ble_eq_true rfl) (fun z42 v w hz => ?_)
                obtain ⟨rfl, rfl⟩ := hz
                show V E K mX8_send (Qm E K mX8_send (zX8_send E q1 q5 q6 i4 i7 i8 i11 f13)) 0 0 [(q5, .inl (E.2.1, 81, .inl f13)), (q1, .inr (9, [.int i4, .ref q5, .ref q6, .int i7, .int i8, .int i9, .int i10, .int i11, .int z23.2])), (q6, .inl (E.2.1, 81, .inl f41))] 155 [(0, .ref q1)] [.int z42, .ref q1] _
                refine V_callV (M := mX8_send) (wcs := [(q1, .inr (9, [.int i4, .ref q5, .ref q6, .int i7, .int i8, .int i9, .int i10, .int i11, .int z23.2]))]) (wr := [(q5, .inl (E.2.1, 81, .inl f13)), (q6, .inl (E.2.1, 81, .inl f41))]) mf_X8_did tw_1291 tw_1293 tw_29 ⟨Nat.le_of_ble_eq_true rfl, Nat.le_of_ble_eq_true rfl⟩ (dX8_send_p1 13 rfl) 158 rfl (kX8_did hs q1 i4 (.ref q5) (.ref q6) i7 i8 i9 i10 i11 z23.2 z42) rfl [1] [0, 2] (q0 := 0) rfl rfl rfl rfl (by decide) rfl rfl rfl rfl (Nat.le_of_ble_eq_true rfl) 0 0 (show 0 + 0 ≤ 0 from Nat.le_of_ble_eq_true rfl) (show 0 + 0 ≤ 0 from Nat.le_of_ble_eq_true rfl) (fun z43 v w hz => ?_)
                obtain ⟨rfl, rfl⟩ := hz
                show V E K mX8_send (Qm E K mX8_send (zX8_send E q1 q5 q6 i4 i7 i8 i11 f13)) 0 0 [(q5, .inl (E.2.1, 81, .inl f13)), (q6, .inl (E.2.1, 81, .inl f41)), (q1, .inr (9, [.int i4, .ref q5, .ref q6, .int i7, .int i8, .int z43.2, .int i10, .int i11, .int z23.2]))] 158 [(0, .ref q1)] [.int z43.1] _
                refine V_world [2, 0, 1] [(q1, .inr (9, [.int i4, .ref q5, .ref q6, .int i7, .int i8, .int z43.2, .int i10, .int i11, .int z23.2])), (q5, .inl (E.2.1, 81, .inl f13)), (q6, .inl (E.2.1, 81, .inl f41))] rfl rfl rfl ?_
                exact V_iret rfl (dX8_send_p1 14 rfl) ⟨rfl, rfl⟩
              · intro k36 hk37
                refine V_if_eq (dX8_send_p0 59 rfl) 130 (by decide) 114 rfl ?_ ?_
                · refine V_aload_n (dX8_send_p0 68 rfl) 131 rfl 0 rfl ?_
                  refine V_aload_n (dX8_send_p0 69 rfl) 132 rfl 0 rfl ?_
                  refine V_get gf_M_27 0 rfl rfl (dX8_send_p1 0 rfl) 135 rfl ?_
                  refine V_iload_n (dX8_send_p1 1 rfl) 136 rfl 1 rfl ?_
                  refine V_iload_n (dX8_send_p1 2 rfl) 137 rfl 2 rfl ?_
                  refine V_callV (M := mX8_send) (wcs := [(q1, .inr (9, [.int i4, .ref q5, .ref q6, .int i7, .int i8, .int i9, .int i10, .int i11, .int z23.2])), (q6, .inl (E.2.1, 81, .inl f14))]) (wr := [(q5, .inl (E.2.1, 81, .inl f13))]) mf_X8_flowOn tw_1398 tw_1400 tw_44 ⟨Nat.le_of_ble_eq_true rfl, Nat.le_of_ble_eq_true rfl⟩ (dX8_send_p1 3 rfl) 140 rfl (kX8_flowOn hs q1 q6 i4 (.ref q5) i7 i8 i9 i10 i11 z23.2 f14 i7 i2 i3) rfl [0, 2] [1] (q0 := 0) rfl rfl rfl rfl (by decide) rfl rfl rfl rfl (Nat.le_of_ble_eq_true rfl) 0 0 (show 0 + 0 ≤ 0 from Nat.le_of_ble_eq_true rfl) (show 0 + 0 ≤ 0 from Nat.le_of_ble_eq_true rfl) (fun z38 v w hz => ?_)
                  obtain ⟨rfl, rfl⟩ := hz
                  show V E K mX8_send (Qm E K mX8_send (zX8_send E q1 q5 q6 i4 i7 i8 i11 f13)) 0 0 [(q5, .inl (E.2.1, 81, .inl f13)), (q1, .inr (9, [.int i4, .ref q5, .ref q6, .int i7, .int i8, .int i9, .int i10, .int i11, .int z23.2])), (q6, .inl (E.2.1, 81, .inl z38))] 140 [(0, .ref q1), (1, .int i2), (2, .int i3), (3, .int i28)] [] _
                  refine V_aload_n (dX8_send_p1 4 rfl) 141 rfl 0 rfl ?_
                  refine V_iload_n (dX8_send_p1 5 rfl) 142 rfl 1 rfl ?_
                  refine V_aload_n (dX8_send_p1 6 rfl) 143 rfl 0 rfl ?_
                  refine V_get gf_M_30 1 rfl rfl (dX8_send_p1 7 rfl) 146 rfl ?_
                  refine V_iload_n (dX8_send_p1 8 rfl) 147 rfl 2 rfl ?_
                  refine V_callV (M := mX8_send) (wcs := [(q1, .inr (9, [.int i4, .ref q5, .ref q6, .int i7, .int i8, .int i9, .int i10, .int i11, .int z23.2])), (q6, .inl (E.2.1, 81, .inl z38))]) (wr := [(q5, .inl (E.2.1, 81, .inl f13))]) mf_X8_flowOn tw_1398 tw_1400 tw_44 ⟨Nat.le_of_ble_eq_true rfl, Nat.le_of_ble_eq_true rfl⟩ (dX8_send_p1 9 rfl) 150 rfl (kX8_flowOn hs q1 q6 i4 (.ref q5) i7 i8 i9 i10 i11 z23.2 z38 i2 i8 i3) rfl [1, 2] [0] (q0 := 0) rfl rfl rfl rfl (by decide) rfl rfl rfl rfl (Nat.le_of_ble_eq_true rfl) 0 0 (show 0 + 0 ≤ 0 from Nat.le_of_ble_eq_true rfl) (show 0 + 0 ≤ 0 from Nat.le_of_ble_eq_true rfl) (fun z39 v w hz => ?_)
                  obtain ⟨rfl, rfl⟩ := hz
                  show V E K mX8_send (Qm E K mX8_send (zX8_send E q1 q5 q6 i4 i7 i8 i11 f13)) 0 0 [(q5, .inl (E.2.1, 81, .inl f13)), (q1, .inr (9, [.int i4, .ref q5, .ref q6, .int i7, .int i8, .int i9, .int i10, .int i11, .int z23.2])), (q6, .inl (E.2.1, 81, .inl z39))] 150 [(0, .ref q1), (1, .int i2), (2, .int i3), (3, .int i28)] [] _
                  refine V_world [1, 0, 2] [(q1, .inr (9, [.int i4, .ref q5, .ref q6, .int i7, .int i8, .int i9, .int i10, .int i11, .int z23.2])), (q5, .inl (E.2.1, 81, .inl f13)), (q6, .inl (E.2.1, 81, .inl z39))] rfl rfl rfl ?_
                  refine V_pick [0] [(0, .ref q1)] rfl ?_
                  exact hk37 z39
                · refine V_aload_n (dX8_send_p0 60 rfl) 115 rfl 0 rfl ?_
                  refine V_aload_n (dX8_send_p0 61 rfl) 116 rfl 0 rfl ?_
                  refine V_get gf_M_27 0 rfl rfl (dX8_send_p0 62 rfl) 119 rfl ?_
                  refine V_aload_n (dX8_send_p0 63 rfl) 120 rfl 0 rfl ?_
                  refine V_get gf_M_30 0 rfl rfl (dX8_send_p0 64 rfl) 123 rfl ?_
                  refine V_iload_n (dX8_send_p0 65 rfl) 124 rfl 2 rfl ?_
                  refine V_callV (M := mX8_send) (wcs := [(q1, .inr (9, [.int i4, .ref q5, .ref q6, .int i7, .int i8, .int i9, .int i10, .int i11, .int z23.2])), (q6, .inl (E.2.1, 81, .inl f14))]) (wr := [(q5, .inl (E.2.1, 81, .inl f13))]) mf_X8_flowOn tw_1398 tw_1400 tw_44 ⟨Nat.le_of_ble_eq_true rfl, Nat.le_of_ble_eq_true rfl⟩ (dX8_send_p0 66 rfl) 127 rfl (kX8_flowOn hs q1 q6 i4 (.ref q5) i7 i8 i9 i10 i11 z23.2 f14 i7 i8 i3) rfl [0, 2] [1] (q0 := 0) rfl rfl rfl rfl (by decide) rfl rfl rfl rfl (Nat.le_of_ble_eq_true rfl) 0 0 (show 0 + 0 ≤ 0 from Nat.le_of_ble_eq_true rfl) (show 0 + 0 ≤ 0 from Nat.le_of_ble_eq_true rfl) (fun z40 v w hz => ?_)
                  obtain ⟨rfl, rfl⟩ := hz
                  show V E K mX8_send (Qm E K mX8_send (zX8_send E q1 q5 q6 i4 i7 i8 i11 f13)) 0 0 [(q5, .inl (E.2.1, 81, .inl f13)), (q1, .inr (9, [.int i4, .ref q5, .ref q6, .int i7, .int i8, .int i9, .int i10, .int i11, .int z23.2])), (q6, .inl (E.2.1, 81, .inl z40))] 127 [(0, .ref q1), (1, .int i2), (2, .int i3), (3, .int i28)] [] _
                  refine V_goto (dX8_send_p0 67 rfl) 150 (by decide) ?_
                  refine V_world [1, 0, 2] [(q1, .inr (9, [.int i4, .ref q5, .ref q6, .int i7, .int i8, .int i9, .int i10, .int i11, .int z23.2])), (q5, .inl (E.2.1, 81, .inl f13)), (q6, .inl (E.2.1, 81, .inl z40))] rfl rfl rfl ?_
                  refine V_pick [0] [(0, .ref q1)] rfl ?_
                  exact hk37 z40
            · intro k31 hk32
              refine V_if_eq (dX8_send_p0 31 rfl) 79 (by decide) 60 rfl ?_ ?_
              · refine V_aload_n (dX8_send_p0 41 rfl) 80 rfl 0 rfl ?_
                refine V_aload_n (dX8_send_p0 42 rfl) 81 rfl 0 rfl ?_
                refine V_get gf_M_27 0 rfl rfl (dX8_send_p0 43 rfl) 84 rfl ?_
                refine V_iload_n (dX8_send_p0 44 rfl) 85 rfl 1 rfl ?_
                refine V_callV (M := mX8_send) (wcs := [(q1, .inr (9, [.int i4, .ref q5, .ref q6, .int i7, .int i8, .int i9, .int i10, .int i11, .int z23.2])), (q5, .inl (E.2.1, 81, .inl f13)), (q6, .inl (E.2.1, 81, .inl f14))]) (wr := []) mf_X8_left tw_1388 tw_1390 tw_42 ⟨Nat.le_of_ble_eq_true rfl, Nat.le_of_ble_eq_true rfl⟩ (dX8_send_p0 45 rfl) 88 rfl (kX8_left hs q1 q5 q6 i4 i7 i8 i9 i10 i11 z23.2 f13 f14 i7 i2) rfl [0, 1, 2] [] (q0 := 0) rfl rfl rfl rfl (by decide) rfl rfl rfl rfl (Nat.le_of_ble_eq_true rfl) 0 0 (show 0 + 0 ≤ 0 from Nat.le_of_ble_eq_true rfl) (show 0 + 0 ≤ 0 from Nat.le_of_ble_eq_true rfl) (fun z33 v w hz => ?_)
                obtain ⟨rfl, rfl⟩ := hz
                show V E K mX8_send (Qm E K mX8_send (zX8_send E q1 q5 q6 i4 i7 i8 i11 f13)) 0 0 [(q1, .inr (9, [.int i4, .ref q5, .ref q6, .int i7, .int i8, .int i9, .int i10, .int i11, .int z23.2])), (q5, .inl (E.2.1, 81, .inl f13)), (q6, .inl (E.2.1, 81, .inl f14))] 88 [(0, .ref q1), (1, .int i2), (2, .int i3), (3, .int i28)] [.int z33] _
                refine V_iload_n (dX8_send_p0 46 rfl) 89 rfl 2 rfl ?_
                refine V_icmp_lt (dX8_send_p0 47 rfl) 105 (by decide) 92 rfl ?_ ?_
                · refine V_pick [0] [(0, .ref q1)] rfl ?_
                  exact hk30 ()
                · refine V_aload_n (dX8_send_p0 48 rfl) 93 rfl 0 rfl ?_
                  refine V_iload_n (dX8_send_p0 49 rfl) 94 rfl 1 rfl ?_
                  refine V_aload_n (dX8_send_p0 50 rfl) 95 rfl 0 rfl ?_
                  refine V_get gf_M_30 0 rfl rfl (dX8_send_p0 51 rfl) 98 rfl ?_
                  refine V_callV (M := mX8_send) (wcs := [(q1, .inr (9, [.int i4, .ref q5, .ref q6, .int i7, .int i8, .int i9, .int i10, .int i11, .int z23.2])), (q5, .inl (E.2.1, 81, .inl f13)), (q6, .inl (E.2.1, 81, .inl f14))]) (wr := []) mf_X8_left tw_1388 tw_1390 tw_42 ⟨Nat.le_of_ble_eq_true rfl, Nat.le_of_ble_eq_true rfl⟩ (dX8_send_p0 52 rfl) 101 rfl (kX8_left hs q1 q5 q6 i4 i7 i8 i9 i10 i11 z23.2 f13 f14 i2 i8) rfl [0, 1, 2] [] (q0 := 0) rfl rfl rfl rfl (by decide) rfl rfl rfl rfl (Nat.le_of_ble_eq_true rfl) 0 0 (show 0 + 0 ≤ 0 from Nat.le_of_ble_eq_true rfl) (show 0 + 0 ≤ 0 from Nat.le_of_ble_eq_true rfl) (fun z34 v w hz => ?_)
                  obtain ⟨rfl, rfl⟩ := hz
                  show V E K mX8_send (Qm E K mX8_send (zX8_send E q1 q5 q6 i4 i7 i8 i11 f13)) 0 0 [(q1, .inr (9, [.int i4, .ref q5, .ref q6, .int i7, .int i8, .int i9, .int i10, .int i11, .int z23.2])), (q5, .inl (E.2.1, 81, .inl f13)), (q6, .inl (E.2.1, 81, .inl f14))] 101 [(0, .ref q1), (1, .int i2), (2, .int i3), (3, .int i28)] [.int z34] _
                  refine V_iload_n (dX8_send_p0 53 rfl) 102 rfl 2 rfl ?_
                  refine V_icmp_ge (dX8_send_p0 54 rfl) 110 (by decide) 105 rfl ?_ ?_
                  · exact hk32 ()
                  · refine V_pick [0] [(0, .ref q1)] rfl ?_
                    exact hk30 ()
              · refine V_aload_n (dX8_send_p0 32 rfl) 61 rfl 0 rfl ?_
                refine V_aload_n (dX8_send_p0 33 rfl) 62 rfl 0 rfl ?_
                refine V_get gf_M_27 0 rfl rfl (dX8_send_p0 34 rfl) 65 rfl ?_
                refine V_aload_n (dX8_send_p0 35 rfl) 66 rfl 0 rfl ?_
                refine V_get gf_M_30 0 rfl rfl (dX8_send_p0 36 rfl) 69 rfl ?_
                refine V_callV (M := mX8_send) (wcs := [(q1, .inr (9, [.int i4, .ref q5, .ref q6, .int i7, .int i8, .int i9, .int i10, .int i11, .int z23.2])), (q5, .inl (E.2.1, 81, .inl f13)), (q6, .inl (E.2.1, 81, .inl f14))]) (wr := []) mf_X8_left tw_1388 tw_1390 tw_42 ⟨Nat.le_of_ble_eq_true rfl, Nat.le_of_ble_eq_true rfl⟩ (dX8_send_p0 37 rfl) 72 rfl (kX8_left hs q1 q5 q6 i4 i7 i8 i9 i10 i11 z23.2 f13 f14 i7 i8) rfl [0, 1, 2] [] (q0 := 0) rfl rfl rfl rfl (by decide) rfl rfl rfl rfl (Nat.le_of_ble_eq_true rfl) 0 0 (show 0 + 0 ≤ 0 from Nat.le_of_ble_eq_true rfl) (show 0 + 0 ≤ 0 from Nat.le_of_ble_eq_true rfl) (fun z35 v w hz => ?_)
                obtain ⟨rfl, rfl⟩ := hz
                show V E K mX8_send (Qm E K mX8_send (zX8_send E q1 q5 q6 i4 i7 i8 i11 f13)) 0 0 [(q1, .inr (9, [.int i4, .ref q5, .ref q6, .int i7, .int i8, .int i9, .int i10, .int i11, .int z23.2])), (q5, .inl (E.2.1, 81, .inl f13)), (q6, .inl (E.2.1, 81, .inl f14))] 72 [(0, .ref q1), (1, .int i2), (2, .int i3), (3, .int i28)] [.int z35] _
                refine V_iload_n (dX8_send_p0 38 rfl) 73 rfl 2 rfl ?_
                refine V_icmp_ge (dX8_send_p0 39 rfl) 110 (by decide) 76 rfl ?_ ?_
                · exact hk32 ()
                · refine V_goto (dX8_send_p0 40 rfl) 105 (by decide) ?_
                  refine V_pick [0] [(0, .ref q1)] rfl ?_
                  exact hk30 ()
        · intro k24 hk25
          refine V_jn (fun (k26 : Unit → Option (Int32 × Int32 × Int32 × Int32 × (Nat → Int32))) => ∀ (_ : Unit), V E K mX8_send (Qm E K mX8_send (zX8_send E q1 q5 q6 i4 i7 i8 i11 f13)) 0 0 [(q1, .inr (9, [.int i4, .ref q5, .ref q6, .int i7, .int i8, .int i9, .int i10, .int i11, .int z23.2])), (q5, .inl (E.2.1, 81, .inl f13)), (q6, .inl (E.2.1, 81, .inl f14))] 50 [(0, .ref q1), (1, .int i2), (2, .int i3)] [] (k26 ())) ?_ ?_
          · intro _
            show V E K mX8_send (Qm E K mX8_send (zX8_send E q1 q5 q6 i4 i7 i8 i11 f13)) 0 0 [(q1, .inr (9, [.int i4, .ref q5, .ref q6, .int i7, .int i8, .int i9, .int i10, .int i11, .int z23.2])), (q5, .inl (E.2.1, 81, .inl f13)), (q6, .inl (E.2.1, 81, .inl f14))] 50 [(0, .ref q1), (1, .int i2), (2, .int i3)] [] _
            refine V_iconst (1 : Int32) (by decide) (dX8_send_p0 26 rfl) 51 rfl ?_
            refine V_goto (dX8_send_p0 27 rfl) 55 (by decide) ?_
            exact hk25 (1 : Int32)
          · intro k26 hk27
            refine V_icmp_eq (dX8_send_p0 21 rfl) 50 (by decide) 42 rfl ?_ ?_
            · refine V_world [2, 0, 1] [(q1, .inr (9, [.int i4, .ref q5, .ref q6, .int i7, .int i8, .int i9, .int i10, .int i11, .int z23.2])), (q5, .inl (E.2.1, 81, .inl f13)), (q6, .inl (E.2.1, 81, .inl f14))] rfl rfl rfl ?_
              exact hk27 ()
            · refine V_iload_n (dX8_send_p0 22 rfl) 43 rfl 1 rfl ?_
              refine V_aload_n (dX8_send_p0 23 rfl) 44 rfl 0 rfl ?_
              refine V_get gf_M_30 2 rfl rfl (dX8_send_p0 24 rfl) 47 rfl ?_
              refine V_icmp_ne (dX8_send_p0 25 rfl) 54 (by decide) 50 rfl ?_ ?_
              · refine V_iconst (0 : Int32) (by decide) (dX8_send_p0 28 rfl) 55 rfl ?_
                refine V_world [2, 0, 1] [(q1, .inr (9, [.int i4, .ref q5, .ref q6, .int i7, .int i8, .int i9, .int i10, .int i11, .int z23.2])), (q5, .inl (E.2.1, 81, .inl f13)), (q6, .inl (E.2.1, 81, .inl f14))] rfl rfl rfl ?_
                exact hk25 (0 : Int32)
              · refine V_world [2, 0, 1] [(q1, .inr (9, [.int i4, .ref q5, .ref q6, .int i7, .int i8, .int i9, .int i10, .int i11, .int z23.2])), (q5, .inl (E.2.1, 81, .inl f13)), (q6, .inl (E.2.1, 81, .inl f14))] rfl rfl rfl ?_
                exact hk27 ()
      · refine V_iconst (0 : Int32) (by decide) (dX8_send_p0 16 rfl) 33 rfl ?_
        refine V_world [2, 0, 1] [(q1, .inr (9, [.int i4, .ref q5, .ref q6, .int i7, .int i8, .int i9, .int i10, .int i11, .int z23.2])), (q5, .inl (E.2.1, 81, .inl f13)), (q6, .inl (E.2.1, 81, .inl f14))] rfl rfl rfl ?_
        exact V_iret rfl (dX8_send_p0 17 rfl) ⟨rfl, rfl⟩
    · intro k20 hk21
      refine V_if_ne (dX8_send_p0 10 rfl) 25 (by decide) 21 rfl ?_ ?_
      · refine V_iconst (0 : Int32) (by decide) (dX8_send_p0 13 rfl) 26 rfl ?_
        exact hk21 (0 : Int32)
      · refine V_iconst (1 : Int32) (by decide) (dX8_send_p0 11 rfl) 22 rfl ?_
        refine V_goto (dX8_send_p0 12 rfl) 26 (by decide) ?_
        exact hk21 (1 : Int32)
  · intro k16 hk17
    refine V_if_ne (dX8_send_p0 4 rfl) 13 (by decide) 9 rfl ?_ ?_
    · refine V_iconst (0 : Int32) (by decide) (dX8_send_p0 7 rfl) 14 rfl ?_
      refine V_world [2, 0, 1] [(q1, .inr (9, [.int i4, .ref q5, .ref q6, .int i7, .int i8, .int i9, .int i10, .int i11, .int i12])), (q5, .inl (E.2.1, 81, .inl f13)), (q6, .inl (E.2.1, 81, .inl f14))] rfl rfl rfl ?_
      exact hk17 (0 : Int32)
    · refine V_iconst (1 : Int32) (by decide) (dX8_send_p0 5 rfl) 10 rfl ?_
      refine V_goto (dX8_send_p0 6 rfl) 14 (by decide) ?_
      refine V_world [2, 0, 1] [(q1, .inr (9, [.int i4, .ref q5, .ref q6, .int i7, .int i8, .int i9, .int i10, .int i11, .int i12])), (q5, .inl (E.2.1, 81, .inl f13)), (q6, .inl (E.2.1, 81, .inl f14))] rfl rfl rfl ?_
      exact hk17 (1 : Int32))
set_option maxRecDepth 20000 in
theorem vBX8_flowing_L13 {E : EX} {K : KX} (hs : K.l.stackTraces = false) (q1 q4 : Nat) (i2 : Int32) (v3 : Value) (i5 i6 i7 i8 i9 i10 : Int32) (f11 : Nat → Int32) (bc bs : Nat) (i30 i31 : Int32) {rec : Int32 → Int32 → Option (Int32)}  (hrec : ∀ (i30 i31 : Int32), V E K mX8_flowing (Qm E K mX8_flowing (zX8_flowing E q1 q4 i2 v3 i5 i6 i7 i8 i9 i10 f11)) (bc) (bs) [(q1, .inr (9, [.int i2, v3, .ref q4, .int i5, .int i6, .int i7, .int i8, .int i9, .int i10])), (q4, .inl (E.2.1, 81, .inl f11))] 13 [(1, .int i30), (2, .ref q4), (3, .int (81 : Int32)), (4, .int i31)] [] (rec i30 i31))  : V E K mX8_flowing (Qm E K mX8_flowing (zX8_flowing E q1 q4 i2 v3 i5 i6 i7 i8 i9 i10 f11)) (bc) (bs) [(q1, .inr (9, [.int i2, v3, .ref q4, .int i5, .int i6, .int i7, .int i8, .int i9, .int i10])), (q4, .inl (E.2.1, 81, .inl f11))] 13 [(1, .int i30), (2, .ref q4), (3, .int (81 : Int32)), (4, .int i31)] [] (BX8_flowing_L13  f11 i30 i31 rec ) := by
  unfold BX8_flowing_L13
  refine V_iload (dX8_flowing 10 rfl) 15 rfl 3 rfl ?_
  refine V_iload_n (dX8_flowing 11 rfl) 16 rfl 2 rfl ?_
  refine V_icmp_ge (dX8_flowing 12 rfl) 44 (by decide) 19 rfl ?_ ?_
  · refine V_iload_n (dX8_flowing 27 rfl) 45 rfl 0 rfl ?_
    exact V_iret rfl (dX8_flowing 28 rfl) ⟨rfl, rfl⟩
  · refine V_aload_n (dX8_flowing 13 rfl) 20 rfl 1 rfl ?_
    refine V_iload (dX8_flowing 14 rfl) 22 rfl 3 rfl ?_
    refine V_iald 1 rfl (dX8_flowing 15 rfl) 23 rfl ?_
    refine V_nmI (fun i32 => ?_)
    refine V_istore (dX8_flowing 16 rfl) 25 rfl [(1, .int i30), (2, .ref q4), (3, .int (81 : Int32)), (4, .int i31), (5, .int i32)] (Nat.le_of_ble_eq_true rfl) rfl ?_
    refine V_iload_n (dX8_flowing 17 rfl) 26 rfl 0 rfl ?_
    refine V_iload (dX8_flowing 18 rfl) 28 rfl 4 rfl ?_
    refine V_jn (fun (k33 : Int32 → Option (Int32)) => ∀ (i35 : Int32), V E K mX8_flowing (Qm E K mX8_flowing (zX8_flowing E q1 q4 i2 v3 i5 i6 i7 i8 i9 i10 f11)) (bc) (bs) [(q1, .inr (9, [.int i2, v3, .ref q4, .int i5, .int i6, .int i7, .int i8, .int i9, .int i10])), (q4, .inl (E.2.1, 81, .inl f11))] 36 [(2, .ref q4), (3, .int (81 : Int32)), (4, .int i31)] [.int i35, .int i30] (k33 i35)) ?_ ?_
    · intro i35
      show V E K mX8_flowing (Qm E K mX8_flowing (zX8_flowing E q1 q4 i2 v3 i5 i6 i7 i8 i9 i10 f11)) (bc) (bs) [(q1, .inr (9, [.int i2, v3, .ref q4, .int i5, .int i6, .int i7, .int i8, .int i9, .int i10])), (q4, .inl (E.2.1, 81, .inl f11))] 36 [(2, .ref q4), (3, .int (81 : Int32)), (4, .int i31)] [.int i35, .int i30] _
      refine V_iadd (dX8_flowing 23 rfl) 37 rfl ?_
      refine V_nmI (fun i36 => ?_)
      refine V_istore_n (dX8_flowing 24 rfl) 38 rfl [(1, .int i36), (2, .ref q4), (3, .int (81 : Int32)), (4, .int i31)] (Nat.le_of_ble_eq_true rfl) rfl ?_
      refine V_iinc (dX8_flowing 25 rfl) 41 rfl 3 rfl (i31 + (1 : Int32)) rfl [(1, .int i36), (2, .ref q4), (3, .int (81 : Int32)), (4, .int (i31 + (1 : Int32)))] (Nat.le_of_ble_eq_true rfl) rfl ?_
      refine V_goto (dX8_flowing 26 rfl) 13 (by decide) ?_
      exact hrec i36 (i31 + (1 : Int32))
    · intro k33 hk34
      refine V_if_le (dX8_flowing 19 rfl) 35 (by decide) 31 rfl ?_ ?_
      · refine V_iconst (0 : Int32) (by decide) (dX8_flowing 22 rfl) 36 rfl ?_
        refine V_pick [1, 2, 3] [(2, .ref q4), (3, .int (81 : Int32)), (4, .int i31)] rfl ?_
        exact hk34 (0 : Int32)
      · refine V_iconst (1 : Int32) (by decide) (dX8_flowing 20 rfl) 32 rfl ?_
        refine V_goto (dX8_flowing 21 rfl) 36 (by decide) ?_
        refine V_pick [1, 2, 3] [(2, .ref q4), (3, .int (81 : Int32)), (4, .int i31)] rfl ?_
        exact hk34 (1 : Int32)
set_option maxRecDepth 20000 in
theorem vLX8_flowing_L13 {E : EX} {K : KX} (hs : K.l.stackTraces = false) (q1 q4 : Nat) (i2 : Int32) (v3 : Value) (i5 i6 i7 i8 i9 i10 : Int32) (f11 : Nat → Int32) (bc bs : Nat)   : ∀ (n : Nat) (i30 i31 : Int32), V E K mX8_flowing (Qm E K mX8_flowing (zX8_flowing E q1 q4 i2 v3 i5 i6 i7 i8 i9 i10 f11)) (bc) (bs) [(q1, .inr (9, [.int i2, v3, .ref q4, .int i5, .int i6, .int i7, .int i8, .int i9, .int i10])), (q4, .inl (E.2.1, 81, .inl f11))] 13 [(1, .int i30), (2, .ref q4), (3, .int (81 : Int32)), (4, .int i31)] [] (LX8_flowing_L13  f11 n i30 i31 )
  | 0, _, _ => V_none
  | n + 1, i30, i31 => vBX8_flowing_L13 hs q1 q4 i2 v3 i5 i6 i7 i8 i9 i10 f11 bc bs i30 i31 (fun i30 i31 => vLX8_flowing_L13 hs q1 q4 i2 v3 i5 i6 i7 i8 i9 i10 f11 bc bs  n i30 i31) 
set_option maxRecDepth 20000 in
theorem kX8_flowing {E : EX} {l : Launch} (hl : l.stackTraces = false) (q1 q4 : Nat) (i2 : Int32) (v3 : Value) (i5 i6 i7 i8 i9 i10 : Int32) (f11 : Nat → Int32) : Ct E l mX8_flowing [.ref q1] [(q1, .inr (9, [.int i2, v3, .ref q4, .int i5, .int i6, .int i7, .int i8, .int i9, .int i10])), (q4, .inl (E.2.1, 81, .inl f11))] (fX8_flowing f11) (zX8_flowing E q1 q4 i2 v3 i5 i6 i7 i8 i9 i10 f11) := Ct_of hl mf_X8_flowing.1 (Nat.le_of_ble_eq_true rfl) (fun K hs => by
  refine V_less 0 0 (Nat.le_refl _) (Nat.le_refl _) ?_
  refine V_pick [0] [(0, .ref q1)] rfl ?_
  unfold fX8_flowing
  refine V_iconst (0 : Int32) (by decide) (dX8_flowing 0 rfl) 1 rfl ?_
  refine V_istore_n (dX8_flowing 1 rfl) 2 rfl [(0, .ref q1), (1, .int (0 : Int32))] (Nat.le_of_ble_eq_true rfl) rfl ?_
  refine V_aload_n (dX8_flowing 2 rfl) 3 rfl 0 rfl ?_
  refine V_get gf_M_24 0 rfl rfl (dX8_flowing 3 rfl) 6 rfl ?_
  refine V_astore_n (dX8_flowing 4 rfl) 7 rfl [(0, .ref q1), (1, .int (0 : Int32)), (2, .ref q4)] (Nat.le_of_ble_eq_true rfl) rfl ?_
  refine V_aload_n (dX8_flowing 5 rfl) 8 rfl 2 rfl ?_
  refine V_alen 1 rfl ((81 : Int32)) (show Int32.ofNat 81 = (81 : Int32) by decide) (dX8_flowing 6 rfl) 9 rfl ?_
  refine V_istore_n (dX8_flowing 7 rfl) 10 rfl [(0, .ref q1), (1, .int (0 : Int32)), (2, .ref q4), (3, .int (81 : Int32))] (Nat.le_of_ble_eq_true rfl) rfl ?_
  refine V_iconst (0 : Int32) (by decide) (dX8_flowing 8 rfl) 11 rfl ?_
  refine V_istore (dX8_flowing 9 rfl) 13 rfl [(0, .ref q1), (1, .int (0 : Int32)), (2, .ref q4), (3, .int (81 : Int32)), (4, .int (0 : Int32))] (Nat.le_of_ble_eq_true rfl) rfl ?_
  refine V_pick [1, 2, 3, 4] [(1, .int (0 : Int32)), (2, .ref q4), (3, .int (81 : Int32)), (4, .int (0 : Int32))] rfl ?_
  refine vLX8_flowing_L13 hs q1 q4 i2 v3 i5 i6 i7 i8 i9 i10 f11 0 0  600 (0 : Int32) (0 : Int32))
set_option maxRecDepth 20000 in
theorem kX8_round {E : EX} {l : Launch} (hl : l.stackTraces = false) (q1 q7 q8 : Nat) (i6 i9 i10 i11 i12 i13 i14 : Int32) (f15 f16 : Nat → Int32) (i2 i3 i4 i5 : Int32) : Ct E l mX8_round [.ref q1, .int i2, .int i3, .int i4, .int i5] [(q1, .inr (9, [.int i6, .ref q7, .ref q8, .int i9, .int i10, .int i11, .int i12, .int i13, .int i14])), (q7, .inl (E.2.1, 81, .inl f15)), (q8, .inl (E.2.1, 81, .inl f16))] (fX8_round i6 i11 i12 f15 f16 i2 i3 i4 i5) (zX8_round E q1 q7 q8 i6 i9 i10 i13 f15) := Ct_of hl mf_X8_round.1 (Nat.le_of_ble_eq_true rfl) (fun K hs => by
  refine V_less 0 0 (Nat.le_refl _) (Nat.le_refl _) ?_
  refine V_pick [0, 1, 2, 3, 4] [(0, .ref q1), (1, .int i2), (2, .int i3), (3, .int i4), (4, .int i5)] rfl ?_
  unfold fX8_round
  refine V_aload_n (dX8_round_p0 0 rfl) 1 rfl 0 rfl ?_
  refine V_aload_n (dX8_round_p0 1 rfl) 2 rfl 0 rfl ?_
  refine V_iload_n (dX8_round_p0 2 rfl) 3 rfl 1 rfl ?_
  refine V_callV (M := mX8_round) (wcs := [(q1, .inr (9, [.int i6, .ref q7, .ref q8, .int i9, .int i10, .int i11, .int i12, .int i13, .int i14]))]) (wr := [(q7, .inl (E.2.1, 81, .inl f15)), (q8, .inl (E.2.1, 81, .inl f16))]) mf_X8_isPlace tw_1299 tw_1301 tw_30 ⟨Nat.le_of_ble_eq_true rfl, Nat.le_of_ble_eq_true rfl⟩ (dX8_round_p0 3 rfl) 6 rfl (kX8_isPlace hs q1 i6 (.ref q7) (.ref q8) i9 i10 i11 i12 i13 i14 i2) rfl [0] [1, 2] (q0 := 0) rfl rfl rfl rfl (by decide) rfl rfl rfl rfl (Nat.le_of_ble_eq_true rfl) 0 0 (show 0 + 0 ≤ 0 from Nat.le_of_ble_eq_true rfl) (show 0 + 0 ≤ 0 from Nat.le_of_ble_eq_true rfl) (fun z17 v w hz => ?_)
  obtain ⟨rfl, rfl⟩ := hz
  show V E K mX8_round (Qm E K mX8_round (zX8_round E q1 q7 q8 i6 i9 i10 i13 f15)) 0 0 [(q7, .inl (E.2.1, 81, .inl f15)), (q8, .inl (E.2.1, 81, .inl f16)), (q1, .inr (9, [.int i6, .ref q7, .ref q8, .int i9, .int i10, .int i11, .int i12, .int i13, .int i14]))] 6 [(0, .ref q1), (1, .int i2), (2, .int i3), (3, .int i4), (4, .int i5)] [.int z17, .ref q1] _
  refine V_jn (fun (k18 : Int32 → Option (Int32 × Int32 × Int32 × Int32 × (Nat → Int32))) => ∀ (i24 : Int32), V E K mX8_round (Qm E K mX8_round (zX8_round E q1 q7 q8 i6 i9 i10 i13 f15)) 0 0 [(q1, .inr (9, [.int i6, .ref q7, .ref q8, .int i9, .int i10, .int i11, .int i12, .int i13, .int i14])), (q7, .inl (E.2.1, 81, .inl f15)), (q8, .inl (E.2.1, 81, .inl f16))] 30 [(0, .ref q1), (1, .int i2), (2, .int i3), (3, .int i4), (4, .int i5)] [.int i24, .ref q1] (k18 i24)) ?_ ?_
  · intro i24
    show V E K mX8_round (Qm E K mX8_round (zX8_round E q1 q7 q8 i6 i9 i10 i13 f15)) 0 0 [(q1, .inr (9, [.int i6, .ref q7, .ref q8, .int i9, .int i10, .int i11, .int i12, .int i13, .int i14])), (q7, .inl (E.2.1, 81, .inl f15)), (q8, .inl (E.2.1, 81, .inl f16))] 30 [(0, .ref q1), (1, .int i2), (2, .int i3), (3, .int i4), (4, .int i5)] [.int i24, .ref q1] _
    refine V_iload_n (dX8_round_p0 16 rfl) 31 rfl 1 rfl ?_
    refine V_iload_n (dX8_round_p0 17 rfl) 32 rfl 2 rfl ?_
    refine V_jn (fun (k25 : Int32 → Option (Int32 × Int32 × Int32 × Int32 × (Nat → Int32))) => ∀ (i30 : Int32), V E K mX8_round (Qm E K mX8_round (zX8_round E q1 q7 q8 i6 i9 i10 i13 f15)) 0 0 [(q1, .inr (9, [.int i6, .ref q7, .ref q8, .int i9, .int i10, .int i11, .int i12, .int i13, .int i14])), (q7, .inl (E.2.1, 81, .inl f15)), (q8, .inl (E.2.1, 81, .inl f16))] 58 [(0, .ref q1), (1, .int i2), (2, .int i3), (3, .int i4), (4, .int i5)] [.int i30, .int i24, .ref q1] (k25 i30)) ?_ ?_
    · intro i30
      show V E K mX8_round (Qm E K mX8_round (zX8_round E q1 q7 q8 i6 i9 i10 i13 f15)) 0 0 [(q1, .inr (9, [.int i6, .ref q7, .ref q8, .int i9, .int i10, .int i11, .int i12, .int i13, .int i14])), (q7, .inl (E.2.1, 81, .inl f15)), (q8, .inl (E.2.1, 81, .inl f16))] 58 [(0, .ref q1), (1, .int i2), (2, .int i3), (3, .int i4), (4, .int i5)] [.int i30, .int i24, .ref q1] _
      refine V_callV (M := mX8_round) (wcs := [(q1, .inr (9, [.int i6, .ref q7, .ref q8, .int i9, .int i10, .int i11, .int i12, .int i13, .int i14]))]) (wr := [(q7, .inl (E.2.1, 81, .inl f15)), (q8, .inl (E.2.1, 81, .inl f16))]) mf_X8_isThrown tw_1287 tw_1289 tw_28 ⟨Nat.le_of_ble_eq_true rfl, Nat.le_of_ble_eq_true rfl⟩ (dX8_round_p0 31 rfl) 61 rfl (kX8_isThrown hs q1 i6 (.ref q7) (.ref q8) i9 i10 i11 i12 i13 i14 i24 i30) rfl [0] [1, 2] (q0 := 0) rfl rfl rfl rfl (by decide) rfl rfl rfl rfl (Nat.le_of_ble_eq_true rfl) 0 0 (show 0 + 0 ≤ 0 from Nat.le_of_ble_eq_true rfl) (show 0 + 0 ≤ 0 from Nat.le_of_ble_eq_true rfl) (fun z31 v w hz => ?_)
      obtain ⟨rfl, rfl⟩ := hz
      show V E K mX8_round (Qm E K mX8_round (zX8_round E q1 q7 q8 i6 i9 i10 i13 f15)) 0 0 [(q7, .inl (E.2.1, 81, .inl f15)), (q8, .inl (E.2.1, 81, .inl f16)), (q1, .inr (9, [.int i6, .ref q7, .ref q8, .int i9, .int i10, .int i11, .int i12, .int i13, .int z31.2]))] 61 [(0, .ref q1), (1, .int i2), (2, .int i3), (3, .int i4), (4, .int i5)] [.int z31.1] _
      refine V_if_eq (dX8_round_p0 32 rfl) 66 (by decide) 64 rfl ?_ ?_
      · refine V_aload_n (dX8_round_p0 35 rfl) 67 rfl 0 rfl ?_
        refine V_iload_n (dX8_round_p0 36 rfl) 68 rfl 1 rfl ?_
        refine V_iload_n (dX8_round_p0 37 rfl) 69 rfl 2 rfl ?_
        refine V_callV (M := mX8_round) (wcs := [(q1, .inr (9, [.int i6, .ref q7, .ref q8, .int i9, .int i10, .int i11, .int i12, .int i13, .int z31.2])), (q7, .inl (E.2.1, 81, .inl f15)), (q8, .inl (E.2.1, 81, .inl f16))]) (wr := []) mf_X8_left tw_1388 tw_1390 tw_42 ⟨Nat.le_of_ble_eq_true rfl, Nat.le_of_ble_eq_true rfl⟩ (dX8_round_p0 38 rfl) 72 rfl (kX8_left hs q1 q7 q8 i6 i9 i10 i11 i12 i13 z31.2 f15 f16 i2 i3) rfl [2, 0, 1] [] (q0 := 0) rfl rfl rfl rfl (by decide) rfl rfl rfl rfl (Nat.le_of_ble_eq_true rfl) 0 0 (show 0 + 0 ≤ 0 from Nat.le_of_ble_eq_true rfl) (show 0 + 0 ≤ 0 from Nat.le_of_ble_eq_true rfl) (fun z32 v w hz => ?_)
        obtain ⟨rfl, rfl⟩ := hz
        show V E K mX8_round (Qm E K mX8_round (zX8_round E q1 q7 q8 i6 i9 i10 i13 f15)) 0 0 [(q1, .inr (9, [.int i6, .ref q7, .ref q8, .int i9, .int i10, .int i11, .int i12, .int i13, .int z31.2])), (q7, .inl (E.2.1, 81, .inl f15)), (q8, .inl (E.2.1, 81, .inl f16))] 72 [(0, .ref q1), (1, .int i2), (2, .int i3), (3, .int i4), (4, .int i5)] [.int z32] _
        refine V_iload (dX8_round_p0 39 rfl) 74 rfl 4 rfl ?_
        refine V_jn (fun (k33 : Unit → Option (Int32 × Int32 × Int32 × Int32 × (Nat → Int32))) => ∀ (_ : Unit), V E K mX8_round (Qm E K mX8_round (zX8_round E q1 q7 q8 i6 i9 i10 i13 f15)) 0 0 [(q1, .inr (9, [.int i6, .ref q7, .ref q8, .int i9, .int i10, .int i11, .int i12, .int i13, .int z31.2])), (q7, .inl (E.2.1, 81, .inl f15)), (q8, .inl (E.2.1, 81, .inl f16))] 99 [(0, .ref q1)] [] (k33 ())) ?_ ?_
        · intro _
          show V E K mX8_round (Qm E K mX8_round (zX8_round E q1 q7 q8 i6 i9 i10 i13 f15)) 0 0 [(q1, .inr (9, [.int i6, .ref q7, .ref q8, .int i9, .int i10, .int i11, .int i12, .int i13, .int z31.2])), (q7, .inl (E.2.1, 81, .inl f15)), (q8, .inl (E.2.1, 81, .inl f16))] 99 [(0, .ref q1)] [] _
          refine V_aload_n (dX8_round_p0 53 rfl) 100 rfl 0 rfl ?_
          refine V_callV (M := mX8_round) (wcs := [(q1, .inr (9, [.int i6, .ref q7, .ref q8, .int i9, .int i10, .int i11, .int i12, .int i13, .int z31.2]))]) (wr := [(q7, .inl (E.2.1, 81, .inl f15)), (q8, .inl (E.2.1, 81, .inl f16))]) mf_X8_no tw_1326 tw_1328 tw_35 ⟨Nat.le_of_ble_eq_true rfl, Nat.le_of_ble_eq_true rfl⟩ (dX8_round_p0 54 rfl) 103 rfl (kX8_no hs q1 i6 (.ref q7) (.ref q8) i9 i10 i11 i12 i13 z31.2) rfl [0] [1, 2] (q0 := 0) rfl rfl rfl rfl (by decide) rfl rfl rfl rfl (Nat.le_of_ble_eq_true rfl) 0 0 (show 0 + 0 ≤ 0 from Nat.le_of_ble_eq_true rfl) (show 0 + 0 ≤ 0 from Nat.le_of_ble_eq_true rfl) (fun z42 v w hz => ?_)
          obtain ⟨rfl, rfl⟩ := hz
          show V E K mX8_round (Qm E K mX8_round (zX8_round E q1 q7 q8 i6 i9 i10 i13 f15)) 0 0 [(q7, .inl (E.2.1, 81, .inl f15)), (q8, .inl (E.2.1, 81, .inl f16)), (q1, .inr (9, [.int i6, .ref q7, .ref q8, .int i9, .int i10, .int i11, .int z42, .int i13, .int z31.2]))] 103 [(0, .ref q1)] [.int (-9 : Int32)] _
          refine V_world [2, 0, 1] [(q1, .inr (9, [.int i6, .ref q7, .ref q8, .int i9, .int i10, .int i11, .int z42, .int i13, .int z31.2])), (q7, .inl (E.2.1, 81, .inl f15)), (q8, .inl (E.2.1, 81, .inl f16))] rfl rfl rfl ?_
          exact V_iret rfl (dX8_round_p0 55 rfl) ⟨rfl, rfl⟩
        · intro k33 hk34
          refine V_icmp_lt (dX8_round_p0 40 rfl) 99 (by decide) 77 rfl ?_ ?_
          · refine V_pick [0] [(0, .ref q1)] rfl ?_
            exact hk34 ()
          · refine V_aload_n (dX8_round_p0 41 rfl) 78 rfl 0 rfl ?_
            refine V_iload_n (dX8_round_p0 42 rfl) 79 rfl 2 rfl ?_
            refine V_iload_n (dX8_round_p0 43 rfl) 80 rfl 3 rfl ?_
            refine V_callV (M := mX8_round) (wcs := [(q1, .inr (9, [.int i6, .ref q7, .ref q8, .int i9, .int i10, .int i11, .int i12, .int i13, .int z31.2])), (q7, .inl (E.2.1, 81, .inl f15)), (q8, .inl (E.2.1, 81, .inl f16))]) (wr := []) mf_X8_left tw_1388 tw_1390 tw_42 ⟨Nat.le_of_ble_eq_true rfl, Nat.le_of_ble_eq_true rfl⟩ (dX8_round_p0 44 rfl) 83 rfl (kX8_left hs q1 q7 q8 i6 i9 i10 i11 i12 i13 z31.2 f15 f16 i3 i4) rfl [0, 1, 2] [] (q0 := 0) rfl rfl rfl rfl (by decide) rfl rfl rfl rfl (Nat.le_of_ble_eq_true rfl) 0 0 (show 0 + 0 ≤ 0 from Nat.le_of_ble_eq_true rfl) (show 0 + 0 ≤ 0 from Nat.le_of_ble_eq_true rfl) (fun z35 v w hz => ?_)
            obtain ⟨rfl, rfl⟩ := hz
            show V E K mX8_round (Qm E K mX8_round (zX8_round E q1 q7 q8 i6 i9 i10 i13 f15)) 0 0 [(q1, .inr (9, [.int i6, .ref q7, .ref q8, .int i9, .int i10, .int i11, .int i12, .int i13, .int z31.2])), (q7, .inl (E.2.1, 81, .inl f15)), (q8, .inl (E.2.1, 81, .inl f16))] 83 [(0, .ref q1), (1, .int i2), (2, .int i3), (3, .int i4), (4, .int i5)] [.int z35] _
            refine V_iload (dX8_round_p0 45 rfl) 85 rfl 4 rfl ?_
            refine V_icmp_lt (dX8_round_p0 46 rfl) 99 (by decide) 88 rfl ?_ ?_
            · refine V_pick [0] [(0, .ref q1)] rfl ?_
              exact hk34 ()
            · refine V_aload_n (dX8_round_p0 47 rfl) 89 rfl 0 rfl ?_
              refine V_iload_n (dX8_round_p0 48 rfl) 90 rfl 3 rfl ?_
              refine V_iload_n (dX8_round_p0 49 rfl) 91 rfl 1 rfl ?_
              refine V_callV (M := mX8_round) (wcs := [(q1, .inr (9, [.int i6, .ref q7, .ref q8, .int i9, .int i10, .int i11, .int i12, .int i13, .int z31.2])), (q7, .inl (E.2.1, 81, .inl f15)), (q8, .inl (E.2.1, 81, .inl f16))]) (wr := []) mf_X8_left tw_1388 tw_1390 tw_42 ⟨Nat.le_of_ble_eq_true rfl, Nat.le_of_ble_eq_true rfl⟩ (dX8_round_p0 50 rfl) 94 rfl (kX8_left hs q1 q7 q8 i6 i9 i10 i11 i12 i13 z31.2 f15 f16 i4 i2) rfl [0, 1, 2] [] (q0 := 0) rfl rfl rfl rfl (by decide) rfl rfl rfl rfl (Nat.le_of_ble_eq_true rfl) 0 0 (show 0 + 0 ≤ 0 from Nat.le_of_ble_eq_true rfl) (show 0 + 0 ≤ 0 from Nat.le_of_ble_eq_true rfl) (fun z36 v w hz => ?_)
              obtain ⟨rfl, rfl⟩ := hz
              show V E K mX8_round (Qm E K mX8_round (zX8_round E q1 q7 q8 i6 i9 i10 i13 f15)) 0 0 [(q1, .inr (9, [.int i6, .ref q7, .ref q8, .int i9, .int i10, .int i11, .int i12, .int i13, .int z31.2])), (q7, .inl (E.2.1, 81, .inl f15)), (q8, .inl (E.2.1, 81, .inl f16))] 94 [(0, .ref q1), (1, .int i2), (2, .int i3), (3, .int i4), (4, .int i5)] [.int z36] _
              refine V_iload (dX8_round_p0 51 rfl) 96 rfl 4 rfl ?_
              refine V_icmp_ge (dX8_round_p0 52 rfl) 104 (by decide) 99 rfl ?_ ?_
              · refine V_aload_n (dX8_round_p0 56 rfl) 105 rfl 0 rfl ?_
                refine V_iload_n (dX8_round_p0 57 rfl) 106 rfl 1 rfl ?_
                refine V_iload_n (dX8_round_p0 58 rfl) 107 rfl 2 rfl ?_
                refine V_iload (dX8_round_p0 59 rfl) 109 rfl 4 rfl ?_
                refine V_callV (M := mX8_round) (wcs := [(q1, .inr (9, [.int i6, .ref q7, .ref q8, .int i9, .int i10, .int i11, .int i12, .int i13, .int z31.2])), (q8, .inl (E.2.1, 81, .inl f16))]) (wr := [(q7, .inl (E.2.1, 81, .inl f15))]) mf_X8_flowOn tw_1398 tw_1400 tw_44 ⟨Nat.le_of_ble_eq_true rfl, Nat.le_of_ble_eq_true rfl⟩ (dX8_round_p0 60 rfl) 112 rfl (kX8_flowOn hs q1 q8 i6 (.ref q7) i9 i10 i11 i12 i13 z31.2 f16 i2 i3 i5) rfl [0, 2] [1] (q0 := 0) rfl rfl rfl rfl (by decide) rfl rfl rfl rfl (Nat.le_of_ble_eq_true rfl) 0 0 (show 0 + 0 ≤ 0 from Nat.le_of_ble_eq_true rfl) (show 0 + 0 ≤ 0 from Nat.le_of_ble_eq_true rfl) (fun z37 v w hz => ?_)
                obtain ⟨rfl, rfl⟩ := hz
                show V E K mX8_round (Qm E K mX8_round (zX8_round E q1 q7 q8 i6 i9 i10 i13 f15)) 0 0 [(q7, .inl (E.2.1, 81, .inl f15)), (q1, .inr (9, [.int i6, .ref q7, .ref q8, .int i9, .int i10, .int i11, .int i12, .int i13, .int z31.2])), (q8, .inl (E.2.1, 81, .inl z37))] 112 [(0, .ref q1), (1, .int i2), (2, .int i3), (3, .int i4), (4, .int i5)] [] _
                refine V_aload_n (dX8_round_p0 61 rfl) 113 rfl 0 rfl ?_
                refine V_iload_n (dX8_round_p0 62 rfl) 114 rfl 2 rfl ?_
                refine V_iload_n (dX8_round_p0 63 rfl) 115 rfl 3 rfl ?_
                refine V_iload (dX8_round_p0 64 rfl) 117 rfl 4 rfl ?_
                refine V_callV (M := mX8_round) (wcs := [(q1, .inr (9, [.int i6, .ref q7, .ref q8, .int i9, .int i10, .int i11, .int i12, .int i13, .int z31.2])), (q8, .inl (E.2.1, 81, .inl z37))]) (wr := [(q7, .inl (E.2.1, 81, .inl f15))]) mf_X8_flowOn tw_1398 tw_1400 tw_44 ⟨Nat.le_of_ble_eq_true rfl, Nat.le_of_ble_eq_true rfl⟩ (dX8_round_p0 65 rfl) 120 rfl (kX8_flowOn hs q1 q8 i6 (.ref q7) i9 i10 i11 i12 i13 z31.2 z37 i3 i4 i5) rfl [1, 2] [0] (q0 := 0) rfl rfl rfl rfl (by decide) rfl rfl rfl rfl (Nat.le_of_ble_eq_true rfl) 0 0 (show 0 + 0 ≤ 0 from Nat.le_of_ble_eq_true rfl) (show 0 + 0 ≤ 0 from Nat.le_of_ble_eq_true rfl) (fun z38 v w hz => ?_)
                obtain ⟨rfl, rfl⟩ := hz
                show V E K mX8_round (Qm E K mX8_round (zX8_round E q1 q7 q8 i6 i9 i10 i13 f15)) 0 0 [(q7, .inl (E.2.1, 81, .inl f15)), (q1, .inr (9, [.int i6, .ref q7, .ref q8, .int i9, .int i10, .int i11, .int i12, .int i13, .int z31.2])), (q8, .inl (E.2.1, 81, .inl z38))] 120 [(0, .ref q1), (1, .int i2), (2, .int i3), (3, .int i4), (4, .int i5)] [] _
                refine V_aload_n (dX8_round_p0 66 rfl) 121 rfl 0 rfl ?_
                refine V_iload_n (dX8_round_p0 67 rfl) 122 rfl 3 rfl ?_
                refine V_iload_n (dX8_round_p0 68 rfl) 123 rfl 1 rfl ?_
                refine V_iload (dX8_round_p0 69 rfl) 125 rfl 4 rfl ?_
                refine V_callV (M := mX8_round) (wcs := [(q1, .inr (9, [.int i6, .ref q7, .ref q8, .int i9, .int i10, .int i11, .int i12, .int i13, .int z31.2])), (q8, .inl (E.2.1, 81, .inl z38))]) (wr := [(q7, .inl (E.2.1, 81, .inl f15))]) mf_X8_flowOn tw_1398 tw_1400 tw_44 ⟨Nat.le_of_ble_eq_true rfl, Nat.le_of_ble_eq_true rfl⟩ (dX8_round_p1 0 rfl) 128 rfl (kX8_flowOn hs q1 q8 i6 (.ref q7) i9 i10 i11 i12 i13 z31.2 z38 i4 i2 i5) rfl [1, 2] [0] (q0 := 0) rfl rfl rfl rfl (by decide) rfl rfl rfl rfl (Nat.le_of_ble_eq_true rfl) 0 0 (show 0 + 0 ≤ 0 from Nat.le_of_ble_eq_true rfl) (show 0 + 0 ≤ 0 from Nat.le_of_ble_eq_true rfl) (fun z39 v w hz => ?_)
                obtain ⟨rfl, rfl⟩ := hz
                show V E K mX8_round (Qm E K mX8_round (zX8_round E q1 q7 q8 i6 i9 i10 i13 f15)) 0 0 [(q7, .inl (E.2.1, 81, .inl f15)), (q1, .inr (9, [.int i6, .ref q7, .ref q8, .int i9, .int i10, .int i11, .int i12, .int i13, .int z31.2])), (q8, .inl (E.2.1, 81, .inl z39))] 128 [(0, .ref q1), (1, .int i2), (2, .int i3), (3, .int i4), (4, .int i5)] [] _
                refine V_aload_n (dX8_round_p1 1 rfl) 129 rfl 0 rfl ?_
                refine V_aload_n (dX8_round_p1 2 rfl) 130 rfl 0 rfl ?_
                refine V_callV (M := mX8_round) (wcs := [(q1, .inr (9, [.int i6, .ref q7, .ref q8, .int i9, .int i10, .int i11, .int i12, .int i13, .int z31.2])), (q8, .inl (E.2.1, 81, .inl z39))]) (wr := [(q7, .inl (E.2.1, 81, .inl f15))]) mf_X8_flowing tw_1414 tw_1416 tw_45 ⟨Nat.le_of_ble_eq_true rfl, Nat.le_of_ble_eq_true rfl⟩ (dX8_round_p1 3 rfl) 133 rfl (kX8_flowing hs q1 q8 i6 (.ref q7) i9 i10 i11 i12 i13 z31.2 z39) rfl [1, 2] [0] (q0 := 0) rfl rfl rfl rfl (by decide) rfl rfl rfl rfl (Nat.le_of_ble_eq_true rfl) 0 0 (show 0 + 0 ≤ 0 from Nat.le_of_ble_eq_true rfl) (show 0 + 0 ≤ 0 from Nat.le_of_ble_eq_true rfl) (fun z40 v w hz => ?_)
                obtain ⟨rfl, rfl⟩ := hz
                show V E K mX8_round (Qm E K mX8_round (zX8_round E q1 q7 q8 i6 i9 i10 i13 f15)) 0 0 [(q7, .inl (E.2.1, 81, .inl f15)), (q1, .inr (9, [.int i6, .ref q7, .ref q8, .int i9, .int i10, .int i11, .int i12, .int i13, .int z31.2])), (q8, .inl (E.2.1, 81, .inl z39))] 133 [(0, .ref q1), (1, .int i2), (2, .int i3), (3, .int i4), (4, .int i5)] [.int z40, .ref q1] _
                refine V_callV (M := mX8_round) (wcs := [(q1, .inr (9, [.int i6, .ref q7, .ref q8, .int i9, .int i10, .int i11, .int i12, .int i13, .int z31.2]))]) (wr := [(q7, .inl (E.2.1, 81, .inl f15)), (q8, .inl (E.2.1, 81, .inl z39))]) mf_X8_did tw_1291 tw_1293 tw_29 ⟨Nat.le_of_ble_eq_true rfl, Nat.le_of_ble_eq_true rfl⟩ (dX8_round_p1 4 rfl) 136 rfl (kX8_did hs q1 i6 (.ref q7) (.ref q8) i9 i10 i11 i12 i13 z31.2 z40) rfl [1] [0, 2] (q0 := 0) rfl rfl rfl rfl (by decide) rfl rfl rfl rfl (Nat.le_of_ble_eq_true rfl) 0 0 (show 0 + 0 ≤ 0 from Nat.le_of_ble_eq_true rfl) (show 0 + 0 ≤ 0 from Nat.le_of_ble_eq_true rfl) (fun z41 v w hz => ?_)
                obtain ⟨rfl, rfl⟩ := hz
                show V E K mX8_round (Qm E K mX8_round (zX8_round E q1 q7 q8 i6 i9 i10 i13 f15)) 0 0 [(q7, .inl (E.2.1, 81, .inl f15)), (q8, .inl (E.2.1, 81, .inl z39)), (q1, .inr (9, [.int i6, .ref q7, .ref q8, .int i9, .int i10, .int z41.2, .int i12, .int i13, .int z31.2]))] 136 [(0, .ref q1), (1, .int i2), (2, .int i3), (3, .int i4), (4, .int i5)] [.int z41.1] _
                refine V_world [2, 0, 1] [(q1, .inr (9, [.int i6, .ref q7, .ref q8, .int i9, .int i10, .int z41.2, .int i12, .int i13, .int z31.2])), (q7, .inl (E.2.1, 81, .inl f15)), (q8, .inl (E.2.1, 81, .inl z39))] rfl rfl rfl ?_
                exact V_iret rfl (dX8_round_p1 5 rfl) ⟨rfl, rfl⟩
              · refine V_pick [0] [(0, .ref q1)] rfl ?_
                exact hk34 ()
      · refine V_iconst (0 : Int32) (by decide) (dX8_round_p0 33 rfl) 65 rfl ?_
        refine V_world [2, 0, 1] [(q1, .inr (9, [.int i6, .ref q7, .ref q8, .int i9, .int i10, .int i11, .int i12, .int i13, .int z31.2])), (q7, .inl (E.2.1, 81, .inl f15)), (q8, .inl (E.2.1, 81, .inl f16))] rfl rfl rfl ?_
        exact V_iret rfl (dX8_round_p0 34 rfl) ⟨rfl, rfl⟩
    · intro k25 hk26
      refine V_jn (fun (k27 : Unit → Option (Int32 × Int32 × Int32 × Int32 × (Nat → Int32))) => ∀ (_ : Unit), V E K mX8_round (Qm E K mX8_round (zX8_round E q1 q7 q8 i6 i9 i10 i13 f15)) 0 0 [(q1, .inr (9, [.int i6, .ref q7, .ref q8, .int i9, .int i10, .int i11, .int i12, .int i13, .int i14])), (q7, .inl (E.2.1, 81, .inl f15)), (q8, .inl (E.2.1, 81, .inl f16))] 53 [(0, .ref q1), (1, .int i2), (2, .int i3), (3, .int i4), (4, .int i5)] [.int i24, .ref q1] (k27 ())) ?_ ?_
      · intro _
        show V E K mX8_round (Qm E K mX8_round (zX8_round E q1 q7 q8 i6 i9 i10 i13 f15)) 0 0 [(q1, .inr (9, [.int i6, .ref q7, .ref q8, .int i9, .int i10, .int i11, .int i12, .int i13, .int i14])), (q7, .inl (E.2.1, 81, .inl f15)), (q8, .inl (E.2.1, 81, .inl f16))] 53 [(0, .ref q1), (1, .int i2), (2, .int i3), (3, .int i4), (4, .int i5)] [.int i24, .ref q1] _
        refine V_iconst (1 : Int32) (by decide) (dX8_round_p0 28 rfl) 54 rfl ?_
        refine V_goto (dX8_round_p0 29 rfl) 58 (by decide) ?_
        exact hk26 (1 : Int32)
      · intro k27 hk28
        refine V_icmp_eq (dX8_round_p0 18 rfl) 53 (by decide) 35 rfl ?_ ?_
        · exact hk28 ()
        · refine V_iload_n (dX8_round_p0 19 rfl) 36 rfl 1 rfl ?_
          refine V_iload_n (dX8_round_p0 20 rfl) 37 rfl 3 rfl ?_
          refine V_icmp_eq (dX8_round_p0 21 rfl) 53 (by decide) 40 rfl ?_ ?_
          · exact hk28 ()
          · refine V_iload_n (dX8_round_p0 22 rfl) 41 rfl 2 rfl ?_
            refine V_iload_n (dX8_round_p0 23 rfl) 42 rfl 3 rfl ?_
            refine V_icmp_eq (dX8_round_p0 24 rfl) 53 (by decide) 45 rfl ?_ ?_
            · exact hk28 ()
            · refine V_iload (dX8_round_p0 25 rfl) 47 rfl 4 rfl ?_
              refine V_callS (M := mX8_round) (wcs := []) (wr := [(q1, .inr (9, [.int i6, .ref q7, .ref q8, .int i9, .int i10, .int i11, .int i12, .int i13, .int i14])), (q7, .inl (E.2.1, 81, .inl f15)), (q8, .inl (E.2.1, 81, .inl f16))]) mf_X8_isRoom tw_1319 tw_1320 ⟨Nat.le_of_ble_eq_true rfl, Nat.le_of_ble_eq_true rfl⟩ (dX8_round_p0 26 rfl) 50 rfl (kX8_isRoom hs i5) rfl [] [0, 1, 2] rfl rfl rfl rfl (by decide) rfl (Nat.le_of_ble_eq_true rfl) 0 0 (show 0 + 0 ≤ 0 from Nat.le_of_ble_eq_true rfl) (show 0 + 0 ≤ 0 from Nat.le_of_ble_eq_true rfl) (fun z29 v w hz => ?_)
              obtain ⟨rfl, rfl⟩ := hz
              show V E K mX8_round (Qm E K mX8_round (zX8_round E q1 q7 q8 i6 i9 i10 i13 f15)) 0 0 [(q1, .inr (9, [.int i6, .ref q7, .ref q8, .int i9, .int i10, .int i11, .int i12, .int i13, .int i14])), (q7, .inl (E.2.1, 81, .inl f15)), (q8, .inl (E.2.1, 81, .inl f16))] 50 [(0, .ref q1), (1, .int i2), (2, .int i3), (3, .int i4), (4, .int i5)] [.int z29, .int i24, .ref q1] _
              refine V_if_ne (dX8_round_p0 27 rfl) 57 (by decide) 53 rfl ?_ ?_
              · refine V_iconst (0 : Int32) (by decide) (dX8_round_p0 30 rfl) 58 rfl ?_
                exact hk26 (0 : Int32)
              · exact hk28 ()
  · intro k18 hk19
    refine V_jn (fun (k20 : Unit → Option (Int32 × Int32 × Int32 × Int32 × (Nat → Int32))) => ∀ (_ : Unit), V E K mX8_round (Qm E K mX8_round (zX8_round E q1 q7 q8 i6 i9 i10 i13 f15)) 0 0 [(q1, .inr (9, [.int i6, .ref q7, .ref q8, .int i9, .int i10, .int i11, .int i12, .int i13, .int i14])), (q7, .inl (E.2.1, 81, .inl f15)), (q8, .inl (E.2.1, 81, .inl f16))] 25 [(0, .ref q1), (1, .int i2), (2, .int i3), (3, .int i4), (4, .int i5)] [.ref q1] (k20 ())) ?_ ?_
    · intro _
      show V E K mX8_round (Qm E K mX8_round (zX8_round E q1 q7 q8 i6 i9 i10 i13 f15)) 0 0 [(q1, .inr (9, [.int i6, .ref q7, .ref q8, .int i9, .int i10, .int i11, .int i12, .int i13, .int i14])), (q7, .inl (E.2.1, 81, .inl f15)), (q8, .inl (E.2.1, 81, .inl f16))] 25 [(0, .ref q1), (1, .int i2), (2, .int i3), (3, .int i4), (4, .int i5)] [.ref q1] _
      refine V_iconst (1 : Int32) (by decide) (dX8_round_p0 13 rfl) 26 rfl ?_
      refine V_goto (dX8_round_p0 14 rfl) 30 (by decide) ?_
      exact hk19 (1 : Int32)
    · intro k20 hk21
      refine V_if_eq (dX8_round_p0 4 rfl) 25 (by decide) 9 rfl ?_ ?_
      · refine V_world [2, 0, 1] [(q1, .inr (9, [.int i6, .ref q7, .ref q8, .int i9, .int i10, .int i11, .int i12, .int i13, .int i14])), (q7, .inl (E.2.1, 81, .inl f15)), (q8, .inl (E.2.1, 81, .inl f16))] rfl rfl rfl ?_
        exact hk21 ()
      · refine V_aload_n (dX8_round_p0 5 rfl) 10 rfl 0 rfl ?_
        refine V_iload_n (dX8_round_p0 6 rfl) 11 rfl 2 rfl ?_
        refine V_callV (M := mX8_round) (wcs := [(q1, .inr (9, [.int i6, .ref q7, .ref q8, .int i9, .int i10, .int i11, .int i12, .int i13, .int i14]))]) (wr := [(q7, .inl (E.2.1, 81, .inl f15)), (q8, .inl (E.2.1, 81, .inl f16))]) mf_X8_isPlace tw_1299 tw_1301 tw_30 ⟨Nat.le_of_ble_eq_true rfl, Nat.le_of_ble_eq_true rfl⟩ (dX8_round_p0 7 rfl) 14 rfl (kX8_isPlace hs q1 i6 (.ref q7) (.ref q8) i9 i10 i11 i12 i13 i14 i3) rfl [2] [0, 1] (q0 := 0) rfl rfl rfl rfl (by decide) rfl rfl rfl rfl (Nat.le_of_ble_eq_true rfl) 0 0 (show 0 + 0 ≤ 0 from Nat.le_of_ble_eq_true rfl) (show 0 + 0 ≤ 0 from Nat.le_of_ble_eq_true rfl) (fun z22 v w hz => ?_)
        obtain ⟨rfl, rfl⟩ := hz
        show V E K mX8_round (Qm E K mX8_round (zX8_round E q1 q7 q8 i6 i9 i10 i13 f15)) 0 0 [(q7, .inl (E.2.1, 81, .inl f15)), (q8, .inl (E.2.1, 81, .inl f16)), (q1, .inr (9, [.int i6, .ref q7, .ref q8, .int i9, .int i10, .int i11, .int i12, .int i13, .int i14]))] 14 [(0, .ref q1), (1, .int i2), (2, .int i3), (3, .int i4), (4, .int i5)] [.int z22, .ref q1] _
        refine V_if_eq (dX8_round_p0 8 rfl) 25 (by decide) 17 rfl ?_ ?_
        · refine V_world [2, 0, 1] [(q1, .inr (9, [.int i6, .ref q7, .ref q8, .int i9, .int i10, .int i11, .int i12, .int i13, .int i14])), (q7, .inl (E.2.1, 81, .inl f15)), (q8, .inl (E.2.1, 81, .inl f16))] rfl rfl rfl ?_
          exact hk21 ()
        · refine V_aload_n (dX8_round_p0 9 rfl) 18 rfl 0 rfl ?_
          refine V_iload_n (dX8_round_p0 10 rfl) 19 rfl 3 rfl ?_
          refine V_callV (M := mX8_round) (wcs := [(q1, .inr (9, [.int i6, .ref q7, .ref q8, .int i9, .int i10, .int i11, .int i12, .int i13, .int i14]))]) (wr := [(q7, .inl (E.2.1, 81, .inl f15)), (q8, .inl (E.2.1, 81, .inl f16))]) mf_X8_isPlace tw_1299 tw_1301 tw_30 ⟨Nat.le_of_ble_eq_true rfl, Nat.le_of_ble_eq_true rfl⟩ (dX8_round_p0 11 rfl) 22 rfl (kX8_isPlace hs q1 i6 (.ref q7) (.ref q8) i9 i10 i11 i12 i13 i14 i4) rfl [2] [0, 1] (q0 := 0) rfl rfl rfl rfl (by decide) rfl rfl rfl rfl (Nat.le_of_ble_eq_true rfl) 0 0 (show 0 + 0 ≤ 0 from Nat.le_of_ble_eq_true rfl) (show 0 + 0 ≤ 0 from Nat.le_of_ble_eq_true rfl) (fun z23 v w hz => ?_)
          obtain ⟨rfl, rfl⟩ := hz
          show V E K mX8_round (Qm E K mX8_round (zX8_round E q1 q7 q8 i6 i9 i10 i13 f15)) 0 0 [(q7, .inl (E.2.1, 81, .inl f15)), (q8, .inl (E.2.1, 81, .inl f16)), (q1, .inr (9, [.int i6, .ref q7, .ref q8, .int i9, .int i10, .int i11, .int i12, .int i13, .int i14]))] 22 [(0, .ref q1), (1, .int i2), (2, .int i3), (3, .int i4), (4, .int i5)] [.int z23, .ref q1] _
          refine V_if_ne (dX8_round_p0 12 rfl) 29 (by decide) 25 rfl ?_ ?_
          · refine V_iconst (0 : Int32) (by decide) (dX8_round_p0 15 rfl) 30 rfl ?_
            refine V_world [2, 0, 1] [(q1, .inr (9, [.int i6, .ref q7, .ref q8, .int i9, .int i10, .int i11, .int i12, .int i13, .int i14])), (q7, .inl (E.2.1, 81, .inl f15)), (q8, .inl (E.2.1, 81, .inl f16))] rfl rfl rfl ?_
            exact hk19 (0 : Int32)
          · refine V_world [2, 0, 1] [(q1, .inr (9, [.int i6, .ref q7, .ref q8, .int i9, .int i10, .int i11, .int i12, .int i13, .int i14])), (q7, .inl (E.2.1, 81, .inl f15)), (q8, .inl (E.2.1, 81, .inl f16))] rfl rfl rfl ?_
            exact hk21 ())
set_option maxRecDepth 20000 in
theorem kX8_peel {E : EX} {l : Launch} (hl : l.stackTraces = false) (q1 q4 : Nat) (i2 : Int32) (v3 : Value) (i5 i6 i7 i8 i9 i10 : Int32) (f11 : Nat → Int32) : Ct E l mX8_peel [.ref q1] [(q1, .inr (9, [.int i2, v3, .ref q4, .int i5, .int i6, .int i7, .int i8, .int i9, .int i10])), (q4, .inl (E.2.1, 81, .inl f11))] (fX8_peel i2 i5 i6 i7 f11) (zX8_peel E q1 q4 i2 v3 i5 i6 i8 i9) := Ct_of hl mf_X8_peel.1 (Nat.le_of_ble_eq_true rfl) (fun K hs => by
  refine V_less 2 32 (Nat.le_refl _) (Nat.le_refl _) ?_
  refine V_pick [0] [(0, .ref q1)] rfl ?_
  unfold fX8_peel
  refine V_aload_n (dX8_peel 0 rfl) 1 rfl 0 rfl ?_
  refine V_iconst (0 : Int32) (by decide) (dX8_peel 1 rfl) 2 rfl ?_
  refine V_put pf_M_13 0 rfl rfl rfl (Nat.le_of_ble_eq_true rfl) (dX8_peel 2 rfl) 5 rfl [(q1, .inr (9, [.int i2, v3, .ref q4, .int i5, .int i6, .int i7, .int i8, .int i9, .int (0 : Int32)])), (q4, .inl (E.2.1, 81, .inl f11))] rfl ?_
  refine V_aload_n (dX8_peel 3 rfl) 6 rfl 0 rfl ?_
  refine V_aload_n (dX8_peel 4 rfl) 7 rfl 0 rfl ?_
  refine V_get gf_M_24 0 rfl rfl (dX8_peel 5 rfl) 10 rfl ?_
  refine V_callV (M := mX8_peel) (wcs := [(q1, .inr (9, [.int i2, v3, .ref q4, .int i5, .int i6, .int i7, .int i8, .int i9, .int (0 : Int32)])), (q4, .inl (E.2.1, 81, .inl f11))]) (wr := []) mf_X8_nextPart tw_1422 tw_1424 tw_46 ⟨Nat.le_of_ble_eq_true rfl, Nat.le_of_ble_eq_true rfl⟩ (dX8_peel 6 rfl) 13 rfl (kX8_nextPart hs q1 q4 i2 v3 (.ref q4) i5 i6 i7 i8 i9 (0 : Int32) f11) rfl [0, 1] [] (q0 := 0) rfl rfl rfl rfl (by decide) rfl rfl rfl rfl (Nat.le_of_ble_eq_true rfl) 0 0 (show 0 + 2 ≤ 2 from Nat.le_of_ble_eq_true rfl) (show 0 + 32 ≤ 32 from Nat.le_of_ble_eq_true rfl) (fun z12 v w hz => ?_)
  rcases hz with ⟨e0, rfl, rfl⟩ | ⟨n13, f14, q15, e0, rfl, rfl⟩
  · refine V_eq (oc_none e0) ?_
    show V E K mX8_peel (Qm E K mX8_peel (zX8_peel E q1 q4 i2 v3 i5 i6 i8 i9)) 0 0 [(q1, .inr (9, [.int i2, v3, .ref q4, .int i5, .int i6, .int i7, .int i8, .int i9, .int (0 : Int32)])), (q4, .inl (E.2.1, 81, .inl z12.1))] 13 [(0, .ref q1)] [.null] _
    refine V_astore_nN (dX8_peel 7 rfl) 14 rfl [(0, .ref q1), (1, .null)] (Nat.le_of_ble_eq_true rfl) rfl ?_
    refine V_aload_n (dX8_peel 8 rfl) 15 rfl 0 rfl ?_
    refine V_aload_nN (dX8_peel 9 rfl) 16 rfl 1 rfl ?_
    refine V_ifnonnullN (dX8_peel 10 rfl) 19 rfl ?_
    refine V_iconst (0 : Int32) (by decide) (dX8_peel 11 rfl) 20 rfl ?_
    refine V_goto (dX8_peel 12 rfl) 26 (by decide) ?_
    refine V_callV (M := mX8_peel) (wcs := [(q1, .inr (9, [.int i2, v3, .ref q4, .int i5, .int i6, .int i7, .int i8, .int i9, .int (0 : Int32)]))]) (wr := [(q4, .inl (E.2.1, 81, .inl z12.1))]) mf_X8_did tw_1291 tw_1293 tw_29 ⟨Nat.le_of_ble_eq_true rfl, Nat.le_of_ble_eq_true rfl⟩ (dX8_peel 16 rfl) 29 rfl (kX8_did hs q1 i2 v3 (.ref q4) i5 i6 i7 i8 i9 (0 : Int32) (0 : Int32)) rfl [0] [1] (q0 := 0) rfl rfl rfl rfl (by decide) rfl rfl rfl rfl (Nat.le_of_ble_eq_true rfl) 0 0 (show 0 + 0 ≤ 0 from Nat.le_of_ble_eq_true rfl) (show 0 + 0 ≤ 0 from Nat.le_of_ble_eq_true rfl) (fun z16 v w hz => ?_)
    obtain ⟨rfl, rfl⟩ := hz
    show V E K mX8_peel (Qm E K mX8_peel (zX8_peel E q1 q4 i2 v3 i5 i6 i8 i9)) 0 0 [(q4, .inl (E.2.1, 81, .inl z12.1)), (q1, .inr (9, [.int i2, v3, .ref q4, .int i5, .int i6, .int z16.2, .int i8, .int i9, .int (0 : Int32)]))] 29 [(0, .ref q1), (1, .null)] [.int z16.1] _
    refine V_world [1, 0] [(q1, .inr (9, [.int i2, v3, .ref q4, .int i5, .int i6, .int z16.2, .int i8, .int i9, .int (0 : Int32)])), (q4, .inl (E.2.1, 81, .inl z12.1))] rfl rfl rfl ?_
    exact V_iret rfl (dX8_peel 17 rfl) ⟨rfl, rfl⟩
  · refine V_eq (oc_some e0) ?_
    show V E K mX8_peel (Qm E K mX8_peel (zX8_peel E q1 q4 i2 v3 i5 i6 i8 i9)) 0 0 [(q1, .inr (9, [.int i2, v3, .ref q4, .int i5, .int i6, .int i7, .int i8, .int i9, .int (0 : Int32)])), (q4, .inl (E.2.1, 81, .inl z12.1)), (q15, .inl (E.2.1, n13, .inl f14))] 13 [(0, .ref q1)] [.ref q15] _
    refine V_astore_n (dX8_peel 7 rfl) 14 rfl [(0, .ref q1), (1, .ref q15)] (Nat.le_of_ble_eq_true rfl) rfl ?_
    refine V_aload_n (dX8_peel 8 rfl) 15 rfl 0 rfl ?_
    refine V_aload_n (dX8_peel 9 rfl) 16 rfl 1 rfl ?_
    refine V_ifnonnull (dX8_peel 10 rfl) 23 (by decide) ?_
    refine V_aload_n (dX8_peel 13 rfl) 24 rfl 1 rfl ?_
    refine V_iconst (1 : Int32) (by decide) (dX8_peel 14 rfl) 25 rfl ?_
    refine V_iald 2 rfl (dX8_peel 15 rfl) 26 rfl ?_
    refine V_callV (M := mX8_peel) (wcs := [(q1, .inr (9, [.int i2, v3, .ref q4, .int i5, .int i6, .int i7, .int i8, .int i9, .int (0 : Int32)]))]) (wr := [(q4, .inl (E.2.1, 81, .inl z12.1)), (q15, .inl (E.2.1, n13, .inl f14))]) mf_X8_did tw_1291 tw_1293 tw_29 ⟨Nat.le_of_ble_eq_true rfl, Nat.le_of_ble_eq_true rfl⟩ (dX8_peel 16 rfl) 29 rfl (kX8_did hs q1 i2 v3 (.ref q4) i5 i6 i7 i8 i9 (0 : Int32) (f14 (1 : Int32).toNatClampNeg)) rfl [0] [1, 2] (q0 := 0) rfl rfl rfl rfl (by decide) rfl rfl rfl rfl (Nat.le_of_ble_eq_true rfl) 0 0 (show 0 + 0 ≤ 0 from Nat.le_of_ble_eq_true rfl) (show 0 + 0 ≤ 0 from Nat.le_of_ble_eq_true rfl) (fun z17 v w hz => ?_)
    obtain ⟨rfl, rfl⟩ := hz
    show V E K mX8_peel (Qm E K mX8_peel (zX8_peel E q1 q4 i2 v3 i5 i6 i8 i9)) 0 0 [(q4, .inl (E.2.1, 81, .inl z12.1)), (q15, .inl (E.2.1, n13, .inl f14)), (q1, .inr (9, [.int i2, v3, .ref q4, .int i5, .int i6, .int z17.2, .int i8, .int i9, .int (0 : Int32)]))] 29 [(0, .ref q1), (1, .ref q15)] [.int z17.1] _
    refine V_world [2, 0] [(q1, .inr (9, [.int i2, v3, .ref q4, .int i5, .int i6, .int z17.2, .int i8, .int i9, .int (0 : Int32)])), (q4, .inl (E.2.1, 81, .inl z12.1))] rfl rfl rfl ?_
    exact V_iret rfl (dX8_peel 17 rfl) ⟨rfl, rfl⟩)
set_option maxRecDepth 20000 in
theorem kX8_empty {E : EX} {l : Launch} (hl : l.stackTraces = false) (q1 q4 : Nat) (i2 : Int32) (v3 : Value) (i5 i6 i7 i8 i9 i10 : Int32) (f11 : Nat → Int32) : Ct E l mX8_empty [.ref q1] [(q1, .inr (9, [.int i2, v3, .ref q4, .int i5, .int i6, .int i7, .int i8, .int i9, .int i10])), (q4, .inl (E.2.1, 81, .inl f11))] (fX8_empty i2 i5 i7 f11) (zX8_empty E q1 q4 i2 v3 i5 i6 i8 i9) := Ct_of hl mf_X8_empty.1 (Nat.le_of_ble_eq_true rfl) (fun K hs => by
  refine V_less 0 0 (Nat.le_refl _) (Nat.le_refl _) ?_
  refine V_pick [0] [(0, .ref q1)] rfl ?_
  unfold fX8_empty
  refine V_aload_n (dX8_empty 0 rfl) 1 rfl 0 rfl ?_
  refine V_iconst (0 : Int32) (by decide) (dX8_empty 1 rfl) 2 rfl ?_
  refine V_put pf_M_13 0 rfl rfl rfl (Nat.le_of_ble_eq_true rfl) (dX8_empty 2 rfl) 5 rfl [(q1, .inr (9, [.int i2, v3, .ref q4, .int i5, .int i6, .int i7, .int i8, .int i9, .int (0 : Int32)])), (q4, .inl (E.2.1, 81, .inl f11))] rfl ?_
  refine V_aload_n (dX8_empty 3 rfl) 6 rfl 0 rfl ?_
  refine V_callV (M := mX8_empty) (wcs := [(q1, .inr (9, [.int i2, v3, .ref q4, .int i5, .int i6, .int i7, .int i8, .int i9, .int (0 : Int32)])), (q4, .inl (E.2.1, 81, .inl f11))]) (wr := []) mf_X8_valueNow tw_1303 tw_1305 tw_31 ⟨Nat.le_of_ble_eq_true rfl, Nat.le_of_ble_eq_true rfl⟩ (dX8_empty 4 rfl) 9 rfl (kX8_valueNow hs q1 q4 i2 v3 i5 i6 i7 i8 i9 (0 : Int32) f11) rfl [0, 1] [] (q0 := 0) rfl rfl rfl rfl (by decide) rfl rfl rfl rfl (Nat.le_of_ble_eq_true rfl) 0 0 (show 0 + 0 ≤ 0 from Nat.le_of_ble_eq_true rfl) (show 0 + 0 ≤ 0 from Nat.le_of_ble_eq_true rfl) (fun z12 v w hz => ?_)
  obtain ⟨rfl, rfl⟩ := hz
  show V E K mX8_empty (Qm E K mX8_empty (zX8_empty E q1 q4 i2 v3 i5 i6 i8 i9)) 0 0 [(q1, .inr (9, [.int i2, v3, .ref q4, .int i5, .int i6, .int i7, .int i8, .int i9, .int (0 : Int32)])), (q4, .inl (E.2.1, 81, .inl f11))] 9 [(0, .ref q1)] [.int z12] _
  refine V_istore_n (dX8_empty 5 rfl) 10 rfl [(0, .ref q1), (1, .int z12)] (Nat.le_of_ble_eq_true rfl) rfl ?_
  refine V_aload_n (dX8_empty 6 rfl) 11 rfl 0 rfl ?_
  refine V_callV (M := mX8_empty) (wcs := [(q1, .inr (9, [.int i2, v3, .ref q4, .int i5, .int i6, .int i7, .int i8, .int i9, .int (0 : Int32)])), (q4, .inl (E.2.1, 81, .inl f11))]) (wr := []) mf_X8_still tw_1311 tw_1313 tw_33 ⟨Nat.le_of_ble_eq_true rfl, Nat.le_of_ble_eq_true rfl⟩ (dX8_empty 7 rfl) 14 rfl (kX8_still hs q1 q4 i2 v3 i5 i6 i7 i8 i9 (0 : Int32) f11) rfl [0, 1] [] (q0 := 0) rfl rfl rfl rfl (by decide) rfl rfl rfl rfl (Nat.le_of_ble_eq_true rfl) 0 0 (show 0 + 0 ≤ 0 from Nat.le_of_ble_eq_true rfl) (show 0 + 0 ≤ 0 from Nat.le_of_ble_eq_true rfl) (fun z13 v w hz => ?_)
  obtain ⟨rfl, rfl⟩ := hz
  show V E K mX8_empty (Qm E K mX8_empty (zX8_empty E q1 q4 i2 v3 i5 i6 i8 i9)) 0 0 [(q1, .inr (9, [.int i2, v3, .ref q4, .int i5, .int i6, .int i7, .int i8, .int i9, .int (0 : Int32)])), (q4, .inl (E.2.1, 81, .inl z13))] 14 [(0, .ref q1), (1, .int z12)] [] _
  refine V_aload_n (dX8_empty 8 rfl) 15 rfl 0 rfl ?_
  refine V_iload_n (dX8_empty 9 rfl) 16 rfl 1 rfl ?_
  refine V_callV (M := mX8_empty) (wcs := [(q1, .inr (9, [.int i2, v3, .ref q4, .int i5, .int i6, .int i7, .int i8, .int i9, .int (0 : Int32)]))]) (wr := [(q4, .inl (E.2.1, 81, .inl z13))]) mf_X8_did tw_1291 tw_1293 tw_29 ⟨Nat.le_of_ble_eq_true rfl, Nat.le_of_ble_eq_true rfl⟩ (dX8_empty 10 rfl) 19 rfl (kX8_did hs q1 i2 v3 (.ref q4) i5 i6 i7 i8 i9 (0 : Int32) z12) rfl [0] [1] (q0 := 0) rfl rfl rfl rfl (by decide) rfl rfl rfl rfl (Nat.le_of_ble_eq_true rfl) 0 0 (show 0 + 0 ≤ 0 from Nat.le_of_ble_eq_true rfl) (show 0 + 0 ≤ 0 from Nat.le_of_ble_eq_true rfl) (fun z14 v w hz => ?_)
  obtain ⟨rfl, rfl⟩ := hz
  show V E K mX8_empty (Qm E K mX8_empty (zX8_empty E q1 q4 i2 v3 i5 i6 i8 i9)) 0 0 [(q4, .inl (E.2.1, 81, .inl z13)), (q1, .inr (9, [.int i2, v3, .ref q4, .int i5, .int i6, .int z14.2, .int i8, .int i9, .int (0 : Int32)]))] 19 [(0, .ref q1), (1, .int z12)] [.int z14.1] _
  refine V_world [1, 0] [(q1, .inr (9, [.int i2, v3, .ref q4, .int i5, .int i6, .int z14.2, .int i8, .int i9, .int (0 : Int32)])), (q4, .inl (E.2.1, 81, .inl z13))] rfl rfl rfl ?_
  exact V_iret rfl (dX8_empty 11 rfl) ⟨rfl, rfl⟩)
set_option maxRecDepth 20000 in
theorem vBX8_toldNow_L57 {E : EX} {K : KX} (hs : K.l.stackTraces = false) (q1 q4 : Nat) (i3 : Int32) (v5 : Value) (i6 i7 i8 i9 i10 i11 : Int32) (f12 : Nat → Int32) (bc bs : Nat) (i31 i32 : Int32) {rec : Int32 → Int32 → Option (Int32)}  (hrec : ∀ (i31 i32 : Int32), V E K mX8_toldNow (Qm E K mX8_toldNow (zX8_toldNow E q1 q4 i3 v5 i6 i7 i8 i9 i10 i11 f12)) (bc) (bs) [(q1, .inr (9, [.int i3, .ref q4, v5, .int i6, .int i7, .int i8, .int i9, .int i10, .int i11])), (q4, .inl (E.2.1, 81, .inl f12))] 57 [(2, .int i31), (3, .ref q4), (4, .int (81 : Int32)), (5, .int i32)] [] (rec i31 i32))  : V E K mX8_toldNow (Qm E K mX8_toldNow (zX8_toldNow E q1 q4 i3 v5 i6 i7 i8 i9 i10 i11 f12)) (bc) (bs) [(q1, .inr (9, [.int i3, .ref q4, v5, .int i6, .int i7, .int i8, .int i9, .int i10, .int i11])), (q4, .inl (E.2.1, 81, .inl f12))] 57 [(2, .int i31), (3, .ref q4), (4, .int (81 : Int32)), (5, .int i32)] [] (BX8_toldNow_L57  f12 i31 i32 rec ) := by
  unfold BX8_toldNow_L57
  refine V_iload (dX8_toldNow 33 rfl) 59 rfl 3 rfl ?_
  refine V_iload (dX8_toldNow 34 rfl) 61 rfl 2 rfl ?_
  refine V_icmp_ge (dX8_toldNow 35 rfl) 89 (by decide) 64 rfl ?_ ?_
  · refine V_iload_n (dX8_toldNow 50 rfl) 90 rfl 0 rfl ?_
    exact V_iret rfl (dX8_toldNow 51 rfl) ⟨rfl, rfl⟩
  · refine V_aload_n (dX8_toldNow 36 rfl) 65 rfl 1 rfl ?_
    refine V_iload (dX8_toldNow 37 rfl) 67 rfl 3 rfl ?_
    refine V_iald 1 rfl (dX8_toldNow 38 rfl) 68 rfl ?_
    refine V_nmI (fun i33 => ?_)
    refine V_istore (dX8_toldNow 39 rfl) 70 rfl [(2, .int i31), (3, .ref q4), (4, .int (81 : Int32)), (5, .int i32), (6, .int i33)] (Nat.le_of_ble_eq_true rfl) rfl ?_
    refine V_iload_n (dX8_toldNow 40 rfl) 71 rfl 0 rfl ?_
    refine V_iload (dX8_toldNow 41 rfl) 73 rfl 4 rfl ?_
    refine V_jn (fun (k34 : Int32 → Option (Int32)) => ∀ (i36 : Int32), V E K mX8_toldNow (Qm E K mX8_toldNow (zX8_toldNow E q1 q4 i3 v5 i6 i7 i8 i9 i10 i11 f12)) (bc) (bs) [(q1, .inr (9, [.int i3, .ref q4, v5, .int i6, .int i7, .int i8, .int i9, .int i10, .int i11])), (q4, .inl (E.2.1, 81, .inl f12))] 81 [(3, .ref q4), (4, .int (81 : Int32)), (5, .int i32)] [.int i36, .int i31] (k34 i36)) ?_ ?_
    · intro i36
      show V E K mX8_toldNow (Qm E K mX8_toldNow (zX8_toldNow E q1 q4 i3 v5 i6 i7 i8 i9 i10 i11 f12)) (bc) (bs) [(q1, .inr (9, [.int i3, .ref q4, v5, .int i6, .int i7, .int i8, .int i9, .int i10, .int i11])), (q4, .inl (E.2.1, 81, .inl f12))] 81 [(3, .ref q4), (4, .int (81 : Int32)), (5, .int i32)] [.int i36, .int i31] _
      refine V_iadd (dX8_toldNow 46 rfl) 82 rfl ?_
      refine V_nmI (fun i37 => ?_)
      refine V_istore_n (dX8_toldNow 47 rfl) 83 rfl [(2, .int i37), (3, .ref q4), (4, .int (81 : Int32)), (5, .int i32)] (Nat.le_of_ble_eq_true rfl) rfl ?_
      refine V_iinc (dX8_toldNow 48 rfl) 86 rfl 3 rfl (i32 + (1 : Int32)) rfl [(2, .int i37), (3, .ref q4), (4, .int (81 : Int32)), (5, .int (i32 + (1 : Int32)))] (Nat.le_of_ble_eq_true rfl) rfl ?_
      refine V_goto (dX8_toldNow 49 rfl) 57 (by decide) ?_
      exact hrec i37 (i32 + (1 : Int32))
    · intro k34 hk35
      refine V_if_le (dX8_toldNow 42 rfl) 80 (by decide) 76 rfl ?_ ?_
      · refine V_iconst (0 : Int32) (by decide) (dX8_toldNow 45 rfl) 81 rfl ?_
        refine V_pick [1, 2, 3] [(3, .ref q4), (4, .int (81 : Int32)), (5, .int i32)] rfl ?_
        exact hk35 (0 : Int32)
      · refine V_iconst (1 : Int32) (by decide) (dX8_toldNow 43 rfl) 77 rfl ?_
        refine V_goto (dX8_toldNow 44 rfl) 81 (by decide) ?_
        refine V_pick [1, 2, 3] [(3, .ref q4), (4, .int (81 : Int32)), (5, .int i32)] rfl ?_
        exact hk35 (1 : Int32)
set_option maxRecDepth 20000 in
theorem vLX8_toldNow_L57 {E : EX} {K : KX} (hs : K.l.stackTraces = false) (q1 q4 : Nat) (i3 : Int32) (v5 : Value) (i6 i7 i8 i9 i10 i11 : Int32) (f12 : Nat → Int32) (bc bs : Nat)   : ∀ (n : Nat) (i31 i32 : Int32), V E K mX8_toldNow (Qm E K mX8_toldNow (zX8_toldNow E q1 q4 i3 v5 i6 i7 i8 i9 i10 i11 f12)) (bc) (bs) [(q1, .inr (9, [.int i3, .ref q4, v5, .int i6, .int i7, .int i8, .int i9, .int i10, .int i11])), (q4, .inl (E.2.1, 81, .inl f12))] 57 [(2, .int i31), (3, .ref q4), (4, .int (81 : Int32)), (5, .int i32)] [] (LX8_toldNow_L57  f12 n i31 i32 )
  | 0, _, _ => V_none
  | n + 1, i31, i32 => vBX8_toldNow_L57 hs q1 q4 i3 v5 i6 i7 i8 i9 i10 i11 f12 bc bs i31 i32 (fun i31 i32 => vLX8_toldNow_L57 hs q1 q4 i3 v5 i6 i7 i8 i9 i10 i11 f12 bc bs  n i31 i32) 
set_option maxRecDepth 20000 in
theorem kX8_toldNow {E : EX} {l : Launch} (hl : l.stackTraces = false) (q1 q4 : Nat) (i3 : Int32) (v5 : Value) (i6 i7 i8 i9 i10 i11 : Int32) (f12 : Nat → Int32) (i2 : Int32) : Ct E l mX8_toldNow [.ref q1, .int i2] [(q1, .inr (9, [.int i3, .ref q4, v5, .int i6, .int i7, .int i8, .int i9, .int i10, .int i11])), (q4, .inl (E.2.1, 81, .inl f12))] (fX8_toldNow i3 i6 i7 f12 i2) (zX8_toldNow E q1 q4 i3 v5 i6 i7 i8 i9 i10 i11 f12) := Ct_of hl mf_X8_toldNow.1 (Nat.le_of_ble_eq_true rfl) (fun K hs => by
  refine V_less 0 0 (Nat.le_refl _) (Nat.le_refl _) ?_
  refine V_pick [0, 1] [(0, .ref q1), (1, .int i2)] rfl ?_
  unfold fX8_toldNow
  refine V_iload_n (dX8_toldNow 0 rfl) 1 rfl 1 rfl ?_
  refine V_iconst (3 : Int32) (by decide) (dX8_toldNow 1 rfl) 2 rfl ?_
  refine V_icmp_ge (dX8_toldNow 2 rfl) 33 (by decide) 5 rfl ?_ ?_
  · refine V_iload_n (dX8_toldNow 17 rfl) 34 rfl 1 rfl ?_
    refine V_iconst (4 : Int32) (by decide) (dX8_toldNow 18 rfl) 35 rfl ?_
    refine V_icmp_ne (dX8_toldNow 19 rfl) 43 (by decide) 38 rfl ?_ ?_
    · refine V_iconst (0 : Int32) (by decide) (dX8_toldNow 23 rfl) 44 rfl ?_
      refine V_istore_n (dX8_toldNow 24 rfl) 45 rfl [(0, .ref q1), (1, .int i2), (2, .int (0 : Int32))] (Nat.le_of_ble_eq_true rfl) rfl ?_
      refine V_aload_n (dX8_toldNow 25 rfl) 46 rfl 0 rfl ?_
      refine V_get gf_M_20 0 rfl rfl (dX8_toldNow 26 rfl) 49 rfl ?_
      refine V_astore_n (dX8_toldNow 27 rfl) 50 rfl [(0, .ref q1), (1, .int i2), (2, .int (0 : Int32)), (3, .ref q4)] (Nat.le_of_ble_eq_true rfl) rfl ?_
      refine V_aload_n (dX8_toldNow 28 rfl) 51 rfl 3 rfl ?_
      refine V_alen 1 rfl ((81 : Int32)) (show Int32.ofNat 81 = (81 : Int32) by decide) (dX8_toldNow 29 rfl) 52 rfl ?_
      refine V_istore (dX8_toldNow 30 rfl) 54 rfl [(0, .ref q1), (1, .int i2), (2, .int (0 : Int32)), (3, .ref q4), (4, .int (81 : Int32))] (Nat.le_of_ble_eq_true rfl) rfl ?_
      refine V_iconst (0 : Int32) (by decide) (dX8_toldNow 31 rfl) 55 rfl ?_
      refine V_istore (dX8_toldNow 32 rfl) 57 rfl [(0, .ref q1), (1, .int i2), (2, .int (0 : Int32)), (3, .ref q4), (4, .int (81 : Int32)), (5, .int (0 : Int32))] (Nat.le_of_ble_eq_true rfl) rfl ?_
      refine V_pick [2, 3, 4, 5] [(2, .int (0 : Int32)), (3, .ref q4), (4, .int (81 : Int32)), (5, .int (0 : Int32))] rfl ?_
      refine vLX8_toldNow_L57 hs q1 q4 i3 v5 i6 i7 i8 i9 i10 i11 f12 0 0  600 (0 : Int32) (0 : Int32)
    · refine V_aload_n (dX8_toldNow 20 rfl) 39 rfl 0 rfl ?_
      refine V_callV (M := mX8_toldNow) (wcs := [(q1, .inr (9, [.int i3, .ref q4, v5, .int i6, .int i7, .int i8, .int i9, .int i10, .int i11])), (q4, .inl (E.2.1, 81, .inl f12))]) (wr := []) mf_X8_sumOfRooms tw_1347 tw_1349 tw_37 ⟨Nat.le_of_ble_eq_true rfl, Nat.le_of_ble_eq_true rfl⟩ (dX8_toldNow 21 rfl) 42 rfl (kX8_sumOfRooms hs q1 q4 i3 v5 i6 i7 i8 i9 i10 i11 f12) rfl [0, 1] [] (q0 := 0) rfl rfl rfl rfl (by decide) rfl rfl rfl rfl (Nat.le_of_ble_eq_true rfl) 0 0 (show 0 + 0 ≤ 0 from Nat.le_of_ble_eq_true rfl) (show 0 + 0 ≤ 0 from Nat.le_of_ble_eq_true rfl) (fun z38 v w hz => ?_)
      obtain ⟨rfl, rfl⟩ := hz
      show V E K mX8_toldNow (Qm E K mX8_toldNow (zX8_toldNow E q1 q4 i3 v5 i6 i7 i8 i9 i10 i11 f12)) 0 0 [(q1, .inr (9, [.int i3, .ref q4, v5, .int i6, .int i7, .int i8, .int i9, .int i10, .int i11])), (q4, .inl (E.2.1, 81, .inl f12))] 42 [(0, .ref q1), (1, .int i2)] [.int z38] _
      exact V_iret rfl (dX8_toldNow 22 rfl) ⟨rfl, rfl⟩
  · refine V_iload_n (dX8_toldNow 3 rfl) 6 rfl 1 rfl ?_
    refine V_if_ne (dX8_toldNow 4 rfl) 16 (by decide) 9 rfl ?_ ?_
    · refine V_iload_n (dX8_toldNow 8 rfl) 17 rfl 1 rfl ?_
      refine V_iconst (1 : Int32) (by decide) (dX8_toldNow 9 rfl) 18 rfl ?_
      refine V_icmp_ne (dX8_toldNow 10 rfl) 28 (by decide) 21 rfl ?_ ?_
      · refine V_aload_n (dX8_toldNow 14 rfl) 29 rfl 0 rfl ?_
        refine V_get gf_M_30 0 rfl rfl (dX8_toldNow 15 rfl) 32 rfl ?_
        exact V_iret rfl (dX8_toldNow 16 rfl) ⟨rfl, rfl⟩
      · refine V_aload_n (dX8_toldNow 11 rfl) 22 rfl 0 rfl ?_
        refine V_get gf_M_27 0 rfl rfl (dX8_toldNow 12 rfl) 25 rfl ?_
        refine V_goto (dX8_toldNow 13 rfl) 32 (by decide) ?_
        exact V_iret rfl (dX8_toldNow 16 rfl) ⟨rfl, rfl⟩
    · refine V_aload_n (dX8_toldNow 5 rfl) 10 rfl 0 rfl ?_
      refine V_get gf_M_17 0 rfl rfl (dX8_toldNow 6 rfl) 13 rfl ?_
      refine V_goto (dX8_toldNow 7 rfl) 32 (by decide) ?_
      exact V_iret rfl (dX8_toldNow 16 rfl) ⟨rfl, rfl⟩)
set_option maxRecDepth 20000 in
theorem kX8_told {E : EX} {l : Launch} (hl : l.stackTraces = false) (q1 q4 : Nat) (i3 : Int32) (v5 : Value) (i6 i7 i8 i9 i10 i11 : Int32) (f12 : Nat → Int32) (i2 : Int32) : Ct E l mX8_told [.ref q1, .int i2] [(q1, .inr (9, [.int i3, .ref q4, v5, .int i6, .int i7, .int i8, .int i9, .int i10, .int i11])), (q4, .inl (E.2.1, 81, .inl f12))] (fX8_told i3 i6 i7 f12 i2) (zX8_told E q1 q4 i3 v5 i6 i7 i8 i9 i10 f12) := Ct_of hl mf_X8_told.1 (Nat.le_of_ble_eq_true rfl) (fun K hs => by
  refine V_less 0 0 (Nat.le_refl _) (Nat.le_refl _) ?_
  refine V_pick [0, 1] [(0, .ref q1), (1, .int i2)] rfl ?_
  unfold fX8_told
  refine V_aload_n (dX8_told 0 rfl) 1 rfl 0 rfl ?_
  refine V_iload_n (dX8_told 1 rfl) 2 rfl 1 rfl ?_
  refine V_jn (fun (k13 : Int32 → Option (Int32 × Int32)) => ∀ (i17 : Int32), V E K mX8_told (Qm E K mX8_told (zX8_told E q1 q4 i3 v5 i6 i7 i8 i9 i10 f12)) 0 0 [(q1, .inr (9, [.int i3, .ref q4, v5, .int i6, .int i7, .int i8, .int i9, .int i10, .int i11])), (q4, .inl (E.2.1, 81, .inl f12))] 15 [(0, .ref q1), (1, .int i2)] [.int i17, .ref q1] (k13 i17)) ?_ ?_
  · intro i17
    show V E K mX8_told (Qm E K mX8_told (zX8_told E q1 q4 i3 v5 i6 i7 i8 i9 i10 f12)) 0 0 [(q1, .inr (9, [.int i3, .ref q4, v5, .int i6, .int i7, .int i8, .int i9, .int i10, .int i11])), (q4, .inl (E.2.1, 81, .inl f12))] 15 [(0, .ref q1), (1, .int i2)] [.int i17, .ref q1] _
    refine V_callV (M := mX8_told) (wcs := [(q1, .inr (9, [.int i3, .ref q4, v5, .int i6, .int i7, .int i8, .int i9, .int i10, .int i11]))]) (wr := [(q4, .inl (E.2.1, 81, .inl f12))]) mf_X8_isThrown_ tw_1283 tw_1285 tw_27 ⟨Nat.le_of_ble_eq_true rfl, Nat.le_of_ble_eq_true rfl⟩ (dX8_told 9 rfl) 18 rfl (kX8_isThrown_ hs q1 i3 (.ref q4) v5 i6 i7 i8 i9 i10 i11 i17) rfl [0] [1] (q0 := 0) rfl rfl rfl rfl (by decide) rfl rfl rfl rfl (Nat.le_of_ble_eq_true rfl) 0 0 (show 0 + 0 ≤ 0 from Nat.le_of_ble_eq_true rfl) (show 0 + 0 ≤ 0 from Nat.le_of_ble_eq_true rfl) (fun z18 v w hz => ?_)
    obtain ⟨rfl, rfl⟩ := hz
    show V E K mX8_told (Qm E K mX8_told (zX8_told E q1 q4 i3 v5 i6 i7 i8 i9 i10 f12)) 0 0 [(q4, .inl (E.2.1, 81, .inl f12)), (q1, .inr (9, [.int i3, .ref q4, v5, .int i6, .int i7, .int i8, .int i9, .int i10, .int z18.2]))] 18 [(0, .ref q1), (1, .int i2)] [.int z18.1] _
    refine V_if_eq (dX8_told 10 rfl) 25 (by decide) 21 rfl ?_ ?_
    · refine V_aload_n (dX8_told 13 rfl) 26 rfl 0 rfl ?_
      refine V_iload_n (dX8_told 14 rfl) 27 rfl 1 rfl ?_
      refine V_callV (M := mX8_told) (wcs := [(q1, .inr (9, [.int i3, .ref q4, v5, .int i6, .int i7, .int i8, .int i9, .int i10, .int z18.2])), (q4, .inl (E.2.1, 81, .inl f12))]) (wr := []) mf_X8_toldNow tw_1434 tw_1436 tw_47 ⟨Nat.le_of_ble_eq_true rfl, Nat.le_of_ble_eq_true rfl⟩ (dX8_told 15 rfl) 30 rfl (kX8_toldNow hs q1 q4 i3 v5 i6 i7 i8 i9 i10 z18.2 f12 i2) rfl [1, 0] [] (q0 := 0) rfl rfl rfl rfl (by decide) rfl rfl rfl rfl (Nat.le_of_ble_eq_true rfl) 0 0 (show 0 + 0 ≤ 0 from Nat.le_of_ble_eq_true rfl) (show 0 + 0 ≤ 0 from Nat.le_of_ble_eq_true rfl) (fun z19 v w hz => ?_)
      obtain ⟨rfl, rfl⟩ := hz
      show V E K mX8_told (Qm E K mX8_told (zX8_told E q1 q4 i3 v5 i6 i7 i8 i9 i10 f12)) 0 0 [(q1, .inr (9, [.int i3, .ref q4, v5, .int i6, .int i7, .int i8, .int i9, .int i10, .int z18.2])), (q4, .inl (E.2.1, 81, .inl f12))] 30 [(0, .ref q1), (1, .int i2)] [.int z19] _
      exact V_iret rfl (dX8_told 16 rfl) ⟨rfl, rfl⟩
    · refine V_iconst (0 : Int32) (by decide) (dX8_told 11 rfl) 22 rfl ?_
      refine V_goto (dX8_told 12 rfl) 30 (by decide) ?_
      refine V_world [1, 0] [(q1, .inr (9, [.int i3, .ref q4, v5, .int i6, .int i7, .int i8, .int i9, .int i10, .int z18.2])), (q4, .inl (E.2.1, 81, .inl f12))] rfl rfl rfl ?_
      exact V_iret rfl (dX8_told 16 rfl) ⟨rfl, rfl⟩
  · intro k13 hk14
    refine V_jn (fun (k15 : Unit → Option (Int32 × Int32)) => ∀ (_ : Unit), V E K mX8_told (Qm E K mX8_told (zX8_told E q1 q4 i3 v5 i6 i7 i8 i9 i10 f12)) 0 0 [(q1, .inr (9, [.int i3, .ref q4, v5, .int i6, .int i7, .int i8, .int i9, .int i10, .int i11])), (q4, .inl (E.2.1, 81, .inl f12))] 10 [(0, .ref q1), (1, .int i2)] [.ref q1] (k15 ())) ?_ ?_
    · intro _
      show V E K mX8_told (Qm E K mX8_told (zX8_told E q1 q4 i3 v5 i6 i7 i8 i9 i10 f12)) 0 0 [(q1, .inr (9, [.int i3, .ref q4, v5, .int i6, .int i7, .int i8, .int i9, .int i10, .int i11])), (q4, .inl (E.2.1, 81, .inl f12))] 10 [(0, .ref q1), (1, .int i2)] [.ref q1] _
      refine V_iconst (1 : Int32) (by decide) (dX8_told 6 rfl) 11 rfl ?_
      refine V_goto (dX8_told 7 rfl) 15 (by decide) ?_
      exact hk14 (1 : Int32)
    · intro k15 hk16
      refine V_if_lt (dX8_told 2 rfl) 10 (by decide) 5 rfl ?_ ?_
      · exact hk16 ()
      · refine V_iload_n (dX8_told 3 rfl) 6 rfl 1 rfl ?_
        refine V_iconst (4 : Int32) (by decide) (dX8_told 4 rfl) 7 rfl ?_
        refine V_icmp_le (dX8_told 5 rfl) 14 (by decide) 10 rfl ?_ ?_
        · refine V_iconst (0 : Int32) (by decide) (dX8_told 8 rfl) 15 rfl ?_
          exact hk14 (0 : Int32)
        · exact hk16 ())
set_option maxRecDepth 20000 in
theorem kX8_pairNow {E : EX} {l : Launch} (hl : l.stackTraces = false) (q1 q6 q7 : Nat) (i5 i8 i9 i10 i11 i12 i13 : Int32) (f14 f15 : Nat → Int32) (i2 i3 i4 : Int32) : Ct E l mX8_pairNow [.ref q1, .int i2, .int i3, .int i4] [(q1, .inr (9, [.int i5, .ref q6, .ref q7, .int i8, .int i9, .int i10, .int i11, .int i12, .int i13])), (q6, .inl (E.2.1, 81, .inl f14)), (q7, .inl (E.2.1, 81, .inl f15))] (fX8_pairNow f14 f15 i2 i3 i4) (zX8_pairNow E q1 q6 q7 i5 i8 i9 i10 i11 i12 i13 f14 f15) := Ct_of hl mf_X8_pairNow.1 (Nat.le_of_ble_eq_true rfl) (fun K hs => by
  refine V_less 0 0 (Nat.le_refl _) (Nat.le_refl _) ?_
  refine V_pick [0, 1, 2, 3] [(0, .ref q1), (1, .int i2), (2, .int i3), (3, .int i4)] rfl ?_
  unfold fX8_pairNow
  refine V_iload_n (dX8_pairNow 0 rfl) 1 rfl 1 rfl ?_
  refine V_iload_n (dX8_pairNow 1 rfl) 2 rfl 2 rfl ?_
  refine V_icmp_ne (dX8_pairNow 2 rfl) 9 (by decide) 5 rfl ?_ ?_
  · refine V_iload_n (dX8_pairNow 5 rfl) 10 rfl 3 rfl ?_
    refine V_if_ne (dX8_pairNow 6 rfl) 22 (by decide) 13 rfl ?_ ?_
    · refine V_iload_n (dX8_pairNow 12 rfl) 23 rfl 3 rfl ?_
      refine V_iconst (1 : Int32) (by decide) (dX8_pairNow 13 rfl) 24 rfl ?_
      refine V_icmp_ne (dX8_pairNow 14 rfl) 36 (by decide) 27 rfl ?_ ?_
      · refine V_aload_n (dX8_pairNow 20 rfl) 37 rfl 0 rfl ?_
        refine V_iload_n (dX8_pairNow 21 rfl) 38 rfl 1 rfl ?_
        refine V_iload_n (dX8_pairNow 22 rfl) 39 rfl 2 rfl ?_
        refine V_callV (M := mX8_pairNow) (wcs := [(q1, .inr (9, [.int i5, .ref q6, .ref q7, .int i8, .int i9, .int i10, .int i11, .int i12, .int i13])), (q6, .inl (E.2.1, 81, .inl f14)), (q7, .inl (E.2.1, 81, .inl f15))]) (wr := []) mf_X8_left tw_1388 tw_1390 tw_42 ⟨Nat.le_of_ble_eq_true rfl, Nat.le_of_ble_eq_true rfl⟩ (dX8_pairNow 23 rfl) 42 rfl (kX8_left hs q1 q6 q7 i5 i8 i9 i10 i11 i12 i13 f14 f15 i2 i3) rfl [0, 1, 2] [] (q0 := 0) rfl rfl rfl rfl (by decide) rfl rfl rfl rfl (Nat.le_of_ble_eq_true rfl) 0 0 (show 0 + 0 ≤ 0 from Nat.le_of_ble_eq_true rfl) (show 0 + 0 ≤ 0 from Nat.le_of_ble_eq_true rfl) (fun z16 v w hz => ?_)
        obtain ⟨rfl, rfl⟩ := hz
        show V E K mX8_pairNow (Qm E K mX8_pairNow (zX8_pairNow E q1 q6 q7 i5 i8 i9 i10 i11 i12 i13 f14 f15)) 0 0 [(q1, .inr (9, [.int i5, .ref q6, .ref q7, .int i8, .int i9, .int i10, .int i11, .int i12, .int i13])), (q6, .inl (E.2.1, 81, .inl f14)), (q7, .inl (E.2.1, 81, .inl f15))] 42 [(0, .ref q1), (1, .int i2), (2, .int i3), (3, .int i4)] [.int z16] _
        exact V_iret rfl (dX8_pairNow 24 rfl) ⟨rfl, rfl⟩
      · refine V_aload_n (dX8_pairNow 15 rfl) 28 rfl 0 rfl ?_
        refine V_iload_n (dX8_pairNow 16 rfl) 29 rfl 1 rfl ?_
        refine V_iload_n (dX8_pairNow 17 rfl) 30 rfl 2 rfl ?_
        refine V_callV (M := mX8_pairNow) (wcs := [(q1, .inr (9, [.int i5, .ref q6, .ref q7, .int i8, .int i9, .int i10, .int i11, .int i12, .int i13])), (q7, .inl (E.2.1, 81, .inl f15))]) (wr := [(q6, .inl (E.2.1, 81, .inl f14))]) mf_X8_flow tw_1322 tw_1324 tw_34 ⟨Nat.le_of_ble_eq_true rfl, Nat.le_of_ble_eq_true rfl⟩ (dX8_pairNow 18 rfl) 33 rfl (kX8_flow hs q1 q7 i5 (.ref q6) i8 i9 i10 i11 i12 i13 f15 i2 i3) rfl [0, 2] [1] (q0 := 0) rfl rfl rfl rfl (by decide) rfl rfl rfl rfl (Nat.le_of_ble_eq_true rfl) 0 0 (show 0 + 0 ≤ 0 from Nat.le_of_ble_eq_true rfl) (show 0 + 0 ≤ 0 from Nat.le_of_ble_eq_true rfl) (fun z17 v w hz => ?_)
        obtain ⟨rfl, rfl⟩ := hz
        show V E K mX8_pairNow (Qm E K mX8_pairNow (zX8_pairNow E q1 q6 q7 i5 i8 i9 i10 i11 i12 i13 f14 f15)) 0 0 [(q6, .inl (E.2.1, 81, .inl f14)), (q1, .inr (9, [.int i5, .ref q6, .ref q7, .int i8, .int i9, .int i10, .int i11, .int i12, .int i13])), (q7, .inl (E.2.1, 81, .inl f15))] 33 [(0, .ref q1), (1, .int i2), (2, .int i3), (3, .int i4)] [.int z17] _
        refine V_goto (dX8_pairNow 19 rfl) 42 (by decide) ?_
        refine V_world [1, 0, 2] [(q1, .inr (9, [.int i5, .ref q6, .ref q7, .int i8, .int i9, .int i10, .int i11, .int i12, .int i13])), (q6, .inl (E.2.1, 81, .inl f14)), (q7, .inl (E.2.1, 81, .inl f15))] rfl rfl rfl ?_
        exact V_iret rfl (dX8_pairNow 24 rfl) ⟨rfl, rfl⟩
    · refine V_aload_n (dX8_pairNow 7 rfl) 14 rfl 0 rfl ?_
      refine V_iload_n (dX8_pairNow 8 rfl) 15 rfl 1 rfl ?_
      refine V_iload_n (dX8_pairNow 9 rfl) 16 rfl 2 rfl ?_
      refine V_callV (M := mX8_pairNow) (wcs := [(q1, .inr (9, [.int i5, .ref q6, .ref q7, .int i8, .int i9, .int i10, .int i11, .int i12, .int i13])), (q6, .inl (E.2.1, 81, .inl f14))]) (wr := [(q7, .inl (E.2.1, 81, .inl f15))]) mf_X8_room tw_1330 tw_1332 tw_36 ⟨Nat.le_of_ble_eq_true rfl, Nat.le_of_ble_eq_true rfl⟩ (dX8_pairNow 10 rfl) 19 rfl (kX8_room hs q1 q6 i5 (.ref q7) i8 i9 i10 i11 i12 i13 f14 i2 i3) rfl [0, 1] [2] (q0 := 0) rfl rfl rfl rfl (by decide) rfl rfl rfl rfl (Nat.le_of_ble_eq_true rfl) 0 0 (show 0 + 0 ≤ 0 from Nat.le_of_ble_eq_true rfl) (show 0 + 0 ≤ 0 from Nat.le_of_ble_eq_true rfl) (fun z18 v w hz => ?_)
      obtain ⟨rfl, rfl⟩ := hz
      show V E K mX8_pairNow (Qm E K mX8_pairNow (zX8_pairNow E q1 q6 q7 i5 i8 i9 i10 i11 i12 i13 f14 f15)) 0 0 [(q7, .inl (E.2.1, 81, .inl f15)), (q1, .inr (9, [.int i5, .ref q6, .ref q7, .int i8, .int i9, .int i10, .int i11, .int i12, .int i13])), (q6, .inl (E.2.1, 81, .inl f14))] 19 [(0, .ref q1), (1, .int i2), (2, .int i3), (3, .int i4)] [.int z18] _
      refine V_goto (dX8_pairNow 11 rfl) 42 (by decide) ?_
      refine V_world [1, 2, 0] [(q1, .inr (9, [.int i5, .ref q6, .ref q7, .int i8, .int i9, .int i10, .int i11, .int i12, .int i13])), (q6, .inl (E.2.1, 81, .inl f14)), (q7, .inl (E.2.1, 81, .inl f15))] rfl rfl rfl ?_
      exact V_iret rfl (dX8_pairNow 24 rfl) ⟨rfl, rfl⟩
  · refine V_iconst (0 : Int32) (by decide) (dX8_pairNow 3 rfl) 6 rfl ?_
    refine V_goto (dX8_pairNow 4 rfl) 42 (by decide) ?_
    exact V_iret rfl (dX8_pairNow 24 rfl) ⟨rfl, rfl⟩)
set_option maxRecDepth 20000 in
theorem kX8_pair {E : EX} {l : Launch} (hl : l.stackTraces = false) (q1 q6 q7 : Nat) (i5 i8 i9 i10 i11 i12 i13 : Int32) (f14 f15 : Nat → Int32) (i2 i3 i4 : Int32) : Ct E l mX8_pair [.ref q1, .int i2, .int i3, .int i4] [(q1, .inr (9, [.int i5, .ref q6, .ref q7, .int i8, .int i9, .int i10, .int i11, .int i12, .int i13])), (q6, .inl (E.2.1, 81, .inl f14)), (q7, .inl (E.2.1, 81, .inl f15))] (fX8_pair i5 f14 f15 i2 i3 i4) (zX8_pair E q1 q6 q7 i5 i8 i9 i10 i11 i12 f14 f15) := Ct_of hl mf_X8_pair.1 (Nat.le_of_ble_eq_true rfl) (fun K hs => by
  refine V_less 0 0 (Nat.le_refl _) (Nat.le_refl _) ?_
  refine V_pick [0, 1, 2, 3] [(0, .ref q1), (1, .int i2), (2, .int i3), (3, .int i4)] rfl ?_
  unfold fX8_pair
  refine V_aload_n (dX8_pair 0 rfl) 1 rfl 0 rfl ?_
  refine V_aload_n (dX8_pair 1 rfl) 2 rfl 0 rfl ?_
  refine V_iload_n (dX8_pair 2 rfl) 3 rfl 1 rfl ?_
  refine V_callV (M := mX8_pair) (wcs := [(q1, .inr (9, [.int i5, .ref q6, .ref q7, .int i8, .int i9, .int i10, .int i11, .int i12, .int i13]))]) (wr := [(q6, .inl (E.2.1, 81, .inl f14)), (q7, .inl (E.2.1, 81, .inl f15))]) mf_X8_isPlace tw_1299 tw_1301 tw_30 ⟨Nat.le_of_ble_eq_true rfl, Nat.le_of_ble_eq_true rfl⟩ (dX8_pair 3 rfl) 6 rfl (kX8_isPlace hs q1 i5 (.ref q6) (.ref q7) i8 i9 i10 i11 i12 i13 i2) rfl [0] [1, 2] (q0 := 0) rfl rfl rfl rfl (by decide) rfl rfl rfl rfl (Nat.le_of_ble_eq_true rfl) 0 0 (show 0 + 0 ≤ 0 from Nat.le_of_ble_eq_true rfl) (show 0 + 0 ≤ 0 from Nat.le_of_ble_eq_true rfl) (fun z16 v w hz => ?_)
  obtain ⟨rfl, rfl⟩ := hz
  show V E K mX8_pair (Qm E K mX8_pair (zX8_pair E q1 q6 q7 i5 i8 i9 i10 i11 i12 f14 f15)) 0 0 [(q6, .inl (E.2.1, 81, .inl f14)), (q7, .inl (E.2.1, 81, .inl f15)), (q1, .inr (9, [.int i5, .ref q6, .ref q7, .int i8, .int i9, .int i10, .int i11, .int i12, .int i13]))] 6 [(0, .ref q1), (1, .int i2), (2, .int i3), (3, .int i4)] [.int z16, .ref q1] _
  refine V_jn (fun (k17 : Int32 → Option (Int32 × Int32)) => ∀ (i22 : Int32), V E K mX8_pair (Qm E K mX8_pair (zX8_pair E q1 q6 q7 i5 i8 i9 i10 i11 i12 f14 f15)) 0 0 [(q1, .inr (9, [.int i5, .ref q6, .ref q7, .int i8, .int i9, .int i10, .int i11, .int i12, .int i13])), (q6, .inl (E.2.1, 81, .inl f14)), (q7, .inl (E.2.1, 81, .inl f15))] 22 [(0, .ref q1), (1, .int i2), (2, .int i3), (3, .int i4)] [.int i22, .ref q1] (k17 i22)) ?_ ?_
  · intro i22
    show V E K mX8_pair (Qm E K mX8_pair (zX8_pair E q1 q6 q7 i5 i8 i9 i10 i11 i12 f14 f15)) 0 0 [(q1, .inr (9, [.int i5, .ref q6, .ref q7, .int i8, .int i9, .int i10, .int i11, .int i12, .int i13])), (q6, .inl (E.2.1, 81, .inl f14)), (q7, .inl (E.2.1, 81, .inl f15))] 22 [(0, .ref q1), (1, .int i2), (2, .int i3), (3, .int i4)] [.int i22, .ref q1] _
    refine V_iload_n (dX8_pair 12 rfl) 23 rfl 3 rfl ?_
    refine V_jn (fun (k23 : Int32 → Option (Int32 × Int32)) => ∀ (i27 : Int32), V E K mX8_pair (Qm E K mX8_pair (zX8_pair E q1 q6 q7 i5 i8 i9 i10 i11 i12 f14 f15)) 0 0 [(q1, .inr (9, [.int i5, .ref q6, .ref q7, .int i8, .int i9, .int i10, .int i11, .int i12, .int i13])), (q6, .inl (E.2.1, 81, .inl f14)), (q7, .inl (E.2.1, 81, .inl f15))] 36 [(0, .ref q1), (1, .int i2), (2, .int i3), (3, .int i4)] [.int i27, .int i22, .ref q1] (k23 i27)) ?_ ?_
    · intro i27
      show V E K mX8_pair (Qm E K mX8_pair (zX8_pair E q1 q6 q7 i5 i8 i9 i10 i11 i12 f14 f15)) 0 0 [(q1, .inr (9, [.int i5, .ref q6, .ref q7, .int i8, .int i9, .int i10, .int i11, .int i12, .int i13])), (q6, .inl (E.2.1, 81, .inl f14)), (q7, .inl (E.2.1, 81, .inl f15))] 36 [(0, .ref q1), (1, .int i2), (2, .int i3), (3, .int i4)] [.int i27, .int i22, .ref q1] _
      refine V_callV (M := mX8_pair) (wcs := [(q1, .inr (9, [.int i5, .ref q6, .ref q7, .int i8, .int i9, .int i10, .int i11, .int i12, .int i13]))]) (wr := [(q6, .inl (E.2.1, 81, .inl f14)), (q7, .inl (E.2.1, 81, .inl f15))]) mf_X8_isThrown tw_1287 tw_1289 tw_28 ⟨Nat.le_of_ble_eq_true rfl, Nat.le_of_ble_eq_true rfl⟩ (dX8_pair 20 rfl) 39 rfl (kX8_isThrown hs q1 i5 (.ref q6) (.ref q7) i8 i9 i10 i11 i12 i13 i22 i27) rfl [0] [1, 2] (q0 := 0) rfl rfl rfl rfl (by decide) rfl rfl rfl rfl (Nat.le_of_ble_eq_true rfl) 0 0 (show 0 + 0 ≤ 0 from Nat.le_of_ble_eq_true rfl) (show 0 + 0 ≤ 0 from Nat.le_of_ble_eq_true rfl) (fun z28 v w hz => ?_)
      obtain ⟨rfl, rfl⟩ := hz
      show V E K mX8_pair (Qm E K mX8_pair (zX8_pair E q1 q6 q7 i5 i8 i9 i10 i11 i12 f14 f15)) 0 0 [(q6, .inl (E.2.1, 81, .inl f14)), (q7, .inl (E.2.1, 81, .inl f15)), (q1, .inr (9, [.int i5, .ref q6, .ref q7, .int i8, .int i9, .int i10, .int i11, .int i12, .int z28.2]))] 39 [(0, .ref q1), (1, .int i2), (2, .int i3), (3, .int i4)] [.int z28.1] _
      refine V_if_eq (dX8_pair 21 rfl) 46 (by decide) 42 rfl ?_ ?_
      · refine V_aload_n (dX8_pair 24 rfl) 47 rfl 0 rfl ?_
        refine V_iload_n (dX8_pair 25 rfl) 48 rfl 1 rfl ?_
        refine V_iload_n (dX8_pair 26 rfl) 49 rfl 2 rfl ?_
        refine V_iload_n (dX8_pair 27 rfl) 50 rfl 3 rfl ?_
        refine V_callV (M := mX8_pair) (wcs := [(q1, .inr (9, [.int i5, .ref q6, .ref q7, .int i8, .int i9, .int i10, .int i11, .int i12, .int z28.2])), (q6, .inl (E.2.1, 81, .inl f14)), (q7, .inl (E.2.1, 81, .inl f15))]) (wr := []) mf_X8_pairNow tw_1442 tw_1444 tw_48 ⟨Nat.le_of_ble_eq_true rfl, Nat.le_of_ble_eq_true rfl⟩ (dX8_pair 28 rfl) 53 rfl (kX8_pairNow hs q1 q6 q7 i5 i8 i9 i10 i11 i12 z28.2 f14 f15 i2 i3 i4) rfl [2, 0, 1] [] (q0 := 0) rfl rfl rfl rfl (by decide) rfl rfl rfl rfl (Nat.le_of_ble_eq_true rfl) 0 0 (show 0 + 0 ≤ 0 from Nat.le_of_ble_eq_true rfl) (show 0 + 0 ≤ 0 from Nat.le_of_ble_eq_true rfl) (fun z29 v w hz => ?_)
        obtain ⟨rfl, rfl⟩ := hz
        show V E K mX8_pair (Qm E K mX8_pair (zX8_pair E q1 q6 q7 i5 i8 i9 i10 i11 i12 f14 f15)) 0 0 [(q1, .inr (9, [.int i5, .ref q6, .ref q7, .int i8, .int i9, .int i10, .int i11, .int i12, .int z28.2])), (q6, .inl (E.2.1, 81, .inl f14)), (q7, .inl (E.2.1, 81, .inl f15))] 53 [(0, .ref q1), (1, .int i2), (2, .int i3), (3, .int i4)] [.int z29] _
        exact V_iret rfl (dX8_pair 29 rfl) ⟨rfl, rfl⟩
      · refine V_iconst (0 : Int32) (by decide) (dX8_pair 22 rfl) 43 rfl ?_
        refine V_goto (dX8_pair 23 rfl) 53 (by decide) ?_
        refine V_world [2, 0, 1] [(q1, .inr (9, [.int i5, .ref q6, .ref q7, .int i8, .int i9, .int i10, .int i11, .int i12, .int z28.2])), (q6, .inl (E.2.1, 81, .inl f14)), (q7, .inl (E.2.1, 81, .inl f15))] rfl rfl rfl ?_
        exact V_iret rfl (dX8_pair 29 rfl) ⟨rfl, rfl⟩
    · intro k23 hk24
      refine V_jn (fun (k25 : Unit → Option (Int32 × Int32)) => ∀ (_ : Unit), V E K mX8_pair (Qm E K mX8_pair (zX8_pair E q1 q6 q7 i5 i8 i9 i10 i11 i12 f14 f15)) 0 0 [(q1, .inr (9, [.int i5, .ref q6, .ref q7, .int i8, .int i9, .int i10, .int i11, .int i12, .int i13])), (q6, .inl (E.2.1, 81, .inl f14)), (q7, .inl (E.2.1, 81, .inl f15))] 31 [(0, .ref q1), (1, .int i2), (2, .int i3), (3, .int i4)] [.int i22, .ref q1] (k25 ())) ?_ ?_
      · intro _
        show V E K mX8_pair (Qm E K mX8_pair (zX8_pair E q1 q6 q7 i5 i8 i9 i10 i11 i12 f14 f15)) 0 0 [(q1, .inr (9, [.int i5, .ref q6, .ref q7, .int i8, .int i9, .int i10, .int i11, .int i12, .int i13])), (q6, .inl (E.2.1, 81, .inl f14)), (q7, .inl (E.2.1, 81, .inl f15))] 31 [(0, .ref q1), (1, .int i2), (2, .int i3), (3, .int i4)] [.int i22, .ref q1] _
        refine V_iconst (1 : Int32) (by decide) (dX8_pair 17 rfl) 32 rfl ?_
        refine V_goto (dX8_pair 18 rfl) 36 (by decide) ?_
        exact hk24 (1 : Int32)
      · intro k25 hk26
        refine V_if_lt (dX8_pair 13 rfl) 31 (by decide) 26 rfl ?_ ?_
        · exact hk26 ()
        · refine V_iload_n (dX8_pair 14 rfl) 27 rfl 3 rfl ?_
          refine V_iconst (2 : Int32) (by decide) (dX8_pair 15 rfl) 28 rfl ?_
          refine V_icmp_le (dX8_pair 16 rfl) 35 (by decide) 31 rfl ?_ ?_
          · refine V_iconst (0 : Int32) (by decide) (dX8_pair 19 rfl) 36 rfl ?_
            exact hk24 (0 : Int32)
          · exact hk26 ()
  · intro k17 hk18
    refine V_jn (fun (k19 : Unit → Option (Int32 × Int32)) => ∀ (_ : Unit), V E K mX8_pair (Qm E K mX8_pair (zX8_pair E q1 q6 q7 i5 i8 i9 i10 i11 i12 f14 f15)) 0 0 [(q1, .inr (9, [.int i5, .ref q6, .ref q7, .int i8, .int i9, .int i10, .int i11, .int i12, .int i13])), (q6, .inl (E.2.1, 81, .inl f14)), (q7, .inl (E.2.1, 81, .inl f15))] 17 [(0, .ref q1), (1, .int i2), (2, .int i3), (3, .int i4)] [.ref q1] (k19 ())) ?_ ?_
    · intro _
      show V E K mX8_pair (Qm E K mX8_pair (zX8_pair E q1 q6 q7 i5 i8 i9 i10 i11 i12 f14 f15)) 0 0 [(q1, .inr (9, [.int i5, .ref q6, .ref q7, .int i8, .int i9, .int i10, .int i11, .int i12, .int i13])), (q6, .inl (E.2.1, 81, .inl f14)), (q7, .inl (E.2.1, 81, .inl f15))] 17 [(0, .ref q1), (1, .int i2), (2, .int i3), (3, .int i4)] [.ref q1] _
      refine V_iconst (1 : Int32) (by decide) (dX8_pair 9 rfl) 18 rfl ?_
      refine V_goto (dX8_pair 10 rfl) 22 (by decide) ?_
      exact hk18 (1 : Int32)
    · intro k19 hk20
      refine V_if_eq (dX8_pair 4 rfl) 17 (by decide) 9 rfl ?_ ?_
      · refine V_world [2, 0, 1] [(q1, .inr (9, [.int i5, .ref q6, .ref q7, .int i8, .int i9, .int i10, .int i11, .int i12, .int i13])), (q6, .inl (E.2.1, 81, .inl f14)), (q7, .inl (E.2.1, 81, .inl f15))] rfl rfl rfl ?_
        exact hk20 ()
      · refine V_aload_n (dX8_pair 5 rfl) 10 rfl 0 rfl ?_
        refine V_iload_n (dX8_pair 6 rfl) 11 rfl 2 rfl ?_
        refine V_callV (M := mX8_pair) (wcs := [(q1, .inr (9, [.int i5, .ref q6, .ref q7, .int i8, .int i9, .int i10, .int i11, .int i12, .int i13]))]) (wr := [(q6, .inl (E.2.1, 81, .inl f14)), (q7, .inl (E.2.1, 81, .inl f15))]) mf_X8_isPlace tw_1299 tw_1301 tw_30 ⟨Nat.le_of_ble_eq_true rfl, Nat.le_of_ble_eq_true rfl⟩ (dX8_pair 7 rfl) 14 rfl (kX8_isPlace hs q1 i5 (.ref q6) (.ref q7) i8 i9 i10 i11 i12 i13 i3) rfl [2] [0, 1] (q0 := 0) rfl rfl rfl rfl (by decide) rfl rfl rfl rfl (Nat.le_of_ble_eq_true rfl) 0 0 (show 0 + 0 ≤ 0 from Nat.le_of_ble_eq_true rfl) (show 0 + 0 ≤ 0 from Nat.le_of_ble_eq_true rfl) (fun z21 v w hz => ?_)
        obtain ⟨rfl, rfl⟩ := hz
        show V E K mX8_pair (Qm E K mX8_pair (zX8_pair E q1 q6 q7 i5 i8 i9 i10 i11 i12 f14 f15)) 0 0 [(q6, .inl (E.2.1, 81, .inl f14)), (q7, .inl (E.2.1, 81, .inl f15)), (q1, .inr (9, [.int i5, .ref q6, .ref q7, .int i8, .int i9, .int i10, .int i11, .int i12, .int i13]))] 14 [(0, .ref q1), (1, .int i2), (2, .int i3), (3, .int i4)] [.int z21, .ref q1] _
        refine V_if_ne (dX8_pair 8 rfl) 21 (by decide) 17 rfl ?_ ?_
        · refine V_iconst (0 : Int32) (by decide) (dX8_pair 11 rfl) 22 rfl ?_
          refine V_world [2, 0, 1] [(q1, .inr (9, [.int i5, .ref q6, .ref q7, .int i8, .int i9, .int i10, .int i11, .int i12, .int i13])), (q6, .inl (E.2.1, 81, .inl f14)), (q7, .inl (E.2.1, 81, .inl f15))] rfl rfl rfl ?_
          exact hk18 (0 : Int32)
        · refine V_world [2, 0, 1] [(q1, .inr (9, [.int i5, .ref q6, .ref q7, .int i8, .int i9, .int i10, .int i11, .int i12, .int i13])), (q6, .inl (E.2.1, 81, .inl f14)), (q7, .inl (E.2.1, 81, .inl f15))] rfl rfl rfl ?_
          exact hk20 ())
set_option maxRecDepth 20000 in
theorem vBX8_ofPlaceNow_L5 {E : EX} {K : KX} (hs : K.l.stackTraces = false) (q1 q5 q6 : Nat) (i4 i7 i8 i9 i10 i11 i12 : Int32) (f13 f14 : Nat → Int32) (i2 i3 : Int32) (bc bs : Nat) (i38 i39 : Int32) {rec : Int32 → Int32 → Option (Int32)}  (hrec : ∀ (i38 i39 : Int32), V E K mX8_ofPlaceNow (Qm E K mX8_ofPlaceNow (zX8_ofPlaceNow E q1 q5 q6 i4 i7 i8 i9 i10 i11 i12 f13 f14)) (bc) (bs) [(q1, .inr (9, [.int i4, .ref q5, .ref q6, .int i7, .int i8, .int i9, .int i10, .int i11, .int i12])), (q5, .inl (E.2.1, 81, .inl f13)), (q6, .inl (E.2.1, 81, .inl f14))] 5 [(0, .ref q1), (1, .int i2), (2, .int i3), (3, .int i38), (4, .int i39)] [] (rec i38 i39))  : V E K mX8_ofPlaceNow (Qm E K mX8_ofPlaceNow (zX8_ofPlaceNow E q1 q5 q6 i4 i7 i8 i9 i10 i11 i12 f13 f14)) (bc) (bs) [(q1, .inr (9, [.int i4, .ref q5, .ref q6, .int i7, .int i8, .int i9, .int i10, .int i11, .int i12])), (q5, .inl (E.2.1, 81, .inl f13)), (q6, .inl (E.2.1, 81, .inl f14))] 5 [(0, .ref q1), (1, .int i2), (2, .int i3), (3, .int i38), (4, .int i39)] [] (BX8_ofPlaceNow_L5  i4 f13 f14 i2 i3 i38 i39 rec ) := by
  unfold BX8_ofPlaceNow_L5
  refine V_iload (dX8_ofPlaceNow 4 rfl) 7 rfl 4 rfl ?_
  refine V_aload_n (dX8_ofPlaceNow 5 rfl) 8 rfl 0 rfl ?_
  refine V_get gf_M_17 0 rfl rfl (dX8_ofPlaceNow 6 rfl) 11 rfl ?_
  refine V_icmp_ge (dX8_ofPlaceNow 7 rfl) 78 (by decide) 14 rfl ?_ ?_
  · refine V_iload_n (dX8_ofPlaceNow 42 rfl) 79 rfl 3 rfl ?_
    exact V_iret rfl (dX8_ofPlaceNow 43 rfl) ⟨rfl, rfl⟩
  · refine V_iload_n (dX8_ofPlaceNow 8 rfl) 15 rfl 3 rfl ?_
    refine V_iload_n (dX8_ofPlaceNow 9 rfl) 16 rfl 2 rfl ?_
    refine V_jn (fun (k40 : Int32 → Option (Int32)) => ∀ (i46 : Int32), V E K mX8_ofPlaceNow (Qm E K mX8_ofPlaceNow (zX8_ofPlaceNow E q1 q5 q6 i4 i7 i8 i9 i10 i11 i12 f13 f14)) (bc) (bs) [(q1, .inr (9, [.int i4, .ref q5, .ref q6, .int i7, .int i8, .int i9, .int i10, .int i11, .int i12])), (q5, .inl (E.2.1, 81, .inl f13)), (q6, .inl (E.2.1, 81, .inl f14))] 70 [(0, .ref q1), (1, .int i2), (2, .int i3), (4, .int i39)] [.int i46, .int i38] (k40 i46)) ?_ ?_
    · intro i46
      show V E K mX8_ofPlaceNow (Qm E K mX8_ofPlaceNow (zX8_ofPlaceNow E q1 q5 q6 i4 i7 i8 i9 i10 i11 i12 f13 f14)) (bc) (bs) [(q1, .inr (9, [.int i4, .ref q5, .ref q6, .int i7, .int i8, .int i9, .int i10, .int i11, .int i12])), (q5, .inl (E.2.1, 81, .inl f13)), (q6, .inl (E.2.1, 81, .inl f14))] 70 [(0, .ref q1), (1, .int i2), (2, .int i3), (4, .int i39)] [.int i46, .int i38] _
      refine V_iadd (dX8_ofPlaceNow 38 rfl) 71 rfl ?_
      refine V_nmI (fun i47 => ?_)
      refine V_istore_n (dX8_ofPlaceNow 39 rfl) 72 rfl [(0, .ref q1), (1, .int i2), (2, .int i3), (3, .int i47), (4, .int i39)] (Nat.le_of_ble_eq_true rfl) rfl ?_
      refine V_iinc (dX8_ofPlaceNow 40 rfl) 75 rfl 4 rfl (i39 + (1 : Int32)) rfl [(0, .ref q1), (1, .int i2), (2, .int i3), (3, .int i47), (4, .int (i39 + (1 : Int32)))] (Nat.le_of_ble_eq_true rfl) rfl ?_
      refine V_goto (dX8_ofPlaceNow 41 rfl) 5 (by decide) ?_
      exact hrec i47 (i39 + (1 : Int32))
    · intro k40 hk41
      refine V_if_ne (dX8_ofPlaceNow 10 rfl) 29 (by decide) 19 rfl ?_ ?_
      · refine V_iload_n (dX8_ofPlaceNow 16 rfl) 30 rfl 2 rfl ?_
        refine V_iconst (1 : Int32) (by decide) (dX8_ofPlaceNow 17 rfl) 31 rfl ?_
        refine V_icmp_ne (dX8_ofPlaceNow 18 rfl) 44 (by decide) 34 rfl ?_ ?_
        · refine V_iload_n (dX8_ofPlaceNow 24 rfl) 45 rfl 2 rfl ?_
          refine V_iconst (2 : Int32) (by decide) (dX8_ofPlaceNow 25 rfl) 46 rfl ?_
          refine V_icmp_ne (dX8_ofPlaceNow 26 rfl) 59 (by decide) 49 rfl ?_ ?_
          · refine V_iconst (0 : Int32) (by decide) (dX8_ofPlaceNow 32 rfl) 60 rfl ?_
            refine V_aload_n (dX8_ofPlaceNow 33 rfl) 61 rfl 0 rfl ?_
            refine V_iload_n (dX8_ofPlaceNow 34 rfl) 62 rfl 1 rfl ?_
            refine V_iload (dX8_ofPlaceNow 35 rfl) 64 rfl 4 rfl ?_
            refine V_callV (M := mX8_ofPlaceNow) (wcs := [(q1, .inr (9, [.int i4, .ref q5, .ref q6, .int i7, .int i8, .int i9, .int i10, .int i11, .int i12])), (q6, .inl (E.2.1, 81, .inl f14))]) (wr := [(q5, .inl (E.2.1, 81, .inl f13))]) mf_X8_flow tw_1322 tw_1324 tw_34 ⟨Nat.le_of_ble_eq_true rfl, Nat.le_of_ble_eq_true rfl⟩ (dX8_ofPlaceNow 36 rfl) 67 rfl (kX8_flow hs q1 q6 i4 (.ref q5) i7 i8 i9 i10 i11 i12 f14 i2 i39) rfl [0, 2] [1] (q0 := 0) rfl rfl rfl rfl (by decide) rfl rfl rfl rfl (Nat.le_of_ble_eq_true rfl) (bc) (bs) (show (bc) + 0 ≤ (bc) by omega) (show (bs) + 0 ≤ (bs) by omega) (fun z42 v w hz => ?_)
            obtain ⟨rfl, rfl⟩ := hz
            show V E K mX8_ofPlaceNow (Qm E K mX8_ofPlaceNow (zX8_ofPlaceNow E q1 q5 q6 i4 i7 i8 i9 i10 i11 i12 f13 f14)) (bc) (bs) [(q5, .inl (E.2.1, 81, .inl f13)), (q1, .inr (9, [.int i4, .ref q5, .ref q6, .int i7, .int i8, .int i9, .int i10, .int i11, .int i12])), (q6, .inl (E.2.1, 81, .inl f14))] 67 [(0, .ref q1), (1, .int i2), (2, .int i3), (3, .int i38), (4, .int i39)] [.int z42, .int (0 : Int32), .int i38] _
            refine V_mmax tw_1346 tw_612 tw_82 tw_613 (Nat.le_of_ble_eq_true rfl) (Nat.le_of_ble_eq_true rfl) (dX8_ofPlaceNow 37 rfl) 70 rfl ?_
            refine V_world [1, 0, 2] [(q1, .inr (9, [.int i4, .ref q5, .ref q6, .int i7, .int i8, .int i9, .int i10, .int i11, .int i12])), (q5, .inl (E.2.1, 81, .inl f13)), (q6, .inl (E.2.1, 81, .inl f14))] rfl rfl rfl ?_
            refine V_pick [0, 1, 2, 4] [(0, .ref q1), (1, .int i2), (2, .int i3), (4, .int i39)] rfl ?_
            exact hk41 (if (0 : Int32) < z42 then z42 else (0 : Int32))
          · refine V_aload_n (dX8_ofPlaceNow 27 rfl) 50 rfl 0 rfl ?_
            refine V_iload_n (dX8_ofPlaceNow 28 rfl) 51 rfl 1 rfl ?_
            refine V_iload (dX8_ofPlaceNow 29 rfl) 53 rfl 4 rfl ?_
            refine V_callV (M := mX8_ofPlaceNow) (wcs := [(q1, .inr (9, [.int i4, .ref q5, .ref q6, .int i7, .int i8, .int i9, .int i10, .int i11, .int i12])), (q6, .inl (E.2.1, 81, .inl f14))]) (wr := [(q5, .inl (E.2.1, 81, .inl f13))]) mf_X8_flow tw_1322 tw_1324 tw_34 ⟨Nat.le_of_ble_eq_true rfl, Nat.le_of_ble_eq_true rfl⟩ (dX8_ofPlaceNow 30 rfl) 56 rfl (kX8_flow hs q1 q6 i4 (.ref q5) i7 i8 i9 i10 i11 i12 f14 i2 i39) rfl [0, 2] [1] (q0 := 0) rfl rfl rfl rfl (by decide) rfl rfl rfl rfl (Nat.le_of_ble_eq_true rfl) (bc) (bs) (show (bc) + 0 ≤ (bc) by omega) (show (bs) + 0 ≤ (bs) by omega) (fun z43 v w hz => ?_)
            obtain ⟨rfl, rfl⟩ := hz
            show V E K mX8_ofPlaceNow (Qm E K mX8_ofPlaceNow (zX8_ofPlaceNow E q1 q5 q6 i4 i7 i8 i9 i10 i11 i12 f13 f14)) (bc) (bs) [(q5, .inl (E.2.1, 81, .inl f13)), (q1, .inr (9, [.int i4, .ref q5, .ref q6, .int i7, .int i8, .int i9, .int i10, .int i11, .int i12])), (q6, .inl (E.2.1, 81, .inl f14))] 56 [(0, .ref q1), (1, .int i2), (2, .int i3), (3, .int i38), (4, .int i39)] [.int z43, .int i38] _
            refine V_goto (dX8_ofPlaceNow 31 rfl) 70 (by decide) ?_
            refine V_world [1, 0, 2] [(q1, .inr (9, [.int i4, .ref q5, .ref q6, .int i7, .int i8, .int i9, .int i10, .int i11, .int i12])), (q5, .inl (E.2.1, 81, .inl f13)), (q6, .inl (E.2.1, 81, .inl f14))] rfl rfl rfl ?_
            refine V_pick [0, 1, 2, 4] [(0, .ref q1), (1, .int i2), (2, .int i3), (4, .int i39)] rfl ?_
            exact hk41 z43
        · refine V_aload_n (dX8_ofPlaceNow 19 rfl) 35 rfl 0 rfl ?_
          refine V_iload (dX8_ofPlaceNow 20 rfl) 37 rfl 4 rfl ?_
          refine V_iload_n (dX8_ofPlaceNow 21 rfl) 38 rfl 1 rfl ?_
          refine V_callV (M := mX8_ofPlaceNow) (wcs := [(q1, .inr (9, [.int i4, .ref q5, .ref q6, .int i7, .int i8, .int i9, .int i10, .int i11, .int i12])), (q5, .inl (E.2.1, 81, .inl f13))]) (wr := [(q6, .inl (E.2.1, 81, .inl f14))]) mf_X8_room tw_1330 tw_1332 tw_36 ⟨Nat.le_of_ble_eq_true rfl, Nat.le_of_ble_eq_true rfl⟩ (dX8_ofPlaceNow 22 rfl) 41 rfl (kX8_room hs q1 q5 i4 (.ref q6) i7 i8 i9 i10 i11 i12 f13 i39 i2) rfl [0, 1] [2] (q0 := 0) rfl rfl rfl rfl (by decide) rfl rfl rfl rfl (Nat.le_of_ble_eq_true rfl) (bc) (bs) (show (bc) + 0 ≤ (bc) by omega) (show (bs) + 0 ≤ (bs) by omega) (fun z44 v w hz => ?_)
          obtain ⟨rfl, rfl⟩ := hz
          show V E K mX8_ofPlaceNow (Qm E K mX8_ofPlaceNow (zX8_ofPlaceNow E q1 q5 q6 i4 i7 i8 i9 i10 i11 i12 f13 f14)) (bc) (bs) [(q6, .inl (E.2.1, 81, .inl f14)), (q1, .inr (9, [.int i4, .ref q5, .ref q6, .int i7, .int i8, .int i9, .int i10, .int i11, .int i12])), (q5, .inl (E.2.1, 81, .inl f13))] 41 [(0, .ref q1), (1, .int i2), (2, .int i3), (3, .int i38), (4, .int i39)] [.int z44, .int i38] _
          refine V_goto (dX8_ofPlaceNow 23 rfl) 70 (by decide) ?_
          refine V_world [1, 2, 0] [(q1, .inr (9, [.int i4, .ref q5, .ref q6, .int i7, .int i8, .int i9, .int i10, .int i11, .int i12])), (q5, .inl (E.2.1, 81, .inl f13)), (q6, .inl (E.2.1, 81, .inl f14))] rfl rfl rfl ?_
          refine V_pick [0, 1, 2, 4] [(0, .ref q1), (1, .int i2), (2, .int i3), (4, .int i39)] rfl ?_
          exact hk41 z44
      · refine V_aload_n (dX8_ofPlaceNow 11 rfl) 20 rfl 0 rfl ?_
        refine V_iload_n (dX8_ofPlaceNow 12 rfl) 21 rfl 1 rfl ?_
        refine V_iload (dX8_ofPlaceNow 13 rfl) 23 rfl 4 rfl ?_
        refine V_callV (M := mX8_ofPlaceNow) (wcs := [(q1, .inr (9, [.int i4, .ref q5, .ref q6, .int i7, .int i8, .int i9, .int i10, .int i11, .int i12])), (q5, .inl (E.2.1, 81, .inl f13))]) (wr := [(q6, .inl (E.2.1, 81, .inl f14))]) mf_X8_room tw_1330 tw_1332 tw_36 ⟨Nat.le_of_ble_eq_true rfl, Nat.le_of_ble_eq_true rfl⟩ (dX8_ofPlaceNow 14 rfl) 26 rfl (kX8_room hs q1 q5 i4 (.ref q6) i7 i8 i9 i10 i11 i12 f13 i2 i39) rfl [0, 1] [2] (q0 := 0) rfl rfl rfl rfl (by decide) rfl rfl rfl rfl (Nat.le_of_ble_eq_true rfl) (bc) (bs) (show (bc) + 0 ≤ (bc) by omega) (show (bs) + 0 ≤ (bs) by omega) (fun z45 v w hz => ?_)
        obtain ⟨rfl, rfl⟩ := hz
        show V E K mX8_ofPlaceNow (Qm E K mX8_ofPlaceNow (zX8_ofPlaceNow E q1 q5 q6 i4 i7 i8 i9 i10 i11 i12 f13 f14)) (bc) (bs) [(q6, .inl (E.2.1, 81, .inl f14)), (q1, .inr (9, [.int i4, .ref q5, .ref q6, .int i7, .int i8, .int i9, .int i10, .int i11, .int i12])), (q5, .inl (E.2.1, 81, .inl f13))] 26 [(0, .ref q1), (1, .int i2), (2, .int i3), (3, .int i38), (4, .int i39)] [.int z45, .int i38] _
        refine V_goto (dX8_ofPlaceNow 15 rfl) 70 (by decide) ?_
        refine V_world [1, 2, 0] [(q1, .inr (9, [.int i4, .ref q5, .ref q6, .int i7, .int i8, .int i9, .int i10, .int i11, .int i12])), (q5, .inl (E.2.1, 81, .inl f13)), (q6, .inl (E.2.1, 81, .inl f14))] rfl rfl rfl ?_
        refine V_pick [0, 1, 2, 4] [(0, .ref q1), (1, .int i2), (2, .int i3), (4, .int i39)] rfl ?_
        exact hk41 z45
set_option maxRecDepth 20000 in
theorem vLX8_ofPlaceNow_L5 {E : EX} {K : KX} (hs : K.l.stackTraces = false) (q1 q5 q6 : Nat) (i4 i7 i8 i9 i10 i11 i12 : Int32) (f13 f14 : Nat → Int32) (i2 i3 : Int32) (bc bs : Nat)   : ∀ (n : Nat) (i38 i39 : Int32), V E K mX8_ofPlaceNow (Qm E K mX8_ofPlaceNow (zX8_ofPlaceNow E q1 q5 q6 i4 i7 i8 i9 i10 i11 i12 f13 f14)) (bc) (bs) [(q1, .inr (9, [.int i4, .ref q5, .ref q6, .int i7, .int i8, .int i9, .int i10, .int i11, .int i12])), (q5, .inl (E.2.1, 81, .inl f13)), (q6, .inl (E.2.1, 81, .inl f14))] 5 [(0, .ref q1), (1, .int i2), (2, .int i3), (3, .int i38), (4, .int i39)] [] (LX8_ofPlaceNow_L5  i4 f13 f14 i2 i3 n i38 i39 )
  | 0, _, _ => V_none
  | n + 1, i38, i39 => vBX8_ofPlaceNow_L5 hs q1 q5 q6 i4 i7 i8 i9 i10 i11 i12 f13 f14 i2 i3 bc bs i38 i39 (fun i38 i39 => vLX8_ofPlaceNow_L5 hs q1 q5 q6 i4 i7 i8 i9 i10 i11 i12 f13 f14 i2 i3 bc bs  n i38 i39) 
set_option maxRecDepth 20000 in
theorem kX8_ofPlaceNow {E : EX} {l : Launch} (hl : l.stackTraces = false) (q1 q5 q6 : Nat) (i4 i7 i8 i9 i10 i11 i12 : Int32) (f13 f14 : Nat → Int32) (i2 i3 : Int32) : Ct E l mX8_ofPlaceNow [.ref q1, .int i2, .int i3] [(q1, .inr (9, [.int i4, .ref q5, .ref q6, .int i7, .int i8, .int i9, .int i10, .int i11, .int i12])), (q5, .inl (E.2.1, 81, .inl f13)), (q6, .inl (E.2.1, 81, .inl f14))] (fX8_ofPlaceNow i4 f13 f14 i2 i3) (zX8_ofPlaceNow E q1 q5 q6 i4 i7 i8 i9 i10 i11 i12 f13 f14) := Ct_of hl mf_X8_ofPlaceNow.1 (Nat.le_of_ble_eq_true rfl) (fun K hs => by
  refine V_less 0 0 (Nat.le_refl _) (Nat.le_refl _) ?_
  refine V_pick [0, 1, 2] [(0, .ref q1), (1, .int i2), (2, .int i3)] rfl ?_
  unfold fX8_ofPlaceNow
  refine V_iconst (0 : Int32) (by decide) (dX8_ofPlaceNow 0 rfl) 1 rfl ?_
  refine V_istore_n (dX8_ofPlaceNow 1 rfl) 2 rfl [(0, .ref q1), (1, .int i2), (2, .int i3), (3, .int (0 : Int32))] (Nat.le_of_ble_eq_true rfl) rfl ?_
  refine V_iconst (0 : Int32) (by decide) (dX8_ofPlaceNow 2 rfl) 3 rfl ?_
  refine V_istore (dX8_ofPlaceNow 3 rfl) 5 rfl [(0, .ref q1), (1, .int i2), (2, .int i3), (3, .int (0 : Int32)), (4, .int (0 : Int32))] (Nat.le_of_ble_eq_true rfl) rfl ?_
  refine vLX8_ofPlaceNow_L5 hs q1 q5 q6 i4 i7 i8 i9 i10 i11 i12 f13 f14 i2 i3 0 0  600 (0 : Int32) (0 : Int32))
set_option maxRecDepth 20000 in
theorem kX8_ofPlace {E : EX} {l : Launch} (hl : l.stackTraces = false) (q1 q5 q6 : Nat) (i4 i7 i8 i9 i10 i11 i12 : Int32) (f13 f14 : Nat → Int32) (i2 i3 : Int32) : Ct E l mX8_ofPlace [.ref q1, .int i2, .int i3] [(q1, .inr (9, [.int i4, .ref q5, .ref q6, .int i7, .int i8, .int i9, .int i10, .int i11, .int i12])), (q5, .inl (E.2.1, 81, .inl f13)), (q6, .inl (E.2.1, 81, .inl f14))] (fX8_ofPlace i4 f13 f14 i2 i3) (zX8_ofPlace E q1 q5 q6 i4 i7 i8 i9 i10 i11 f13 f14) := Ct_of hl mf_X8_ofPlace.1 (Nat.le_of_ble_eq_true rfl) (fun K hs => by
  refine V_less 0 0 (Nat.le_refl _) (Nat.le_refl _) ?_
  refine V_pick [0, 1, 2] [(0, .ref q1), (1, .int i2), (2, .int i3)] rfl ?_
  unfold fX8_ofPlace
  refine V_aload_n (dX8_ofPlace 0 rfl) 1 rfl 0 rfl ?_
  refine V_aload_n (dX8_ofPlace 1 rfl) 2 rfl 0 rfl ?_
  refine V_iload_n (dX8_ofPlace 2 rfl) 3 rfl 1 rfl ?_
  refine V_callV (M := mX8_ofPlace) (wcs := [(q1, .inr (9, [.int i4, .ref q5, .ref q6, .int i7, .int i8, .int i9, .int i10, .int i11, .int i12]))]) (wr := [(q5, .inl (E.2.1, 81, .inl f13)), (q6, .inl (E.2.1, 81, .inl f14))]) mf_X8_isPlace tw_1299 tw_1301 tw_30 ⟨Nat.le_of_ble_eq_true rfl, Nat.le_of_ble_eq_true rfl⟩ (dX8_ofPlace 3 rfl) 6 rfl (kX8_isPlace hs q1 i4 (.ref q5) (.ref q6) i7 i8 i9 i10 i11 i12 i2) rfl [0] [1, 2] (q0 := 0) rfl rfl rfl rfl (by decide) rfl rfl rfl rfl (Nat.le_of_ble_eq_true rfl) 0 0 (show 0 + 0 ≤ 0 from Nat.le_of_ble_eq_true rfl) (show 0 + 0 ≤ 0 from Nat.le_of_ble_eq_true rfl) (fun z15 v w hz => ?_)
  obtain ⟨rfl, rfl⟩ := hz
  show V E K mX8_ofPlace (Qm E K mX8_ofPlace (zX8_ofPlace E q1 q5 q6 i4 i7 i8 i9 i10 i11 f13 f14)) 0 0 [(q5, .inl (E.2.1, 81, .inl f13)), (q6, .inl (E.2.1, 81, .inl f14)), (q1, .inr (9, [.int i4, .ref q5, .ref q6, .int i7, .int i8, .int i9, .int i10, .int i11, .int i12]))] 6 [(0, .ref q1), (1, .int i2), (2, .int i3)] [.int z15, .ref q1] _
  refine V_jn (fun (k16 : Int32 → Option (Int32 × Int32)) => ∀ (i18 : Int32), V E K mX8_ofPlace (Qm E K mX8_ofPlace (zX8_ofPlace E q1 q5 q6 i4 i7 i8 i9 i10 i11 f13 f14)) 0 0 [(q1, .inr (9, [.int i4, .ref q5, .ref q6, .int i7, .int i8, .int i9, .int i10, .int i11, .int i12])), (q5, .inl (E.2.1, 81, .inl f13)), (q6, .inl (E.2.1, 81, .inl f14))] 14 [(0, .ref q1), (1, .int i2), (2, .int i3)] [.int i18, .ref q1] (k16 i18)) ?_ ?_
  · intro i18
    show V E K mX8_ofPlace (Qm E K mX8_ofPlace (zX8_ofPlace E q1 q5 q6 i4 i7 i8 i9 i10 i11 f13 f14)) 0 0 [(q1, .inr (9, [.int i4, .ref q5, .ref q6, .int i7, .int i8, .int i9, .int i10, .int i11, .int i12])), (q5, .inl (E.2.1, 81, .inl f13)), (q6, .inl (E.2.1, 81, .inl f14))] 14 [(0, .ref q1), (1, .int i2), (2, .int i3)] [.int i18, .ref q1] _
    refine V_iload_n (dX8_ofPlace 8 rfl) 15 rfl 2 rfl ?_
    refine V_jn (fun (k19 : Int32 → Option (Int32 × Int32)) => ∀ (i23 : Int32), V E K mX8_ofPlace (Qm E K mX8_ofPlace (zX8_ofPlace E q1 q5 q6 i4 i7 i8 i9 i10 i11 f13 f14)) 0 0 [(q1, .inr (9, [.int i4, .ref q5, .ref q6, .int i7, .int i8, .int i9, .int i10, .int i11, .int i12])), (q5, .inl (E.2.1, 81, .inl f13)), (q6, .inl (E.2.1, 81, .inl f14))] 28 [(0, .ref q1), (1, .int i2), (2, .int i3)] [.int i23, .int i18, .ref q1] (k19 i23)) ?_ ?_
    · intro i23
      show V E K mX8_ofPlace (Qm E K mX8_ofPlace (zX8_ofPlace E q1 q5 q6 i4 i7 i8 i9 i10 i11 f13 f14)) 0 0 [(q1, .inr (9, [.int i4, .ref q5, .ref q6, .int i7, .int i8, .int i9, .int i10, .int i11, .int i12])), (q5, .inl (E.2.1, 81, .inl f13)), (q6, .inl (E.2.1, 81, .inl f14))] 28 [(0, .ref q1), (1, .int i2), (2, .int i3)] [.int i23, .int i18, .ref q1] _
      refine V_callV (M := mX8_ofPlace) (wcs := [(q1, .inr (9, [.int i4, .ref q5, .ref q6, .int i7, .int i8, .int i9, .int i10, .int i11, .int i12]))]) (wr := [(q5, .inl (E.2.1, 81, .inl f13)), (q6, .inl (E.2.1, 81, .inl f14))]) mf_X8_isThrown tw_1287 tw_1289 tw_28 ⟨Nat.le_of_ble_eq_true rfl, Nat.le_of_ble_eq_true rfl⟩ (dX8_ofPlace 16 rfl) 31 rfl (kX8_isThrown hs q1 i4 (.ref q5) (.ref q6) i7 i8 i9 i10 i11 i12 i18 i23) rfl [0] [1, 2] (q0 := 0) rfl rfl rfl rfl (by decide) rfl rfl rfl rfl (Nat.le_of_ble_eq_true rfl) 0 0 (show 0 + 0 ≤ 0 from Nat.le_of_ble_eq_true rfl) (show 0 + 0 ≤ 0 from Nat.le_of_ble_eq_true rfl) (fun z24 v w hz => ?_)
      obtain ⟨rfl, rfl⟩ := hz
      show V E K mX8_ofPlace (Qm E K mX8_ofPlace (zX8_ofPlace E q1 q5 q6 i4 i7 i8 i9 i10 i11 f13 f14)) 0 0 [(q5, .inl (E.2.1, 81, .inl f13)), (q6, .inl (E.2.1, 81, .inl f14)), (q1, .inr (9, [.int i4, .ref q5, .ref q6, .int i7, .int i8, .int i9, .int i10, .int i11, .int z24.2]))] 31 [(0, .ref q1), (1, .int i2), (2, .int i3)] [.int z24.1] _
      refine V_if_eq (dX8_ofPlace 17 rfl) 38 (by decide) 34 rfl ?_ ?_
      · refine V_aload_n (dX8_ofPlace 20 rfl) 39 rfl 0 rfl ?_
        refine V_iload_n (dX8_ofPlace 21 rfl) 40 rfl 1 rfl ?_
        refine V_iload_n (dX8_ofPlace 22 rfl) 41 rfl 2 rfl ?_
        refine V_callV (M := mX8_ofPlace) (wcs := [(q1, .inr (9, [.int i4, .ref q5, .ref q6, .int i7, .int i8, .int i9, .int i10, .int i11, .int z24.2])), (q5, .inl (E.2.1, 81, .inl f13)), (q6, .inl (E.2.1, 81, .inl f14))]) (wr := []) mf_X8_ofPlaceNow tw_1450 tw_1452 tw_49 ⟨Nat.le_of_ble_eq_true rfl, Nat.le_of_ble_eq_true rfl⟩ (dX8_ofPlace 23 rfl) 44 rfl (kX8_ofPlaceNow hs q1 q5 q6 i4 i7 i8 i9 i10 i11 z24.2 f13 f14 i2 i3) rfl [2, 0, 1] [] (q0 := 0) rfl rfl rfl rfl (by decide) rfl rfl rfl rfl (Nat.le_of_ble_eq_true rfl) 0 0 (show 0 + 0 ≤ 0 from Nat.le_of_ble_eq_true rfl) (show 0 + 0 ≤ 0 from Nat.le_of_ble_eq_true rfl) (fun z25 v w hz => ?_)
        obtain ⟨rfl, rfl⟩ := hz
        show V E K mX8_ofPlace (Qm E K mX8_ofPlace (zX8_ofPlace E q1 q5 q6 i4 i7 i8 i9 i10 i11 f13 f14)) 0 0 [(q1, .inr (9, [.int i4, .ref q5, .ref q6, .int i7, .int i8, .int i9, .int i10, .int i11, .int z24.2])), (q5, .inl (E.2.1, 81, .inl f13)), (q6, .inl (E.2.1, 81, .inl f14))] 44 [(0, .ref q1), (1, .int i2), (2, .int i3)] [.int z25] _
        exact V_iret rfl (dX8_ofPlace 24 rfl) ⟨rfl, rfl⟩
      · refine V_iconst (0 : Int32) (by decide) (dX8_ofPlace 18 rfl) 35 rfl ?_
        refine V_goto (dX8_ofPlace 19 rfl) 44 (by decide) ?_
        refine V_world [2, 0, 1] [(q1, .inr (9, [.int i4, .ref q5, .ref q6, .int i7, .int i8, .int i9, .int i10, .int i11, .int z24.2])), (q5, .inl (E.2.1, 81, .inl f13)), (q6, .inl (E.2.1, 81, .inl f14))] rfl rfl rfl ?_
        exact V_iret rfl (dX8_ofPlace 24 rfl) ⟨rfl, rfl⟩
    · intro k19 hk20
      refine V_jn (fun (k21 : Unit → Option (Int32 × Int32)) => ∀ (_ : Unit), V E K mX8_ofPlace (Qm E K mX8_ofPlace (zX8_ofPlace E q1 q5 q6 i4 i7 i8 i9 i10 i11 f13 f14)) 0 0 [(q1, .inr (9, [.int i4, .ref q5, .ref q6, .int i7, .int i8, .int i9, .int i10, .int i11, .int i12])), (q5, .inl (E.2.1, 81, .inl f13)), (q6, .inl (E.2.1, 81, .inl f14))] 23 [(0, .ref q1), (1, .int i2), (2, .int i3)] [.int i18, .ref q1] (k21 ())) ?_ ?_
      · intro _
        show V E K mX8_ofPlace (Qm E K mX8_ofPlace (zX8_ofPlace E q1 q5 q6 i4 i7 i8 i9 i10 i11 f13 f14)) 0 0 [(q1, .inr (9, [.int i4, .ref q5, .ref q6, .int i7, .int i8, .int i9, .int i10, .int i11, .int i12])), (q5, .inl (E.2.1, 81, .inl f13)), (q6, .inl (E.2.1, 81, .inl f14))] 23 [(0, .ref q1), (1, .int i2), (2, .int i3)] [.int i18, .ref q1] _
        refine V_iconst (1 : Int32) (by decide) (dX8_ofPlace 13 rfl) 24 rfl ?_
        refine V_goto (dX8_ofPlace 14 rfl) 28 (by decide) ?_
        exact hk20 (1 : Int32)
      · intro k21 hk22
        refine V_if_lt (dX8_ofPlace 9 rfl) 23 (by decide) 18 rfl ?_ ?_
        · exact hk22 ()
        · refine V_iload_n (dX8_ofPlace 10 rfl) 19 rfl 2 rfl ?_
          refine V_iconst (3 : Int32) (by decide) (dX8_ofPlace 11 rfl) 20 rfl ?_
          refine V_icmp_le (dX8_ofPlace 12 rfl) 27 (by decide) 23 rfl ?_ ?_
          · refine V_iconst (0 : Int32) (by decide) (dX8_ofPlace 15 rfl) 28 rfl ?_
            exact hk20 (0 : Int32)
          · exact hk22 ()
  · intro k16 hk17
    refine V_if_ne (dX8_ofPlace 4 rfl) 13 (by decide) 9 rfl ?_ ?_
    · refine V_iconst (0 : Int32) (by decide) (dX8_ofPlace 7 rfl) 14 rfl ?_
      refine V_world [2, 0, 1] [(q1, .inr (9, [.int i4, .ref q5, .ref q6, .int i7, .int i8, .int i9, .int i10, .int i11, .int i12])), (q5, .inl (E.2.1, 81, .inl f13)), (q6, .inl (E.2.1, 81, .inl f14))] rfl rfl rfl ?_
      exact hk17 (0 : Int32)
    · refine V_iconst (1 : Int32) (by decide) (dX8_ofPlace 5 rfl) 10 rfl ?_
      refine V_goto (dX8_ofPlace 6 rfl) 14 (by decide) ?_
      refine V_world [2, 0, 1] [(q1, .inr (9, [.int i4, .ref q5, .ref q6, .int i7, .int i8, .int i9, .int i10, .int i11, .int i12])), (q5, .inl (E.2.1, 81, .inl f13)), (q6, .inl (E.2.1, 81, .inl f14))] rfl rfl rfl ?_
      exact hk17 (1 : Int32))
set_option maxRecDepth 20000 in
theorem vBX8_rowText_L11 {E : EX} {K : KX} (hs : K.l.stackTraces = false) (q1 q2 q14 : Nat) (i4 : Int32) (v5 v6 : Value) (i7 i8 i9 i10 i11 i12 : Int32) (f13 : Nat → Int32) (i3 : Int32) (bc bs : Nat) (q53 : Nat) (i52 i54 : Int32) (n55 : Nat) (f56 : Nat → Int32) {rec : Int32 → Int32 → Nat → (Nat → Int32) → Option (Nat × (Nat → Int32))} {k1 : Int32 → Nat → (Nat → Int32) → Option (Nat × (Nat → Int32))} (hrec : ∀ (q53 : Nat) (i52 i54 : Int32) (n55 : Nat) (f56 : Nat → Int32), V E K mX8_rowText (Qm E K mX8_rowText (zX8_rowText E q1 q2 i4 v5 v6 i7 i8 i9 i10 i11 i12 f13)) (bc + ((2400 - n55) / 16)) (bs + 2 * (2400 - n55)) [(q1, .inr (9, [.int i4, v5, v6, .int i7, .int i8, .int i9, .int i10, .int i11, .int i12])), (q2, .inl (E.2.1, 81, .inl f13)), (q14, .inr (6, [.ref q53, .int cZ, .int (0 : Int32), .int i54])), (q53, .inl (E.2.2.1, n55, .inl f56))] 11 [(0, .ref q1), (1, .ref q2), (2, .int i3), (3, .ref q14), (4, .int i52)] [] (rec i52 i54 n55 f56)) (hk1 : ∀ (q75 : Nat) (i76 : Int32) (n77 : Nat) (f78 : Nat → Int32), V E K mX8_rowText (Qm E K mX8_rowText (zX8_rowText E q1 q2 i4 v5 v6 i7 i8 i9 i10 i11 i12 f13)) (bc + ((2400 - n77) / 16)) (bs + 2 * (2400 - n77)) [(q1, .inr (9, [.int i4, v5, v6, .int i7, .int i8, .int i9, .int i10, .int i11, .int i12])), (q2, .inl (E.2.1, 81, .inl f13)), (q14, .inr (6, [.ref q75, .int cZ, .int (0 : Int32), .int i76])), (q75, .inl (E.2.2.1, n77, .inl f78))] 79 [(3, .ref q14)] [] (k1 i76 n77 f78)) : V E K mX8_rowText (Qm E K mX8_rowText (zX8_rowText E q1 q2 i4 v5 v6 i7 i8 i9 i10 i11 i12 f13)) (bc + ((2400 - n55) / 16)) (bs + 2 * (2400 - n55)) [(q1, .inr (9, [.int i4, v5, v6, .int i7, .int i8, .int i9, .int i10, .int i11, .int i12])), (q2, .inl (E.2.1, 81, .inl f13)), (q14, .inr (6, [.ref q53, .int cZ, .int (0 : Int32), .int i54])), (q53, .inl (E.2.2.1, n55, .inl f56))] 11 [(0, .ref q1), (1, .ref q2), (2, .int i3), (3, .ref q14), (4, .int i52)] [] (BX8_rowText_L11  i4 f13 i3 i52 i54 n55 f56 rec k1) := by
  unfold BX8_rowText_L11
  refine V_iload (dX8_rowText 6 rfl) 13 rfl 4 rfl ?_
  refine V_aload_n (dX8_rowText 7 rfl) 14 rfl 0 rfl ?_
  refine V_get gf_M_17 0 rfl rfl (dX8_rowText 8 rfl) 17 rfl ?_
  refine V_icmp_ge (dX8_rowText 9 rfl) 79 (by decide) 20 rfl ?_ ?_
  · refine V_pick [3] [(3, .ref q14)] rfl ?_
    exact hk1 q53 i54 n55 f56
  · refine V_aload_n (dX8_rowText 10 rfl) 21 rfl 1 rfl ?_
    refine V_iload_n (dX8_rowText 11 rfl) 22 rfl 2 rfl ?_
    refine V_bipush (9 : Int32) (by decide) (dX8_rowText 12 rfl) 24 rfl ?_
    refine V_imul (dX8_rowText 13 rfl) 25 rfl ?_
    refine V_iload (dX8_rowText 14 rfl) 27 rfl 4 rfl ?_
    refine V_iadd (dX8_rowText 15 rfl) 28 rfl ?_
    refine V_iald 1 rfl (dX8_rowText 16 rfl) 29 rfl ?_
    refine V_jn (fun (k57 : Int32 → Nat → (Nat → Int32) → Option (Nat × (Nat → Int32))) => ∀ (q71 : Nat) (i72 : Int32) (n73 : Nat) (f74 : Nat → Int32), V E K mX8_rowText (Qm E K mX8_rowText (zX8_rowText E q1 q2 i4 v5 v6 i7 i8 i9 i10 i11 i12 f13)) (bc + ((2400 - n73) / 16)) (bs + 2 * (2400 - n73)) [(q1, .inr (9, [.int i4, v5, v6, .int i7, .int i8, .int i9, .int i10, .int i11, .int i12])), (q2, .inl (E.2.1, 81, .inl f13)), (q14, .inr (6, [.ref q71, .int cZ, .int (0 : Int32), .int i72])), (q71, .inl (E.2.2.1, n73, .inl f74))] 73 [(0, .ref q1), (1, .ref q2), (2, .int i3), (3, .ref q14), (4, .int i52)] [] (k57 i72 n73 f74)) ?_ ?_
    · intro q71 i72 n73 f74
      show V E K mX8_rowText (Qm E K mX8_rowText (zX8_rowText E q1 q2 i4 v5 v6 i7 i8 i9 i10 i11 i12 f13)) (bc + ((2400 - n73) / 16)) (bs + 2 * (2400 - n73)) [(q1, .inr (9, [.int i4, v5, v6, .int i7, .int i8, .int i9, .int i10, .int i11, .int i12])), (q2, .inl (E.2.1, 81, .inl f13)), (q14, .inr (6, [.ref q71, .int cZ, .int (0 : Int32), .int i72])), (q71, .inl (E.2.2.1, n73, .inl f74))] 73 [(0, .ref q1), (1, .ref q2), (2, .int i3), (3, .ref q14), (4, .int i52)] [] _
      refine V_iinc (dX8_rowText 39 rfl) 76 rfl 4 rfl (i52 + (1 : Int32)) rfl [(0, .ref q1), (1, .ref q2), (2, .int i3), (3, .ref q14), (4, .int (i52 + (1 : Int32)))] (Nat.le_of_ble_eq_true rfl) rfl ?_
      refine V_goto (dX8_rowText 40 rfl) 11 (by decide) ?_
      exact hrec q71 (i52 + (1 : Int32)) i72 n73 f74
    · intro k57 hk58
      refine V_if_le (dX8_rowText 17 rfl) 73 (by decide) 32 rfl ?_ ?_
      · exact hk58 q53 i54 n55 f56
      · refine V_aload_n (dX8_rowText 18 rfl) 33 rfl 3 rfl ?_
        refine V_aload_n (dX8_rowText 19 rfl) 34 rfl 3 rfl ?_
        refine V_callV (M := mX8_rowText) (wcs := [(q14, .inr (6, [.ref q53, .int cZ, .int (0 : Int32), .int i54]))]) (wr := [(q1, .inr (9, [.int i4, v5, v6, .int i7, .int i8, .int i9, .int i10, .int i11, .int i12])), (q2, .inl (E.2.1, 81, .inl f13)), (q53, .inl (E.2.2.1, n55, .inl f56))]) mf_J4_length_8abf5 tw_1465 tw_754 tw_1633 ⟨Nat.le_of_ble_eq_true rfl, Nat.le_of_ble_eq_true rfl⟩ (dX8_rowText 20 rfl) 37 rfl (kJ4_length_8abf5 hs q14 (.ref q53) (0 : Int32) i54) rfl [2] [0, 1, 3] (q0 := 0) rfl rfl rfl rfl (by decide) rfl rfl rfl rfl (Nat.le_of_ble_eq_true rfl) (bc + ((2400 - n55) / 16)) (bs + 2 * (2400 - n55)) (show (bc + ((2400 - n55) / 16)) + 0 ≤ (bc + ((2400 - n55) / 16)) by omega) (show (bs + 2 * (2400 - n55)) + 0 ≤ (bs + 2 * (2400 - n55)) by omega) (fun z59 v w hz => ?_)
        obtain ⟨rfl, rfl⟩ := hz
        show V E K mX8_rowText (Qm E K mX8_rowText (zX8_rowText E q1 q2 i4 v5 v6 i7 i8 i9 i10 i11 i12 f13)) (bc + ((2400 - n55) / 16)) (bs + 2 * (2400 - n55)) [(q1, .inr (9, [.int i4, v5, v6, .int i7, .int i8, .int i9, .int i10, .int i11, .int i12])), (q2, .inl (E.2.1, 81, .inl f13)), (q53, .inl (E.2.2.1, n55, .inl f56)), (q14, .inr (6, [.ref q53, .int cZ, .int (0 : Int32), .int i54]))] 37 [(0, .ref q1), (1, .ref q2), (2, .int i3), (3, .ref q14), (4, .int i52)] [.int z59, .ref q14] _
        refine V_jn (fun (k60 : Nat → Option (Nat × (Nat → Int32))) => ∀ (c62 : Nat), V E K mX8_rowText (Qm E K mX8_rowText (zX8_rowText E q1 q2 i4 v5 v6 i7 i8 i9 i10 i11 i12 f13)) (bc + ((2400 - n55) / 16)) (bs + 2 * (2400 - n55)) [(q1, .inr (9, [.int i4, v5, v6, .int i7, .int i8, .int i9, .int i10, .int i11, .int i12])), (q2, .inl (E.2.1, 81, .inl f13)), (q14, .inr (6, [.ref q53, .int cZ, .int (0 : Int32), .int i54])), (q53, .inl (E.2.2.1, n55, .inl f56))] 47 [(0, .ref q1), (1, .ref q2), (2, .int i3), (3, .ref q14), (4, .int i52)] [.ref (E.2.2.2.1 c62), .ref q14] (k60 c62)) ?_ ?_
        · intro c62
          show V E K mX8_rowText (Qm E K mX8_rowText (zX8_rowText E q1 q2 i4 v5 v6 i7 i8 i9 i10 i11 i12 f13)) (bc + ((2400 - n55) / 16)) (bs + 2 * (2400 - n55)) [(q1, .inr (9, [.int i4, v5, v6, .int i7, .int i8, .int i9, .int i10, .int i11, .int i12])), (q2, .inl (E.2.1, 81, .inl f13)), (q14, .inr (6, [.ref q53, .int cZ, .int (0 : Int32), .int i54])), (q53, .inl (E.2.2.1, n55, .inl f56))] 47 [(0, .ref q1), (1, .ref q2), (2, .int i3), (3, .ref q14), (4, .int i52)] [.ref (E.2.2.2.1 c62), .ref q14] _
          refine V_gd (fun hg => ?_)
          refine V_callV (M := mX8_rowText) (wcs := [(q14, .inr (6, [.ref q53, .int cZ, .int (0 : Int32), .int i54])), (q53, .inl (E.2.2.1, n55, .inl f56))]) (wr := [(q1, .inr (9, [.int i4, v5, v6, .int i7, .int i8, .int i9, .int i10, .int i11, .int i12])), (q2, .inl (E.2.1, 81, .inl f13))]) (mf_J4_append_15ec4 (capE n55 (i54 + szK c62)) n55) tw_1467 tw_590 tw_591 ⟨Nat.le_of_ble_eq_true rfl, Nat.le_of_ble_eq_true rfl⟩ (dX8_rowText 25 rfl) 50 rfl (kJ4_append_15ec4 hs c62 hg.2.2 q14 q53 (0 : Int32) i54 n55 f56 (capE n55 (i54 + szK c62))) rfl [2, 3] [0, 1] (q0 := 0) rfl rfl rfl rfl (by decide) rfl rfl rfl rfl (Nat.le_of_ble_eq_true rfl) (bc + ((2400 - (capE n55 (i54 + szK c62))) / 16)) (bs + 2 * (2400 - (capE n55 (i54 + szK c62)))) (show (bc + ((2400 - (capE n55 (i54 + szK c62))) / 16)) + (((capE n55 (i54 + szK c62)) - n55) / 16) ≤ (bc + ((2400 - n55) / 16)) by omega) (show (bs + 2 * (2400 - (capE n55 (i54 + szK c62)))) + 2 * ((capE n55 (i54 + szK c62)) - n55) ≤ (bs + 2 * (2400 - n55)) by omega) (fun z63 v w hz => ?_)
          obtain ⟨q64, rfl, rfl⟩ := hz
          show V E K mX8_rowText (Qm E K mX8_rowText (zX8_rowText E q1 q2 i4 v5 v6 i7 i8 i9 i10 i11 i12 f13)) (bc + ((2400 - (capE n55 (i54 + szK c62))) / 16)) (bs + 2 * (2400 - (capE n55 (i54 + szK c62)))) [(q1, .inr (9, [.int i4, v5, v6, .int i7, .int i8, .int i9, .int i10, .int i11, .int i12])), (q2, .inl (E.2.1, 81, .inl f13)), (q14, .inr (6, [.ref q64, .int cZ, .int (0 : Int32), .int z63.1])), (q64, .inl (E.2.2.1, (capE n55 (i54 + szK c62)), .inl z63.2))] 50 [(0, .ref q1), (1, .ref q2), (2, .int i3), (3, .ref q14), (4, .int i52)] [.ref q14] _
          refine V_iload (dX8_rowText 26 rfl) 52 rfl 4 rfl ?_
          refine V_gd (fun hg => ?_)
          refine V_callV (M := mX8_rowText) (wcs := [(q14, .inr (6, [.ref q64, .int cZ, .int (0 : Int32), .int z63.1])), (q64, .inl (E.2.2.1, (capE n55 (i54 + szK c62)), .inl z63.2))]) (wr := [(q1, .inr (9, [.int i4, v5, v6, .int i7, .int i8, .int i9, .int i10, .int i11, .int i12])), (q2, .inl (E.2.1, 81, .inl f13))]) (mf_J4_append_bf812 (capE (capE n55 (i54 + szK c62)) (z63.1 + szI i52)) (capE n55 (i54 + szK c62))) tw_1468 tw_708 tw_709 ⟨Nat.le_of_ble_eq_true rfl, Nat.le_of_ble_eq_true rfl⟩ (dX8_rowText 27 rfl) 55 rfl (kJ4_append_bf812 hs q14 q64 (0 : Int32) z63.1 (capE n55 (i54 + szK c62)) z63.2 i52 (capE (capE n55 (i54 + szK c62)) (z63.1 + szI i52))) rfl [2, 3] [0, 1] (q0 := 0) rfl rfl rfl rfl (by decide) rfl rfl rfl rfl (Nat.le_of_ble_eq_true rfl) (bc + ((2400 - (capE (capE n55 (i54 + szK c62)) (z63.1 + szI i52))) / 16)) (bs + 2 * (2400 - (capE (capE n55 (i54 + szK c62)) (z63.1 + szI i52)))) (show (bc + ((2400 - (capE (capE n55 (i54 + szK c62)) (z63.1 + szI i52))) / 16)) + (((capE (capE n55 (i54 + szK c62)) (z63.1 + szI i52)) - (capE n55 (i54 + szK c62))) / 16) ≤ (bc + ((2400 - (capE n55 (i54 + szK c62))) / 16)) by omega) (show (bs + 2 * (2400 - (capE (capE n55 (i54 + szK c62)) (z63.1 + szI i52)))) + 2 * ((capE (capE n55 (i54 + szK c62)) (z63.1 + szI i52)) - (capE n55 (i54 + szK c62))) ≤ (bs + 2 * (2400 - (capE n55 (i54 + szK c62)))) by omega) (fun z65 v w hz => ?_)
          obtain ⟨q66, rfl, rfl⟩ := hz
          show V E K mX8_rowText (Qm E K mX8_rowText (zX8_rowText E q1 q2 i4 v5 v6 i7 i8 i9 i10 i11 i12 f13)) (bc + ((2400 - (capE (capE n55 (i54 + szK c62)) (z63.1 + szI i52))) / 16)) (bs + 2 * (2400 - (capE (capE n55 (i54 + szK c62)) (z63.1 + szI i52)))) [(q1, .inr (9, [.int i4, v5, v6, .int i7, .int i8, .int i9, .int i10, .int i11, .int i12])), (q2, .inl (E.2.1, 81, .inl f13)), (q14, .inr (6, [.ref q66, .int cZ, .int (0 : Int32), .int z65.1])), (q66, .inl (E.2.2.1, (capE (capE n55 (i54 + szK c62)) (z63.1 + szI i52)), .inl z65.2))] 55 [(0, .ref q1), (1, .ref q2), (2, .int i3), (3, .ref q14), (4, .int i52)] [.ref q14] _
          refine V_ldcS 5 rfl (dX8_rowText 28 rfl) 57 rfl ?_
          refine V_gd (fun hg => ?_)
          refine V_callV (M := mX8_rowText) (wcs := [(q14, .inr (6, [.ref q66, .int cZ, .int (0 : Int32), .int z65.1])), (q66, .inl (E.2.2.1, (capE (capE n55 (i54 + szK c62)) (z63.1 + szI i52)), .inl z65.2))]) (wr := [(q1, .inr (9, [.int i4, v5, v6, .int i7, .int i8, .int i9, .int i10, .int i11, .int i12])), (q2, .inl (E.2.1, 81, .inl f13))]) (mf_J4_append_15ec4 (capE (capE (capE n55 (i54 + szK c62)) (z63.1 + szI i52)) (z65.1 + szK 5)) (capE (capE n55 (i54 + szK c62)) (z63.1 + szI i52))) tw_1467 tw_590 tw_591 ⟨Nat.le_of_ble_eq_true rfl, Nat.le_of_ble_eq_true rfl⟩ (dX8_rowText 29 rfl) 60 rfl (kJ4_append_15ec4 hs 5 (by decide) q14 q66 (0 : Int32) z65.1 (capE (capE n55 (i54 + szK c62)) (z63.1 + szI i52)) z65.2 (capE (capE (capE n55 (i54 + szK c62)) (z63.1 + szI i52)) (z65.1 + szK 5))) rfl [2, 3] [0, 1] (q0 := 0) rfl rfl rfl rfl (by decide) rfl rfl rfl rfl (Nat.le_of_ble_eq_true rfl) (bc + ((2400 - (capE (capE (capE n55 (i54 + szK c62)) (z63.1 + szI i52)) (z65.1 + szK 5))) / 16)) (bs + 2 * (2400 - (capE (capE (capE n55 (i54 + szK c62)) (z63.1 + szI i52)) (z65.1 + szK 5)))) (show (bc + ((2400 - (capE (capE (capE n55 (i54 + szK c62)) (z63.1 + szI i52)) (z65.1 + szK 5))) / 16)) + (((capE (capE (capE n55 (i54 + szK c62)) (z63.1 + szI i52)) (z65.1 + szK 5)) - (capE (capE n55 (i54 + szK c62)) (z63.1 + szI i52))) / 16) ≤ (bc + ((2400 - (capE (capE n55 (i54 + szK c62)) (z63.1 + szI i52))) / 16)) by omega) (show (bs + 2 * (2400 - (capE (capE (capE n55 (i54 + szK c62)) (z63.1 + szI i52)) (z65.1 + szK 5)))) + 2 * ((capE (capE (capE n55 (i54 + szK c62)) (z63.1 + szI i52)) (z65.1 + szK 5)) - (capE (capE n55 (i54 + szK c62)) (z63.1 + szI i52))) ≤ (bs + 2 * (2400 - (capE (capE n55 (i54 + szK c62)) (z63.1 + szI i52)))) by omega) (fun z67 v w hz => ?_)
          obtain ⟨q68, rfl, rfl⟩ := hz
          show V E K mX8_rowText (Qm E K mX8_rowText (zX8_rowText E q1 q2 i4 v5 v6 i7 i8 i9 i10 i11 i12 f13)) (bc + ((2400 - (capE (capE (capE n55 (i54 + szK c62)) (z63.1 + szI i52)) (z65.1 + szK 5))) / 16)) (bs + 2 * (2400 - (capE (capE (capE n55 (i54 + szK c62)) (z63.1 + szI i52)) (z65.1 + szK 5)))) [(q1, .inr (9, [.int i4, v5, v6, .int i7, .int i8, .int i9, .int i10, .int i11, .int i12])), (q2, .inl (E.2.1, 81, .inl f13)), (q14, .inr (6, [.ref q68, .int cZ, .int (0 : Int32), .int z67.1])), (q68, .inl (E.2.2.1, (capE (capE (capE n55 (i54 + szK c62)) (z63.1 + szI i52)) (z65.1 + szK 5)), .inl z67.2))] 60 [(0, .ref q1), (1, .ref q2), (2, .int i3), (3, .ref q14), (4, .int i52)] [.ref q14] _
          refine V_aload_n (dX8_rowText 30 rfl) 61 rfl 1 rfl ?_
          refine V_iload_n (dX8_rowText 31 rfl) 62 rfl 2 rfl ?_
          refine V_bipush (9 : Int32) (by decide) (dX8_rowText 32 rfl) 64 rfl ?_
          refine V_imul (dX8_rowText 33 rfl) 65 rfl ?_
          refine V_iload (dX8_rowText 34 rfl) 67 rfl 4 rfl ?_
          refine V_iadd (dX8_rowText 35 rfl) 68 rfl ?_
          refine V_iald 1 rfl (dX8_rowText 36 rfl) 69 rfl ?_
          refine V_gd (fun hg => ?_)
          refine V_callV (M := mX8_rowText) (wcs := [(q14, .inr (6, [.ref q68, .int cZ, .int (0 : Int32), .int z67.1])), (q68, .inl (E.2.2.1, (capE (capE (capE n55 (i54 + szK c62)) (z63.1 + szI i52)) (z65.1 + szK 5)), .inl z67.2))]) (wr := [(q1, .inr (9, [.int i4, v5, v6, .int i7, .int i8, .int i9, .int i10, .int i11, .int i12])), (q2, .inl (E.2.1, 81, .inl f13))]) (mf_J4_append_bf812 (capE (capE (capE (capE n55 (i54 + szK c62)) (z63.1 + szI i52)) (z65.1 + szK 5)) (z67.1 + szI (f13 ((i3 * (9 : Int32)) + i52).toNatClampNeg))) (capE (capE (capE n55 (i54 + szK c62)) (z63.1 + szI i52)) (z65.1 + szK 5))) tw_1468 tw_708 tw_709 ⟨Nat.le_of_ble_eq_true rfl, Nat.le_of_ble_eq_true rfl⟩ (dX8_rowText 37 rfl) 72 rfl (kJ4_append_bf812 hs q14 q68 (0 : Int32) z67.1 (capE (capE (capE n55 (i54 + szK c62)) (z63.1 + szI i52)) (z65.1 + szK 5)) z67.2 (f13 ((i3 * (9 : Int32)) + i52).toNatClampNeg) (capE (capE (capE (capE n55 (i54 + szK c62)) (z63.1 + szI i52)) (z65.1 + szK 5)) (z67.1 + szI (f13 ((i3 * (9 : Int32)) + i52).toNatClampNeg)))) rfl [2, 3] [0, 1] (q0 := 0) rfl rfl rfl rfl (by decide) rfl rfl rfl rfl (Nat.le_of_ble_eq_true rfl) (bc + ((2400 - (capE (capE (capE (capE n55 (i54 + szK c62)) (z63.1 + szI i52)) (z65.1 + szK 5)) (z67.1 + szI (f13 ((i3 * (9 : Int32)) + i52).toNatClampNeg)))) / 16)) (bs + 2 * (2400 - (capE (capE (capE (capE n55 (i54 + szK c62)) (z63.1 + szI i52)) (z65.1 + szK 5)) (z67.1 + szI (f13 ((i3 * (9 : Int32)) + i52).toNatClampNeg))))) (show (bc + ((2400 - (capE (capE (capE (capE n55 (i54 + szK c62)) (z63.1 + szI i52)) (z65.1 + szK 5)) (z67.1 + szI (f13 ((i3 * (9 : Int32)) + i52).toNatClampNeg)))) / 16)) + (((capE (capE (capE (capE n55 (i54 + szK c62)) (z63.1 + szI i52)) (z65.1 + szK 5)) (z67.1 + szI (f13 ((i3 * (9 : Int32)) + i52).toNatClampNeg))) - (capE (capE (capE n55 (i54 + szK c62)) (z63.1 + szI i52)) (z65.1 + szK 5))) / 16) ≤ (bc + ((2400 - (capE (capE (capE n55 (i54 + szK c62)) (z63.1 + szI i52)) (z65.1 + szK 5))) / 16)) by omega) (show (bs + 2 * (2400 - (capE (capE (capE (capE n55 (i54 + szK c62)) (z63.1 + szI i52)) (z65.1 + szK 5)) (z67.1 + szI (f13 ((i3 * (9 : Int32)) + i52).toNatClampNeg))))) + 2 * ((capE (capE (capE (capE n55 (i54 + szK c62)) (z63.1 + szI i52)) (z65.1 + szK 5)) (z67.1 + szI (f13 ((i3 * (9 : Int32)) + i52).toNatClampNeg))) - (capE (capE (capE n55 (i54 + szK c62)) (z63.1 + szI i52)) (z65.1 + szK 5))) ≤ (bs + 2 * (2400 - (capE (capE (capE n55 (i54 + szK c62)) (z63.1 + szI i52)) (z65.1 + szK 5)))) by omega) (fun z69 v w hz => ?_)
          obtain ⟨q70, rfl, rfl⟩ := hz
          show V E K mX8_rowText (Qm E K mX8_rowText (zX8_rowText E q1 q2 i4 v5 v6 i7 i8 i9 i10 i11 i12 f13)) (bc + ((2400 - (capE (capE (capE (capE n55 (i54 + szK c62)) (z63.1 + szI i52)) (z65.1 + szK 5)) (z67.1 + szI (f13 ((i3 * (9 : Int32)) + i52).toNatClampNeg)))) / 16)) (bs + 2 * (2400 - (capE (capE (capE (capE n55 (i54 + szK c62)) (z63.1 + szI i52)) (z65.1 + szK 5)) (z67.1 + szI (f13 ((i3 * (9 : Int32)) + i52).toNatClampNeg))))) [(q1, .inr (9, [.int i4, v5, v6, .int i7, .int i8, .int i9, .int i10, .int i11, .int i12])), (q2, .inl (E.2.1, 81, .inl f13)), (q14, .inr (6, [.ref q70, .int cZ, .int (0 : Int32), .int z69.1])), (q70, .inl (E.2.2.1, (capE (capE (capE (capE n55 (i54 + szK c62)) (z63.1 + szI i52)) (z65.1 + szK 5)) (z67.1 + szI (f13 ((i3 * (9 : Int32)) + i52).toNatClampNeg))), .inl z69.2))] 72 [(0, .ref q1), (1, .ref q2), (2, .int i3), (3, .ref q14), (4, .int i52)] [.ref q14] _
          refine V_pop rfl (dX8_rowText 38 rfl) 73 rfl ?_
          exact hk58 q70 z69.1 (capE (capE (capE (capE n55 (i54 + szK c62)) (z63.1 + szI i52)) (z65.1 + szK 5)) (z67.1 + szI (f13 ((i3 * (9 : Int32)) + i52).toNatClampNeg))) z69.2
        · intro k60 hk61
          refine V_if_le (dX8_rowText 21 rfl) 45 (by decide) 40 rfl ?_ ?_
          · refine V_ldcS 3 rfl (dX8_rowText 24 rfl) 47 rfl ?_
            refine V_world [0, 1, 3, 2] [(q1, .inr (9, [.int i4, v5, v6, .int i7, .int i8, .int i9, .int i10, .int i11, .int i12])), (q2, .inl (E.2.1, 81, .inl f13)), (q14, .inr (6, [.ref q53, .int cZ, .int (0 : Int32), .int i54])), (q53, .inl (E.2.2.1, n55, .inl f56))] rfl rfl rfl ?_
            exact hk61 3
          · refine V_ldcS 4 rfl (dX8_rowText 22 rfl) 42 rfl ?_
            refine V_goto (dX8_rowText 23 rfl) 47 (by decide) ?_
            refine V_world [0, 1, 3, 2] [(q1, .inr (9, [.int i4, v5, v6, .int i7, .int i8, .int i9, .int i10, .int i11, .int i12])), (q2, .inl (E.2.1, 81, .inl f13)), (q14, .inr (6, [.ref q53, .int cZ, .int (0 : Int32), .int i54])), (q53, .inl (E.2.2.1, n55, .inl f56))] rfl rfl rfl ?_
            exact hk61 4
set_option maxRecDepth 20000 in
theorem vLX8_rowText_L11 {E : EX} {K : KX} (hs : K.l.stackTraces = false) (q1 q2 q14 : Nat) (i4 : Int32) (v5 v6 : Value) (i7 i8 i9 i10 i11 i12 : Int32) (f13 : Nat → Int32) (i3 : Int32) (bc bs : Nat) {k1 : Int32 → Nat → (Nat → Int32) → Option (Nat × (Nat → Int32))} (hk1 : ∀ (q75 : Nat) (i76 : Int32) (n77 : Nat) (f78 : Nat → Int32), V E K mX8_rowText (Qm E K mX8_rowText (zX8_rowText E q1 q2 i4 v5 v6 i7 i8 i9 i10 i11 i12 f13)) (bc + ((2400 - n77) / 16)) (bs + 2 * (2400 - n77)) [(q1, .inr (9, [.int i4, v5, v6, .int i7, .int i8, .int i9, .int i10, .int i11, .int i12])), (q2, .inl (E.2.1, 81, .inl f13)), (q14, .inr (6, [.ref q75, .int cZ, .int (0 : Int32), .int i76])), (q75, .inl (E.2.2.1, n77, .inl f78))] 79 [(3, .ref q14)] [] (k1 i76 n77 f78)) : ∀ (n : Nat) (q53 : Nat) (i52 i54 : Int32) (n55 : Nat) (f56 : Nat → Int32), V E K mX8_rowText (Qm E K mX8_rowText (zX8_rowText E q1 q2 i4 v5 v6 i7 i8 i9 i10 i11 i12 f13)) (bc + ((2400 - n55) / 16)) (bs + 2 * (2400 - n55)) [(q1, .inr (9, [.int i4, v5, v6, .int i7, .int i8, .int i9, .int i10, .int i11, .int i12])), (q2, .inl (E.2.1, 81, .inl f13)), (q14, .inr (6, [.ref q53, .int cZ, .int (0 : Int32), .int i54])), (q53, .inl (E.2.2.1, n55, .inl f56))] 11 [(0, .ref q1), (1, .ref q2), (2, .int i3), (3, .ref q14), (4, .int i52)] [] (LX8_rowText_L11  i4 f13 i3 n i52 i54 n55 f56 k1)
  | 0, _, _, _, _, _ => V_none
  | n + 1, q53, i52, i54, n55, f56 => vBX8_rowText_L11 hs q1 q2 q14 i4 v5 v6 i7 i8 i9 i10 i11 i12 f13 i3 bc bs q53 i52 i54 n55 f56 (fun q53 i52 i54 n55 f56 => vLX8_rowText_L11 hs q1 q2 q14 i4 v5 v6 i7 i8 i9 i10 i11 i12 f13 i3 bc bs hk1 n q53 i52 i54 n55 f56) hk1
set_option maxRecDepth 20000 in
theorem kX8_rowText {E : EX} {l : Launch} (hl : l.stackTraces = false) (q1 q2 : Nat) (i4 : Int32) (v5 v6 : Value) (i7 i8 i9 i10 i11 i12 : Int32) (f13 : Nat → Int32) (i3 : Int32) : Ct E l mX8_rowText [.ref q1, .ref q2, .int i3] [(q1, .inr (9, [.int i4, v5, v6, .int i7, .int i8, .int i9, .int i10, .int i11, .int i12])), (q2, .inl (E.2.1, 81, .inl f13))] (fX8_rowText i4 f13 i3) (zX8_rowText E q1 q2 i4 v5 v6 i7 i8 i9 i10 i11 i12 f13) := Ct_of hl mf_X8_rowText.1 (Nat.le_of_ble_eq_true rfl) (fun K hs => by
  refine V_less 154 18224 (Nat.le_refl _) (Nat.le_refl _) ?_
  refine V_pick [0, 1, 2] [(0, .ref q1), (1, .ref q2), (2, .int i3)] rfl ?_
  unfold fX8_rowText
  refine V_new nf_M_104 (dX8_rowText 0 rfl) 3 rfl 153 18220 (show 153 + 1 ≤ 154 from Nat.le_of_ble_eq_true rfl) (show 18220 + 4 ≤ 18224 from Nat.le_of_ble_eq_true rfl) (fun q14 => ?_)
  refine V_eqW (ws2 := [(q1, .inr (9, [.int i4, v5, v6, .int i7, .int i8, .int i9, .int i10, .int i11, .int i12])), (q2, .inl (E.2.1, 81, .inl f13)), (q14, .inr (6, [.null, .int cZ, .int (0 : Int32), .int (0 : Int32)]))]) rfl ?_
  refine V_dup rfl (dX8_rowText 1 rfl) 4 rfl ?_
  refine V_callI (M := mX8_rowText) (wcs := [(q14, .inr (6, [.null, .int cZ, .int (0 : Int32), .int (0 : Int32)]))]) (wr := [(q1, .inr (9, [.int i4, v5, v6, .int i7, .int i8, .int i9, .int i10, .int i11, .int i12])), (q2, .inl (E.2.1, 81, .inl f13))]) mf_J4_init_da8c8 rfl rfl tw_1464 tw_210 ⟨Nat.le_of_ble_eq_true rfl, Nat.le_of_ble_eq_true rfl⟩ (dX8_rowText 2 rfl) 7 rfl (kJ4_init_da8c8 hs q14 .null (0 : Int32) (0 : Int32)) rfl [2] [0, 1] rfl rfl rfl rfl (by decide) rfl (Nat.le_of_ble_eq_true rfl) (((2400 - 16) / 16) + 2) (2 * (2400 - 16) + 13404) (show (((2400 - 16) / 16) + 2) + 1 ≤ 153 by omega) (show (2 * (2400 - 16) + 13404) + 16 ≤ 18220 by omega) (fun z15 v w hz => ?_)
  obtain ⟨q16, rfl, rfl⟩ := hz
  show V E K mX8_rowText (Qm E K mX8_rowText (zX8_rowText E q1 q2 i4 v5 v6 i7 i8 i9 i10 i11 i12 f13)) (((2400 - 16) / 16) + 2) (2 * (2400 - 16) + 13404) [(q1, .inr (9, [.int i4, v5, v6, .int i7, .int i8, .int i9, .int i10, .int i11, .int i12])), (q2, .inl (E.2.1, 81, .inl f13)), (q14, .inr (6, [.ref q16, .int cZ, .int (0 : Int32), .int (0 : Int32)])), (q16, .inl (E.2.2.1, 16, .inl (fun _ => 0)))] 7 [(0, .ref q1), (1, .ref q2), (2, .int i3)] [.ref q14] _
  refine V_astore_n (dX8_rowText 3 rfl) 8 rfl [(0, .ref q1), (1, .ref q2), (2, .int i3), (3, .ref q14)] (Nat.le_of_ble_eq_true rfl) rfl ?_
  refine V_iconst (0 : Int32) (by decide) (dX8_rowText 4 rfl) 9 rfl ?_
  refine V_istore (dX8_rowText 5 rfl) 11 rfl [(0, .ref q1), (1, .ref q2), (2, .int i3), (3, .ref q14), (4, .int (0 : Int32))] (Nat.le_of_ble_eq_true rfl) rfl ?_
  refine V_less (2 + ((2400 - 16) / 16)) (13404 + 2 * (2400 - 16)) (by omega) (by omega) ?_
  refine vLX8_rowText_L11 hs q1 q2 q14 i4 v5 v6 i7 i8 i9 i10 i11 i12 f13 i3 2 13404 ?_ 600 q16 (0 : Int32) (0 : Int32) 16 (fun _ => 0)
  intro q75 i76 n77 f78
  refine V_less (((2400 - n77) / 16) + 2) (2 * (2400 - n77) + 13404) (by omega) (by omega) ?_
  show V E K mX8_rowText (Qm E K mX8_rowText (zX8_rowText E q1 q2 i4 v5 v6 i7 i8 i9 i10 i11 i12 f13)) (((2400 - n77) / 16) + 2) (2 * (2400 - n77) + 13404) [(q1, .inr (9, [.int i4, v5, v6, .int i7, .int i8, .int i9, .int i10, .int i11, .int i12])), (q2, .inl (E.2.1, 81, .inl f13)), (q14, .inr (6, [.ref q75, .int cZ, .int (0 : Int32), .int i76])), (q75, .inl (E.2.2.1, n77, .inl f78))] 79 [(3, .ref q14)] [] _
  refine V_aload_n (dX8_rowText 41 rfl) 80 rfl 0 rfl ?_
  refine V_callV (M := mX8_rowText) (wcs := [(q14, .inr (6, [.ref q75, .int cZ, .int (0 : Int32), .int i76])), (q75, .inl (E.2.2.1, n77, .inl f78))]) (wr := [(q1, .inr (9, [.int i4, v5, v6, .int i7, .int i8, .int i9, .int i10, .int i11, .int i12])), (q2, .inl (E.2.1, 81, .inl f13))]) mf_J4_toString_0e30d tw_1470 tw_733 tw_734 ⟨Nat.le_of_ble_eq_true rfl, Nat.le_of_ble_eq_true rfl⟩ (dX8_rowText 42 rfl) 83 rfl (kJ4_toString_0e30d hs q14 q75 (0 : Int32) i76 n77 f78) rfl [2, 3] [0, 1] (q0 := 0) rfl rfl rfl rfl (by decide) rfl rfl rfl rfl (Nat.le_of_ble_eq_true rfl) (((2400 - n77) / 16)) (2 * (2400 - n77)) (show (((2400 - n77) / 16)) + 2 ≤ (((2400 - n77) / 16) + 2) by omega) (show (2 * (2400 - n77)) + 13404 ≤ (2 * (2400 - n77) + 13404) by omega) (fun z79 v w hz => ?_)
  obtain ⟨q80, q81, rfl, rfl⟩ := hz
  show V E K mX8_rowText (Qm E K mX8_rowText (zX8_rowText E q1 q2 i4 v5 v6 i7 i8 i9 i10 i11 i12 f13)) (((2400 - n77) / 16)) (2 * (2400 - n77)) [(q1, .inr (9, [.int i4, v5, v6, .int i7, .int i8, .int i9, .int i10, .int i11, .int i12])), (q2, .inl (E.2.1, 81, .inl f13)), (q14, .inr (6, [.ref q75, .int cZ, .int (0 : Int32), .int i76])), (q75, .inl (E.2.2.1, n77, .inl f78)), (q80, .inr (7, [.ref q81, .int cZ, .int (0 : Int32), .int (0 : Int32)])), (q81, .inl (E.2.2.1, z79.1, .inl z79.2))] 83 [(3, .ref q14)] [.ref q80] _
  refine V_world [0, 1, 4, 5] [(q1, .inr (9, [.int i4, v5, v6, .int i7, .int i8, .int i9, .int i10, .int i11, .int i12])), (q2, .inl (E.2.1, 81, .inl f13)), (q80, .inr (7, [.ref q81, .int cZ, .int (0 : Int32), .int (0 : Int32)])), (q81, .inl (E.2.2.1, z79.1, .inl z79.2))] rfl rfl rfl ?_
  exact V_aret rfl (Or.inl ⟨_, rfl⟩) (Or.inr ⟨_, rfl⟩) (dX8_rowText 43 rfl) ⟨q80, q81, rfl, rfl⟩)
set_option maxRecDepth 20000 in
theorem kX8_roomText {E : EX} {l : Launch} (hl : l.stackTraces = false) (q1 q4 : Nat) (i3 : Int32) (v5 : Value) (i6 i7 i8 i9 i10 i11 : Int32) (f12 : Nat → Int32) (i2 : Int32) : Ct E l mX8_roomText [.ref q1, .int i2] [(q1, .inr (9, [.int i3, .ref q4, v5, .int i6, .int i7, .int i8, .int i9, .int i10, .int i11])), (q4, .inl (E.2.1, 81, .inl f12))] (fX8_roomText i3 f12 i2) (zX8_roomText E q1 q4 i3 v5 i6 i7 i8 i9 i10 f12) := Ct_of hl mf_X8_roomText.1 (Nat.le_of_ble_eq_true rfl) (fun K hs => by
  refine V_less 154 18224 (Nat.le_refl _) (Nat.le_refl _) ?_
  refine V_pick [0, 1] [(0, .ref q1), (1, .int i2)] rfl ?_
  unfold fX8_roomText
  refine V_aload_n (dX8_roomText 0 rfl) 1 rfl 0 rfl ?_
  refine V_aload_n (dX8_roomText 1 rfl) 2 rfl 0 rfl ?_
  refine V_iload_n (dX8_roomText 2 rfl) 3 rfl 1 rfl ?_
  refine V_callV (M := mX8_roomText) (wcs := [(q1, .inr (9, [.int i3, .ref q4, v5, .int i6, .int i7, .int i8, .int i9, .int i10, .int i11]))]) (wr := [(q4, .inl (E.2.1, 81, .inl f12))]) mf_X8_isPlace tw_1299 tw_1301 tw_30 ⟨Nat.le_of_ble_eq_true rfl, Nat.le_of_ble_eq_true rfl⟩ (dX8_roomText 3 rfl) 6 rfl (kX8_isPlace hs q1 i3 (.ref q4) v5 i6 i7 i8 i9 i10 i11 i2) rfl [0] [1] (q0 := 0) rfl rfl rfl rfl (by decide) rfl rfl rfl rfl (Nat.le_of_ble_eq_true rfl) 154 18224 (show 154 + 0 ≤ 154 from Nat.le_of_ble_eq_true rfl) (show 18224 + 0 ≤ 18224 from Nat.le_of_ble_eq_true rfl) (fun z13 v w hz => ?_)
  obtain ⟨rfl, rfl⟩ := hz
  show V E K mX8_roomText (Qm E K mX8_roomText (zX8_roomText E q1 q4 i3 v5 i6 i7 i8 i9 i10 f12)) 154 18224 [(q4, .inl (E.2.1, 81, .inl f12)), (q1, .inr (9, [.int i3, .ref q4, v5, .int i6, .int i7, .int i8, .int i9, .int i10, .int i11]))] 6 [(0, .ref q1), (1, .int i2)] [.int z13, .ref q1] _
  refine V_jn (fun (k14 : Int32 → Option (Int32)) => ∀ (i16 : Int32), V E K mX8_roomText (Qm E K mX8_roomText (zX8_roomText E q1 q4 i3 v5 i6 i7 i8 i9 i10 f12)) 154 18224 [(q1, .inr (9, [.int i3, .ref q4, v5, .int i6, .int i7, .int i8, .int i9, .int i10, .int i11])), (q4, .inl (E.2.1, 81, .inl f12))] 14 [(0, .ref q1), (1, .int i2)] [.int i16, .ref q1] (k14 i16)) ?_ ?_
  · intro i16
    show V E K mX8_roomText (Qm E K mX8_roomText (zX8_roomText E q1 q4 i3 v5 i6 i7 i8 i9 i10 f12)) 154 18224 [(q1, .inr (9, [.int i3, .ref q4, v5, .int i6, .int i7, .int i8, .int i9, .int i10, .int i11])), (q4, .inl (E.2.1, 81, .inl f12))] 14 [(0, .ref q1), (1, .int i2)] [.int i16, .ref q1] _
    refine V_callV (M := mX8_roomText) (wcs := [(q1, .inr (9, [.int i3, .ref q4, v5, .int i6, .int i7, .int i8, .int i9, .int i10, .int i11]))]) (wr := [(q4, .inl (E.2.1, 81, .inl f12))]) mf_X8_isThrown_ tw_1283 tw_1285 tw_27 ⟨Nat.le_of_ble_eq_true rfl, Nat.le_of_ble_eq_true rfl⟩ (dX8_roomText 8 rfl) 17 rfl (kX8_isThrown_ hs q1 i3 (.ref q4) v5 i6 i7 i8 i9 i10 i11 i16) rfl [0] [1] (q0 := 0) rfl rfl rfl rfl (by decide) rfl rfl rfl rfl (Nat.le_of_ble_eq_true rfl) 154 18224 (show 154 + 0 ≤ 154 from Nat.le_of_ble_eq_true rfl) (show 18224 + 0 ≤ 18224 from Nat.le_of_ble_eq_true rfl) (fun z17 v w hz => ?_)
    obtain ⟨rfl, rfl⟩ := hz
    show V E K mX8_roomText (Qm E K mX8_roomText (zX8_roomText E q1 q4 i3 v5 i6 i7 i8 i9 i10 f12)) 154 18224 [(q4, .inl (E.2.1, 81, .inl f12)), (q1, .inr (9, [.int i3, .ref q4, v5, .int i6, .int i7, .int i8, .int i9, .int i10, .int z17.2]))] 17 [(0, .ref q1), (1, .int i2)] [.int z17.1] _
    refine V_if_eq (dX8_roomText 9 rfl) 25 (by decide) 20 rfl ?_ ?_
    · refine V_aload_n (dX8_roomText 12 rfl) 26 rfl 0 rfl ?_
      refine V_aload_n (dX8_roomText 13 rfl) 27 rfl 0 rfl ?_
      refine V_get gf_M_20 1 rfl rfl (dX8_roomText 14 rfl) 30 rfl ?_
      refine V_iload_n (dX8_roomText 15 rfl) 31 rfl 1 rfl ?_
      refine V_callV (M := mX8_roomText) (wcs := [(q1, .inr (9, [.int i3, .ref q4, v5, .int i6, .int i7, .int i8, .int i9, .int i10, .int z17.2])), (q4, .inl (E.2.1, 81, .inl f12))]) (wr := []) mf_X8_rowText tw_1459 tw_1461 tw_50 ⟨Nat.le_of_ble_eq_true rfl, Nat.le_of_ble_eq_true rfl⟩ (dX8_roomText 16 rfl) 34 rfl (kX8_rowText hs q1 q4 i3 (.ref q4) v5 i6 i7 i8 i9 i10 z17.2 f12 i2) rfl [1, 0] [] (q0 := 0) rfl rfl rfl rfl (by decide) rfl rfl rfl rfl (Nat.le_of_ble_eq_true rfl) 0 0 (show 0 + 154 ≤ 154 from Nat.le_of_ble_eq_true rfl) (show 0 + 18224 ≤ 18224 from Nat.le_of_ble_eq_true rfl) (fun z18 v w hz => ?_)
      obtain ⟨q19, q20, rfl, rfl⟩ := hz
      show V E K mX8_roomText (Qm E K mX8_roomText (zX8_roomText E q1 q4 i3 v5 i6 i7 i8 i9 i10 f12)) 0 0 [(q1, .inr (9, [.int i3, .ref q4, v5, .int i6, .int i7, .int i8, .int i9, .int i10, .int z17.2])), (q4, .inl (E.2.1, 81, .inl f12)), (q19, .inr (7, [.ref q20, .int cZ, .int (0 : Int32), .int (0 : Int32)])), (q20, .inl (E.2.2.1, z18.1, .inl z18.2))] 34 [(0, .ref q1), (1, .int i2)] [.ref q19] _
      refine V_world [0, 1] [(q1, .inr (9, [.int i3, .ref q4, v5, .int i6, .int i7, .int i8, .int i9, .int i10, .int z17.2])), (q4, .inl (E.2.1, 81, .inl f12))] rfl rfl rfl ?_
      exact V_aret rfl (Or.inl ⟨_, rfl⟩) (Or.inr ⟨_, rfl⟩) (dX8_roomText 17 rfl) ⟨q19, rfl, rfl⟩
    · refine V_ldcS 3 rfl (dX8_roomText 10 rfl) 22 rfl ?_
      refine V_goto (dX8_roomText 11 rfl) 34 (by decide) ?_
      refine V_world [1, 0] [(q1, .inr (9, [.int i3, .ref q4, v5, .int i6, .int i7, .int i8, .int i9, .int i10, .int z17.2])), (q4, .inl (E.2.1, 81, .inl f12))] rfl rfl rfl ?_
      exact V_aret rfl (Or.inl ⟨_, rfl⟩) (Or.inr ⟨_, rfl⟩) (dX8_roomText 17 rfl) ⟨(E.2.2.2.1 3), rfl, rfl⟩
  · intro k14 hk15
    refine V_if_ne (dX8_roomText 4 rfl) 13 (by decide) 9 rfl ?_ ?_
    · refine V_iconst (0 : Int32) (by decide) (dX8_roomText 7 rfl) 14 rfl ?_
      refine V_world [1, 0] [(q1, .inr (9, [.int i3, .ref q4, v5, .int i6, .int i7, .int i8, .int i9, .int i10, .int i11])), (q4, .inl (E.2.1, 81, .inl f12))] rfl rfl rfl ?_
      exact hk15 (0 : Int32)
    · refine V_iconst (1 : Int32) (by decide) (dX8_roomText 5 rfl) 10 rfl ?_
      refine V_goto (dX8_roomText 6 rfl) 14 (by decide) ?_
      refine V_world [1, 0] [(q1, .inr (9, [.int i3, .ref q4, v5, .int i6, .int i7, .int i8, .int i9, .int i10, .int i11])), (q4, .inl (E.2.1, 81, .inl f12))] rfl rfl rfl ?_
      exact hk15 (1 : Int32))
set_option maxRecDepth 20000 in
theorem kX8_cut {E : EX} {l : Launch} (hl : l.stackTraces = false) (q1 q4 : Nat) (i3 : Int32) (v5 : Value) (i6 i7 i8 i9 i10 i11 : Int32) (f12 : Nat → Int32) (i2 : Int32) : Ct E l mX8_cut [.ref q1, .int i2] [(q1, .inr (9, [.int i3, .ref q4, v5, .int i6, .int i7, .int i8, .int i9, .int i10, .int i11])), (q4, .inl (E.2.1, 81, .inl f12))] (fX8_cut i3 i6 i7 f12 i2) (zX8_cut E q1 q4 i3 v5 i6 i7 i8 i9 i10 f12) := Ct_of hl mf_X8_cut.1 (Nat.le_of_ble_eq_true rfl) (fun K hs => by
  refine V_less 0 0 (Nat.le_refl _) (Nat.le_refl _) ?_
  refine V_pick [0, 1] [(0, .ref q1), (1, .int i2)] rfl ?_
  unfold fX8_cut
  refine V_aload_n (dX8_cut 0 rfl) 1 rfl 0 rfl ?_
  refine V_aload_n (dX8_cut 1 rfl) 2 rfl 0 rfl ?_
  refine V_iload_n (dX8_cut 2 rfl) 3 rfl 1 rfl ?_
  refine V_callV (M := mX8_cut) (wcs := [(q1, .inr (9, [.int i3, .ref q4, v5, .int i6, .int i7, .int i8, .int i9, .int i10, .int i11]))]) (wr := [(q4, .inl (E.2.1, 81, .inl f12))]) mf_X8_isSet tw_1475 tw_1477 tw_51 ⟨Nat.le_of_ble_eq_true rfl, Nat.le_of_ble_eq_true rfl⟩ (dX8_cut 3 rfl) 6 rfl (kX8_isSet hs q1 i3 (.ref q4) v5 i6 i7 i8 i9 i10 i11 i2) rfl [0] [1] (q0 := 0) rfl rfl rfl rfl (by decide) rfl rfl rfl rfl (Nat.le_of_ble_eq_true rfl) 0 0 (show 0 + 0 ≤ 0 from Nat.le_of_ble_eq_true rfl) (show 0 + 0 ≤ 0 from Nat.le_of_ble_eq_true rfl) (fun z13 v w hz => ?_)
  obtain ⟨rfl, rfl⟩ := hz
  show V E K mX8_cut (Qm E K mX8_cut (zX8_cut E q1 q4 i3 v5 i6 i7 i8 i9 i10 f12)) 0 0 [(q4, .inl (E.2.1, 81, .inl f12)), (q1, .inr (9, [.int i3, .ref q4, v5, .int i6, .int i7, .int i8, .int i9, .int i10, .int i11]))] 6 [(0, .ref q1), (1, .int i2)] [.int z13, .ref q1] _
  refine V_jn (fun (k14 : Int32 → Option (Int32 × Int32)) => ∀ (i16 : Int32), V E K mX8_cut (Qm E K mX8_cut (zX8_cut E q1 q4 i3 v5 i6 i7 i8 i9 i10 f12)) 0 0 [(q1, .inr (9, [.int i3, .ref q4, v5, .int i6, .int i7, .int i8, .int i9, .int i10, .int i11])), (q4, .inl (E.2.1, 81, .inl f12))] 14 [(0, .ref q1), (1, .int i2)] [.int i16, .ref q1] (k14 i16)) ?_ ?_
  · intro i16
    show V E K mX8_cut (Qm E K mX8_cut (zX8_cut E q1 q4 i3 v5 i6 i7 i8 i9 i10 f12)) 0 0 [(q1, .inr (9, [.int i3, .ref q4, v5, .int i6, .int i7, .int i8, .int i9, .int i10, .int i11])), (q4, .inl (E.2.1, 81, .inl f12))] 14 [(0, .ref q1), (1, .int i2)] [.int i16, .ref q1] _
    refine V_callV (M := mX8_cut) (wcs := [(q1, .inr (9, [.int i3, .ref q4, v5, .int i6, .int i7, .int i8, .int i9, .int i10, .int i11]))]) (wr := [(q4, .inl (E.2.1, 81, .inl f12))]) mf_X8_isThrown_ tw_1283 tw_1285 tw_27 ⟨Nat.le_of_ble_eq_true rfl, Nat.le_of_ble_eq_true rfl⟩ (dX8_cut 8 rfl) 17 rfl (kX8_isThrown_ hs q1 i3 (.ref q4) v5 i6 i7 i8 i9 i10 i11 i16) rfl [0] [1] (q0 := 0) rfl rfl rfl rfl (by decide) rfl rfl rfl rfl (Nat.le_of_ble_eq_true rfl) 0 0 (show 0 + 0 ≤ 0 from Nat.le_of_ble_eq_true rfl) (show 0 + 0 ≤ 0 from Nat.le_of_ble_eq_true rfl) (fun z17 v w hz => ?_)
    obtain ⟨rfl, rfl⟩ := hz
    show V E K mX8_cut (Qm E K mX8_cut (zX8_cut E q1 q4 i3 v5 i6 i7 i8 i9 i10 f12)) 0 0 [(q4, .inl (E.2.1, 81, .inl f12)), (q1, .inr (9, [.int i3, .ref q4, v5, .int i6, .int i7, .int i8, .int i9, .int i10, .int z17.2]))] 17 [(0, .ref q1), (1, .int i2)] [.int z17.1] _
    refine V_if_eq (dX8_cut 9 rfl) 22 (by decide) 20 rfl ?_ ?_
    · refine V_iload_n (dX8_cut 12 rfl) 23 rfl 1 rfl ?_
      refine V_aload_n (dX8_cut 13 rfl) 24 rfl 0 rfl ?_
      refine V_get gf_M_27 1 rfl rfl (dX8_cut 14 rfl) 27 rfl ?_
      refine V_aload_n (dX8_cut 15 rfl) 28 rfl 0 rfl ?_
      refine V_get gf_M_30 1 rfl rfl (dX8_cut 16 rfl) 31 rfl ?_
      refine V_callS (M := mX8_cut) (wcs := []) (wr := [(q4, .inl (E.2.1, 81, .inl f12)), (q1, .inr (9, [.int i3, .ref q4, v5, .int i6, .int i7, .int i8, .int i9, .int i10, .int z17.2]))]) mf_X8_isCut tw_1479 tw_1480 ⟨Nat.le_of_ble_eq_true rfl, Nat.le_of_ble_eq_true rfl⟩ (dX8_cut 17 rfl) 34 rfl (kX8_isCut hs i2 i6 i7) rfl [] [0, 1] rfl rfl rfl rfl (by decide) rfl (Nat.le_of_ble_eq_true rfl) 0 0 (show 0 + 0 ≤ 0 from Nat.le_of_ble_eq_true rfl) (show 0 + 0 ≤ 0 from Nat.le_of_ble_eq_true rfl) (fun z18 v w hz => ?_)
      obtain ⟨rfl, rfl⟩ := hz
      show V E K mX8_cut (Qm E K mX8_cut (zX8_cut E q1 q4 i3 v5 i6 i7 i8 i9 i10 f12)) 0 0 [(q4, .inl (E.2.1, 81, .inl f12)), (q1, .inr (9, [.int i3, .ref q4, v5, .int i6, .int i7, .int i8, .int i9, .int i10, .int z17.2]))] 34 [(0, .ref q1), (1, .int i2)] [.int z18] _
      refine V_if_eq (dX8_cut 18 rfl) 49 (by decide) 37 rfl ?_ ?_
      · refine V_bipush (-9 : Int32) (by decide) (dX8_cut 25 rfl) 51 rfl ?_
        refine V_world [1, 0] [(q1, .inr (9, [.int i3, .ref q4, v5, .int i6, .int i7, .int i8, .int i9, .int i10, .int z17.2])), (q4, .inl (E.2.1, 81, .inl f12))] rfl rfl rfl ?_
        exact V_iret rfl (dX8_cut 26 rfl) ⟨rfl, rfl⟩
      · refine V_aload_n (dX8_cut 19 rfl) 38 rfl 0 rfl ?_
        refine V_aload_n (dX8_cut 20 rfl) 39 rfl 0 rfl ?_
        refine V_get gf_M_20 1 rfl rfl (dX8_cut 21 rfl) 42 rfl ?_
        refine V_iload_n (dX8_cut 22 rfl) 43 rfl 1 rfl ?_
        refine V_callV (M := mX8_cut) (wcs := [(q1, .inr (9, [.int i3, .ref q4, v5, .int i6, .int i7, .int i8, .int i9, .int i10, .int z17.2])), (q4, .inl (E.2.1, 81, .inl f12))]) (wr := []) mf_X8_through tw_1482 tw_1484 tw_52 ⟨Nat.le_of_ble_eq_true rfl, Nat.le_of_ble_eq_true rfl⟩ (dX8_cut 23 rfl) 46 rfl (kX8_through hs q1 q4 i3 (.ref q4) v5 i6 i7 i8 i9 i10 z17.2 f12 i2) rfl [1, 0] [] (q0 := 0) rfl rfl rfl rfl (by decide) rfl rfl rfl rfl (Nat.le_of_ble_eq_true rfl) 0 0 (show 0 + 0 ≤ 0 from Nat.le_of_ble_eq_true rfl) (show 0 + 0 ≤ 0 from Nat.le_of_ble_eq_true rfl) (fun z19 v w hz => ?_)
        obtain ⟨rfl, rfl⟩ := hz
        show V E K mX8_cut (Qm E K mX8_cut (zX8_cut E q1 q4 i3 v5 i6 i7 i8 i9 i10 f12)) 0 0 [(q1, .inr (9, [.int i3, .ref q4, v5, .int i6, .int i7, .int i8, .int i9, .int i10, .int z17.2])), (q4, .inl (E.2.1, 81, .inl f12))] 46 [(0, .ref q1), (1, .int i2)] [.int z19] _
        refine V_goto (dX8_cut 24 rfl) 51 (by decide) ?_
        exact V_iret rfl (dX8_cut 26 rfl) ⟨rfl, rfl⟩
    · refine V_iconst (0 : Int32) (by decide) (dX8_cut 10 rfl) 21 rfl ?_
      refine V_world [1, 0] [(q1, .inr (9, [.int i3, .ref q4, v5, .int i6, .int i7, .int i8, .int i9, .int i10, .int z17.2])), (q4, .inl (E.2.1, 81, .inl f12))] rfl rfl rfl ?_
      exact V_iret rfl (dX8_cut 11 rfl) ⟨rfl, rfl⟩
  · intro k14 hk15
    refine V_if_ne (dX8_cut 4 rfl) 13 (by decide) 9 rfl ?_ ?_
    · refine V_iconst (0 : Int32) (by decide) (dX8_cut 7 rfl) 14 rfl ?_
      refine V_world [1, 0] [(q1, .inr (9, [.int i3, .ref q4, v5, .int i6, .int i7, .int i8, .int i9, .int i10, .int i11])), (q4, .inl (E.2.1, 81, .inl f12))] rfl rfl rfl ?_
      exact hk15 (0 : Int32)
    · refine V_iconst (1 : Int32) (by decide) (dX8_cut 5 rfl) 10 rfl ?_
      refine V_goto (dX8_cut 6 rfl) 14 (by decide) ?_
      refine V_world [1, 0] [(q1, .inr (9, [.int i3, .ref q4, v5, .int i6, .int i7, .int i8, .int i9, .int i10, .int i11])), (q4, .inl (E.2.1, 81, .inl f12))] rfl rfl rfl ?_
      exact hk15 (1 : Int32))
set_option maxRecDepth 20000 in
theorem kX8_least_ {E : EX} {l : Launch} (hl : l.stackTraces = false) (q1 q3 : Nat) (i2 : Int32) (v4 : Value) (i5 i6 i7 i8 i9 i10 : Int32) (f11 : Nat → Int32) : Ct E l mX8_least_ [.ref q1] [(q1, .inr (9, [.int i2, .ref q3, v4, .int i5, .int i6, .int i7, .int i8, .int i9, .int i10])), (q3, .inl (E.2.1, 81, .inl f11))] (fX8_least_ i2 i5 i6 f11) (zX8_least_ E q1 q3 i2 v4 i5 i6 i7 i8 i9 f11) := Ct_of hl mf_X8_least_.1 (Nat.le_of_ble_eq_true rfl) (fun K hs => by
  refine V_less 0 0 (Nat.le_refl _) (Nat.le_refl _) ?_
  refine V_pick [0] [(0, .ref q1)] rfl ?_
  unfold fX8_least_
  refine V_aload_n (dX8_least_ 0 rfl) 1 rfl 0 rfl ?_
  refine V_iconst (0 : Int32) (by decide) (dX8_least_ 1 rfl) 2 rfl ?_
  refine V_put pf_M_13 0 rfl rfl rfl (Nat.le_of_ble_eq_true rfl) (dX8_least_ 2 rfl) 5 rfl [(q1, .inr (9, [.int i2, .ref q3, v4, .int i5, .int i6, .int i7, .int i8, .int i9, .int (0 : Int32)])), (q3, .inl (E.2.1, 81, .inl f11))] rfl ?_
  refine V_aload_n (dX8_least_ 3 rfl) 6 rfl 0 rfl ?_
  refine V_callV (M := mX8_least_) (wcs := [(q1, .inr (9, [.int i2, .ref q3, v4, .int i5, .int i6, .int i7, .int i8, .int i9, .int (0 : Int32)])), (q3, .inl (E.2.1, 81, .inl f11))]) (wr := []) mf_X8_leastNow tw_1490 tw_1492 tw_53 ⟨Nat.le_of_ble_eq_true rfl, Nat.le_of_ble_eq_true rfl⟩ (dX8_least_ 4 rfl) 9 rfl (kX8_leastNow hs q1 q3 i2 v4 i5 i6 i7 i8 i9 (0 : Int32) f11) rfl [0, 1] [] (q0 := 0) rfl rfl rfl rfl (by decide) rfl rfl rfl rfl (Nat.le_of_ble_eq_true rfl) 0 0 (show 0 + 0 ≤ 0 from Nat.le_of_ble_eq_true rfl) (show 0 + 0 ≤ 0 from Nat.le_of_ble_eq_true rfl) (fun z12 v w hz => ?_)
  obtain ⟨rfl, rfl⟩ := hz
  show V E K mX8_least_ (Qm E K mX8_least_ (zX8_least_ E q1 q3 i2 v4 i5 i6 i7 i8 i9 f11)) 0 0 [(q1, .inr (9, [.int i2, .ref q3, v4, .int i5, .int i6, .int i7, .int i8, .int i9, .int (0 : Int32)])), (q3, .inl (E.2.1, 81, .inl f11))] 9 [(0, .ref q1)] [.int z12] _
  exact V_iret rfl (dX8_least_ 5 rfl) ⟨rfl, rfl⟩)
set_option maxRecDepth 20000 in
theorem kX8_isLeast {E : EX} {l : Launch} (hl : l.stackTraces = false) (q1 q4 : Nat) (i3 : Int32) (v5 : Value) (i6 i7 i8 i9 i10 i11 : Int32) (f12 : Nat → Int32) (i2 : Int32) : Ct E l mX8_isLeast [.ref q1, .int i2] [(q1, .inr (9, [.int i3, .ref q4, v5, .int i6, .int i7, .int i8, .int i9, .int i10, .int i11])), (q4, .inl (E.2.1, 81, .inl f12))] (fX8_isLeast i3 i6 i7 f12 i2) (zX8_isLeast E q1 q4 i3 v5 i6 i7 i8 i9 i10 f12) := Ct_of hl mf_X8_isLeast.1 (Nat.le_of_ble_eq_true rfl) (fun K hs => by
  refine V_less 0 0 (Nat.le_refl _) (Nat.le_refl _) ?_
  refine V_pick [0, 1] [(0, .ref q1), (1, .int i2)] rfl ?_
  unfold fX8_isLeast
  refine V_aload_n (dX8_isLeast 0 rfl) 1 rfl 0 rfl ?_
  refine V_aload_n (dX8_isLeast 1 rfl) 2 rfl 0 rfl ?_
  refine V_iload_n (dX8_isLeast 2 rfl) 3 rfl 1 rfl ?_
  refine V_callV (M := mX8_isLeast) (wcs := [(q1, .inr (9, [.int i3, .ref q4, v5, .int i6, .int i7, .int i8, .int i9, .int i10, .int i11]))]) (wr := [(q4, .inl (E.2.1, 81, .inl f12))]) mf_X8_isSet tw_1475 tw_1477 tw_51 ⟨Nat.le_of_ble_eq_true rfl, Nat.le_of_ble_eq_true rfl⟩ (dX8_isLeast 3 rfl) 6 rfl (kX8_isSet hs q1 i3 (.ref q4) v5 i6 i7 i8 i9 i10 i11 i2) rfl [0] [1] (q0 := 0) rfl rfl rfl rfl (by decide) rfl rfl rfl rfl (Nat.le_of_ble_eq_true rfl) 0 0 (show 0 + 0 ≤ 0 from Nat.le_of_ble_eq_true rfl) (show 0 + 0 ≤ 0 from Nat.le_of_ble_eq_true rfl) (fun z13 v w hz => ?_)
  obtain ⟨rfl, rfl⟩ := hz
  show V E K mX8_isLeast (Qm E K mX8_isLeast (zX8_isLeast E q1 q4 i3 v5 i6 i7 i8 i9 i10 f12)) 0 0 [(q4, .inl (E.2.1, 81, .inl f12)), (q1, .inr (9, [.int i3, .ref q4, v5, .int i6, .int i7, .int i8, .int i9, .int i10, .int i11]))] 6 [(0, .ref q1), (1, .int i2)] [.int z13, .ref q1] _
  refine V_jn (fun (k14 : Int32 → Option (Int32 × Int32)) => ∀ (i16 : Int32), V E K mX8_isLeast (Qm E K mX8_isLeast (zX8_isLeast E q1 q4 i3 v5 i6 i7 i8 i9 i10 f12)) 0 0 [(q1, .inr (9, [.int i3, .ref q4, v5, .int i6, .int i7, .int i8, .int i9, .int i10, .int i11])), (q4, .inl (E.2.1, 81, .inl f12))] 14 [(0, .ref q1), (1, .int i2)] [.int i16, .ref q1] (k14 i16)) ?_ ?_
  · intro i16
    show V E K mX8_isLeast (Qm E K mX8_isLeast (zX8_isLeast E q1 q4 i3 v5 i6 i7 i8 i9 i10 f12)) 0 0 [(q1, .inr (9, [.int i3, .ref q4, v5, .int i6, .int i7, .int i8, .int i9, .int i10, .int i11])), (q4, .inl (E.2.1, 81, .inl f12))] 14 [(0, .ref q1), (1, .int i2)] [.int i16, .ref q1] _
    refine V_callV (M := mX8_isLeast) (wcs := [(q1, .inr (9, [.int i3, .ref q4, v5, .int i6, .int i7, .int i8, .int i9, .int i10, .int i11]))]) (wr := [(q4, .inl (E.2.1, 81, .inl f12))]) mf_X8_isThrown_ tw_1283 tw_1285 tw_27 ⟨Nat.le_of_ble_eq_true rfl, Nat.le_of_ble_eq_true rfl⟩ (dX8_isLeast 8 rfl) 17 rfl (kX8_isThrown_ hs q1 i3 (.ref q4) v5 i6 i7 i8 i9 i10 i11 i16) rfl [0] [1] (q0 := 0) rfl rfl rfl rfl (by decide) rfl rfl rfl rfl (Nat.le_of_ble_eq_true rfl) 0 0 (show 0 + 0 ≤ 0 from Nat.le_of_ble_eq_true rfl) (show 0 + 0 ≤ 0 from Nat.le_of_ble_eq_true rfl) (fun z17 v w hz => ?_)
    obtain ⟨rfl, rfl⟩ := hz
    show V E K mX8_isLeast (Qm E K mX8_isLeast (zX8_isLeast E q1 q4 i3 v5 i6 i7 i8 i9 i10 f12)) 0 0 [(q4, .inl (E.2.1, 81, .inl f12)), (q1, .inr (9, [.int i3, .ref q4, v5, .int i6, .int i7, .int i8, .int i9, .int i10, .int z17.2]))] 17 [(0, .ref q1), (1, .int i2)] [.int z17.1] _
    refine V_if_ne (dX8_isLeast 9 rfl) 55 (by decide) 20 rfl ?_ ?_
    · refine V_iconst (0 : Int32) (by decide) (dX8_isLeast 27 rfl) 56 rfl ?_
      refine V_world [1, 0] [(q1, .inr (9, [.int i3, .ref q4, v5, .int i6, .int i7, .int i8, .int i9, .int i10, .int z17.2])), (q4, .inl (E.2.1, 81, .inl f12))] rfl rfl rfl ?_
      exact V_zret rfl (by decide) (dX8_isLeast 28 rfl) ⟨rfl, rfl⟩
    · refine V_iload_n (dX8_isLeast 10 rfl) 21 rfl 1 rfl ?_
      refine V_aload_n (dX8_isLeast 11 rfl) 22 rfl 0 rfl ?_
      refine V_get gf_M_27 1 rfl rfl (dX8_isLeast 12 rfl) 25 rfl ?_
      refine V_aload_n (dX8_isLeast 13 rfl) 26 rfl 0 rfl ?_
      refine V_get gf_M_30 1 rfl rfl (dX8_isLeast 14 rfl) 29 rfl ?_
      refine V_callS (M := mX8_isLeast) (wcs := []) (wr := [(q4, .inl (E.2.1, 81, .inl f12)), (q1, .inr (9, [.int i3, .ref q4, v5, .int i6, .int i7, .int i8, .int i9, .int i10, .int z17.2]))]) mf_X8_isCut tw_1479 tw_1480 ⟨Nat.le_of_ble_eq_true rfl, Nat.le_of_ble_eq_true rfl⟩ (dX8_isLeast 15 rfl) 32 rfl (kX8_isCut hs i2 i6 i7) rfl [] [0, 1] rfl rfl rfl rfl (by decide) rfl (Nat.le_of_ble_eq_true rfl) 0 0 (show 0 + 0 ≤ 0 from Nat.le_of_ble_eq_true rfl) (show 0 + 0 ≤ 0 from Nat.le_of_ble_eq_true rfl) (fun z18 v w hz => ?_)
      obtain ⟨rfl, rfl⟩ := hz
      show V E K mX8_isLeast (Qm E K mX8_isLeast (zX8_isLeast E q1 q4 i3 v5 i6 i7 i8 i9 i10 f12)) 0 0 [(q4, .inl (E.2.1, 81, .inl f12)), (q1, .inr (9, [.int i3, .ref q4, v5, .int i6, .int i7, .int i8, .int i9, .int i10, .int z17.2]))] 32 [(0, .ref q1), (1, .int i2)] [.int z18] _
      refine V_if_eq (dX8_isLeast 16 rfl) 55 (by decide) 35 rfl ?_ ?_
      · refine V_iconst (0 : Int32) (by decide) (dX8_isLeast 27 rfl) 56 rfl ?_
        refine V_world [1, 0] [(q1, .inr (9, [.int i3, .ref q4, v5, .int i6, .int i7, .int i8, .int i9, .int i10, .int z17.2])), (q4, .inl (E.2.1, 81, .inl f12))] rfl rfl rfl ?_
        exact V_zret rfl (by decide) (dX8_isLeast 28 rfl) ⟨rfl, rfl⟩
      · refine V_aload_n (dX8_isLeast 17 rfl) 36 rfl 0 rfl ?_
        refine V_aload_n (dX8_isLeast 18 rfl) 37 rfl 0 rfl ?_
        refine V_get gf_M_20 1 rfl rfl (dX8_isLeast 19 rfl) 40 rfl ?_
        refine V_iload_n (dX8_isLeast 20 rfl) 41 rfl 1 rfl ?_
        refine V_callV (M := mX8_isLeast) (wcs := [(q1, .inr (9, [.int i3, .ref q4, v5, .int i6, .int i7, .int i8, .int i9, .int i10, .int z17.2])), (q4, .inl (E.2.1, 81, .inl f12))]) (wr := []) mf_X8_through tw_1482 tw_1484 tw_52 ⟨Nat.le_of_ble_eq_true rfl, Nat.le_of_ble_eq_true rfl⟩ (dX8_isLeast 21 rfl) 44 rfl (kX8_through hs q1 q4 i3 (.ref q4) v5 i6 i7 i8 i9 i10 z17.2 f12 i2) rfl [1, 0] [] (q0 := 0) rfl rfl rfl rfl (by decide) rfl rfl rfl rfl (Nat.le_of_ble_eq_true rfl) 0 0 (show 0 + 0 ≤ 0 from Nat.le_of_ble_eq_true rfl) (show 0 + 0 ≤ 0 from Nat.le_of_ble_eq_true rfl) (fun z19 v w hz => ?_)
        obtain ⟨rfl, rfl⟩ := hz
        show V E K mX8_isLeast (Qm E K mX8_isLeast (zX8_isLeast E q1 q4 i3 v5 i6 i7 i8 i9 i10 f12)) 0 0 [(q1, .inr (9, [.int i3, .ref q4, v5, .int i6, .int i7, .int i8, .int i9, .int i10, .int z17.2])), (q4, .inl (E.2.1, 81, .inl f12))] 44 [(0, .ref q1), (1, .int i2)] [.int z19] _
        refine V_aload_n (dX8_isLeast 22 rfl) 45 rfl 0 rfl ?_
        refine V_callV (M := mX8_isLeast) (wcs := [(q1, .inr (9, [.int i3, .ref q4, v5, .int i6, .int i7, .int i8, .int i9, .int i10, .int z17.2])), (q4, .inl (E.2.1, 81, .inl f12))]) (wr := []) mf_X8_leastNow tw_1490 tw_1492 tw_53 ⟨Nat.le_of_ble_eq_true rfl, Nat.le_of_ble_eq_true rfl⟩ (dX8_isLeast 23 rfl) 48 rfl (kX8_leastNow hs q1 q4 i3 v5 i6 i7 i8 i9 i10 z17.2 f12) rfl [0, 1] [] (q0 := 0) rfl rfl rfl rfl (by decide) rfl rfl rfl rfl (Nat.le_of_ble_eq_true rfl) 0 0 (show 0 + 0 ≤ 0 from Nat.le_of_ble_eq_true rfl) (show 0 + 0 ≤ 0 from Nat.le_of_ble_eq_true rfl) (fun z20 v w hz => ?_)
        obtain ⟨rfl, rfl⟩ := hz
        show V E K mX8_isLeast (Qm E K mX8_isLeast (zX8_isLeast E q1 q4 i3 v5 i6 i7 i8 i9 i10 f12)) 0 0 [(q1, .inr (9, [.int i3, .ref q4, v5, .int i6, .int i7, .int i8, .int i9, .int i10, .int z17.2])), (q4, .inl (E.2.1, 81, .inl f12))] 48 [(0, .ref q1), (1, .int i2)] [.int z20, .int z19] _
        refine V_icmp_ne (dX8_isLeast 24 rfl) 55 (by decide) 51 rfl ?_ ?_
        · refine V_iconst (0 : Int32) (by decide) (dX8_isLeast 27 rfl) 56 rfl ?_
          exact V_zret rfl (by decide) (dX8_isLeast 28 rfl) ⟨rfl, rfl⟩
        · refine V_iconst (1 : Int32) (by decide) (dX8_isLeast 25 rfl) 52 rfl ?_
          refine V_goto (dX8_isLeast 26 rfl) 56 (by decide) ?_
          exact V_zret rfl (by decide) (dX8_isLeast 28 rfl) ⟨rfl, rfl⟩
  · intro k14 hk15
    refine V_if_ne (dX8_isLeast 4 rfl) 13 (by decide) 9 rfl ?_ ?_
    · refine V_iconst (0 : Int32) (by decide) (dX8_isLeast 7 rfl) 14 rfl ?_
      refine V_world [1, 0] [(q1, .inr (9, [.int i3, .ref q4, v5, .int i6, .int i7, .int i8, .int i9, .int i10, .int i11])), (q4, .inl (E.2.1, 81, .inl f12))] rfl rfl rfl ?_
      exact hk15 (0 : Int32)
    · refine V_iconst (1 : Int32) (by decide) (dX8_isLeast 5 rfl) 10 rfl ?_
      refine V_goto (dX8_isLeast 6 rfl) 14 (by decide) ?_
      refine V_world [1, 0] [(q1, .inr (9, [.int i3, .ref q4, v5, .int i6, .int i7, .int i8, .int i9, .int i10, .int i11])), (q4, .inl (E.2.1, 81, .inl f12))] rfl rfl rfl ?_
      exact hk15 (1 : Int32))
set_option maxRecDepth 20000 in
theorem kX8_leasts {E : EX} {l : Launch} (hl : l.stackTraces = false) (q1 q3 : Nat) (i2 : Int32) (v4 : Value) (i5 i6 i7 i8 i9 i10 : Int32) (f11 : Nat → Int32) : Ct E l mX8_leasts [.ref q1] [(q1, .inr (9, [.int i2, .ref q3, v4, .int i5, .int i6, .int i7, .int i8, .int i9, .int i10])), (q3, .inl (E.2.1, 81, .inl f11))] (fX8_leasts i2 i5 i6 f11) (zX8_leasts E q1 q3 i2 v4 i5 i6 i7 i8 i9 f11) := Ct_of hl mf_X8_leasts.1 (Nat.le_of_ble_eq_true rfl) (fun K hs => by
  refine V_less 0 0 (Nat.le_refl _) (Nat.le_refl _) ?_
  refine V_pick [0] [(0, .ref q1)] rfl ?_
  unfold fX8_leasts
  refine V_aload_n (dX8_leasts 0 rfl) 1 rfl 0 rfl ?_
  refine V_iconst (0 : Int32) (by decide) (dX8_leasts 1 rfl) 2 rfl ?_
  refine V_put pf_M_13 0 rfl rfl rfl (Nat.le_of_ble_eq_true rfl) (dX8_leasts 2 rfl) 5 rfl [(q1, .inr (9, [.int i2, .ref q3, v4, .int i5, .int i6, .int i7, .int i8, .int i9, .int (0 : Int32)])), (q3, .inl (E.2.1, 81, .inl f11))] rfl ?_
  refine V_aload_n (dX8_leasts 3 rfl) 6 rfl 0 rfl ?_
  refine V_callV (M := mX8_leasts) (wcs := [(q1, .inr (9, [.int i2, .ref q3, v4, .int i5, .int i6, .int i7, .int i8, .int i9, .int (0 : Int32)])), (q3, .inl (E.2.1, 81, .inl f11))]) (wr := []) mf_X8_leastsNow tw_1506 tw_1508 tw_55 ⟨Nat.le_of_ble_eq_true rfl, Nat.le_of_ble_eq_true rfl⟩ (dX8_leasts 4 rfl) 9 rfl (kX8_leastsNow hs q1 q3 i2 v4 i5 i6 i7 i8 i9 (0 : Int32) f11) rfl [0, 1] [] (q0 := 0) rfl rfl rfl rfl (by decide) rfl rfl rfl rfl (Nat.le_of_ble_eq_true rfl) 0 0 (show 0 + 0 ≤ 0 from Nat.le_of_ble_eq_true rfl) (show 0 + 0 ≤ 0 from Nat.le_of_ble_eq_true rfl) (fun z12 v w hz => ?_)
  obtain ⟨rfl, rfl⟩ := hz
  show V E K mX8_leasts (Qm E K mX8_leasts (zX8_leasts E q1 q3 i2 v4 i5 i6 i7 i8 i9 f11)) 0 0 [(q1, .inr (9, [.int i2, .ref q3, v4, .int i5, .int i6, .int i7, .int i8, .int i9, .int (0 : Int32)])), (q3, .inl (E.2.1, 81, .inl f11))] 9 [(0, .ref q1)] [.int z12] _
  exact V_iret rfl (dX8_leasts 5 rfl) ⟨rfl, rfl⟩)
set_option maxRecDepth 20000 in
theorem vBX8_nthLeast_L28 {E : EX} {K : KX} (hs : K.l.stackTraces = false) (q1 q4 : Nat) (i3 : Int32) (v5 : Value) (i6 i7 i8 i9 i10 : Int32) (f12 : Nat → Int32) (i36 i39 : Int32) (bc bs : Nat) (i37 i38 : Int32) {rec : Int32 → Int32 → Option (Int32 × Int32)}  (hrec : ∀ (i37 i38 : Int32), V E K mX8_nthLeast (Qm E K mX8_nthLeast (zX8_nthLeast E q1 q4 i3 v5 i6 i7 i8 i9 i10 f12)) (bc) (bs) [(q1, .inr (9, [.int i3, .ref q4, v5, .int i6, .int i7, .int i8, .int i9, .int i10, .int i39])), (q4, .inl (E.2.1, 81, .inl f12))] 28 [(0, .ref q1), (2, .int i36), (3, .int i37), (4, .int i38)] [] (rec i37 i38))  : V E K mX8_nthLeast (Qm E K mX8_nthLeast (zX8_nthLeast E q1 q4 i3 v5 i6 i7 i8 i9 i10 f12)) (bc) (bs) [(q1, .inr (9, [.int i3, .ref q4, v5, .int i6, .int i7, .int i8, .int i9, .int i10, .int i39])), (q4, .inl (E.2.1, 81, .inl f12))] 28 [(0, .ref q1), (2, .int i36), (3, .int i37), (4, .int i38)] [] (BX8_nthLeast_L28  i3 i6 i7 f12 i36 i39 i37 i38 rec ) := by
  unfold BX8_nthLeast_L28
  refine V_iload (dX8_nthLeast 17 rfl) 30 rfl 3 rfl ?_
  refine V_iconst (1 : Int32) (by decide) (dX8_nthLeast 18 rfl) 31 rfl ?_
  refine V_aload_n (dX8_nthLeast 19 rfl) 32 rfl 0 rfl ?_
  refine V_get gf_M_17 0 rfl rfl (dX8_nthLeast 20 rfl) 35 rfl ?_
  refine V_ishl (dX8_nthLeast 21 rfl) 36 rfl ?_
  refine V_icmp_ge (dX8_nthLeast 22 rfl) 88 (by decide) 39 rfl ?_ ?_
  · refine V_iconst (-1 : Int32) (by decide) (dX8_nthLeast 45 rfl) 89 rfl ?_
    exact V_iret rfl (dX8_nthLeast 46 rfl) ⟨rfl, rfl⟩
  · refine V_iload (dX8_nthLeast 23 rfl) 41 rfl 3 rfl ?_
    refine V_aload_n (dX8_nthLeast 24 rfl) 42 rfl 0 rfl ?_
    refine V_get gf_M_27 0 rfl rfl (dX8_nthLeast 25 rfl) 45 rfl ?_
    refine V_aload_n (dX8_nthLeast 26 rfl) 46 rfl 0 rfl ?_
    refine V_get gf_M_30 0 rfl rfl (dX8_nthLeast 27 rfl) 49 rfl ?_
    refine V_callS (M := mX8_nthLeast) (wcs := []) (wr := [(q1, .inr (9, [.int i3, .ref q4, v5, .int i6, .int i7, .int i8, .int i9, .int i10, .int i39])), (q4, .inl (E.2.1, 81, .inl f12))]) mf_X8_isCut tw_1479 tw_1480 ⟨Nat.le_of_ble_eq_true rfl, Nat.le_of_ble_eq_true rfl⟩ (dX8_nthLeast 28 rfl) 52 rfl (kX8_isCut hs i38 i6 i7) rfl [] [0, 1] rfl rfl rfl rfl (by decide) rfl (Nat.le_of_ble_eq_true rfl) (bc) (bs) (show (bc) + 0 ≤ (bc) by omega) (show (bs) + 0 ≤ (bs) by omega) (fun z40 v w hz => ?_)
    obtain ⟨rfl, rfl⟩ := hz
    show V E K mX8_nthLeast (Qm E K mX8_nthLeast (zX8_nthLeast E q1 q4 i3 v5 i6 i7 i8 i9 i10 f12)) (bc) (bs) [(q1, .inr (9, [.int i3, .ref q4, v5, .int i6, .int i7, .int i8, .int i9, .int i10, .int i39])), (q4, .inl (E.2.1, 81, .inl f12))] 52 [(0, .ref q1), (2, .int i36), (3, .int i37), (4, .int i38)] [.int z40] _
    refine V_jn (fun (k41 : Int32 → Option (Int32 × Int32)) => ∀ (i44 : Int32), V E K mX8_nthLeast (Qm E K mX8_nthLeast (zX8_nthLeast E q1 q4 i3 v5 i6 i7 i8 i9 i10 f12)) (bc) (bs) [(q1, .inr (9, [.int i3, .ref q4, v5, .int i6, .int i7, .int i8, .int i9, .int i10, .int i39])), (q4, .inl (E.2.1, 81, .inl f12))] 82 [(0, .ref q1), (2, .int i36), (3, .int i44), (4, .int i38)] [] (k41 i44)) ?_ ?_
    · intro i44
      show V E K mX8_nthLeast (Qm E K mX8_nthLeast (zX8_nthLeast E q1 q4 i3 v5 i6 i7 i8 i9 i10 f12)) (bc) (bs) [(q1, .inr (9, [.int i3, .ref q4, v5, .int i6, .int i7, .int i8, .int i9, .int i10, .int i39])), (q4, .inl (E.2.1, 81, .inl f12))] 82 [(0, .ref q1), (2, .int i36), (3, .int i44), (4, .int i38)] [] _
      refine V_iinc (dX8_nthLeast 43 rfl) 85 rfl 3 rfl (i38 + (1 : Int32)) rfl [(0, .ref q1), (2, .int i36), (3, .int i44), (4, .int (i38 + (1 : Int32)))] (Nat.le_of_ble_eq_true rfl) rfl ?_
      refine V_goto (dX8_nthLeast 44 rfl) 28 (by decide) ?_
      exact hrec i44 (i38 + (1 : Int32))
    · intro k41 hk42
      refine V_if_eq (dX8_nthLeast 29 rfl) 82 (by decide) 55 rfl ?_ ?_
      · exact hk42 i37
      · refine V_aload_n (dX8_nthLeast 30 rfl) 56 rfl 0 rfl ?_
        refine V_aload_n (dX8_nthLeast 31 rfl) 57 rfl 0 rfl ?_
        refine V_get gf_M_20 0 rfl rfl (dX8_nthLeast 32 rfl) 60 rfl ?_
        refine V_iload (dX8_nthLeast 33 rfl) 62 rfl 3 rfl ?_
        refine V_callV (M := mX8_nthLeast) (wcs := [(q1, .inr (9, [.int i3, .ref q4, v5, .int i6, .int i7, .int i8, .int i9, .int i10, .int i39])), (q4, .inl (E.2.1, 81, .inl f12))]) (wr := []) mf_X8_through tw_1482 tw_1484 tw_52 ⟨Nat.le_of_ble_eq_true rfl, Nat.le_of_ble_eq_true rfl⟩ (dX8_nthLeast 34 rfl) 65 rfl (kX8_through hs q1 q4 i3 (.ref q4) v5 i6 i7 i8 i9 i10 i39 f12 i38) rfl [0, 1] [] (q0 := 0) rfl rfl rfl rfl (by decide) rfl rfl rfl rfl (Nat.le_of_ble_eq_true rfl) (bc) (bs) (show (bc) + 0 ≤ (bc) by omega) (show (bs) + 0 ≤ (bs) by omega) (fun z43 v w hz => ?_)
        obtain ⟨rfl, rfl⟩ := hz
        show V E K mX8_nthLeast (Qm E K mX8_nthLeast (zX8_nthLeast E q1 q4 i3 v5 i6 i7 i8 i9 i10 f12)) (bc) (bs) [(q1, .inr (9, [.int i3, .ref q4, v5, .int i6, .int i7, .int i8, .int i9, .int i10, .int i39])), (q4, .inl (E.2.1, 81, .inl f12))] 65 [(0, .ref q1), (2, .int i36), (3, .int i37), (4, .int i38)] [.int z43] _
        refine V_iload_n (dX8_nthLeast 35 rfl) 66 rfl 1 rfl ?_
        refine V_icmp_eq (dX8_nthLeast 36 rfl) 72 (by decide) 69 rfl ?_ ?_
        · refine V_iload_n (dX8_nthLeast 38 rfl) 73 rfl 2 rfl ?_
          refine V_if_ne (dX8_nthLeast 39 rfl) 79 (by decide) 76 rfl ?_ ?_
          · refine V_iinc (dX8_nthLeast 42 rfl) 82 rfl 2 rfl (i37 + (-1 : Int32)) rfl [(0, .ref q1), (2, .int i36), (3, .int (i37 + (-1 : Int32))), (4, .int i38)] (Nat.le_of_ble_eq_true rfl) rfl ?_
            exact hk42 (i37 + (-1 : Int32))
          · refine V_iload (dX8_nthLeast 40 rfl) 78 rfl 3 rfl ?_
            exact V_iret rfl (dX8_nthLeast 41 rfl) ⟨rfl, rfl⟩
        · refine V_goto (dX8_nthLeast 37 rfl) 82 (by decide) ?_
          exact hk42 i37
set_option maxRecDepth 20000 in
theorem vLX8_nthLeast_L28 {E : EX} {K : KX} (hs : K.l.stackTraces = false) (q1 q4 : Nat) (i3 : Int32) (v5 : Value) (i6 i7 i8 i9 i10 : Int32) (f12 : Nat → Int32) (i36 i39 : Int32) (bc bs : Nat)   : ∀ (n : Nat) (i37 i38 : Int32), V E K mX8_nthLeast (Qm E K mX8_nthLeast (zX8_nthLeast E q1 q4 i3 v5 i6 i7 i8 i9 i10 f12)) (bc) (bs) [(q1, .inr (9, [.int i3, .ref q4, v5, .int i6, .int i7, .int i8, .int i9, .int i10, .int i39])), (q4, .inl (E.2.1, 81, .inl f12))] 28 [(0, .ref q1), (2, .int i36), (3, .int i37), (4, .int i38)] [] (LX8_nthLeast_L28  i3 i6 i7 f12 i36 i39 n i37 i38 )
  | 0, _, _ => V_none
  | n + 1, i37, i38 => vBX8_nthLeast_L28 hs q1 q4 i3 v5 i6 i7 i8 i9 i10 f12 i36 i39 bc bs i37 i38 (fun i37 i38 => vLX8_nthLeast_L28 hs q1 q4 i3 v5 i6 i7 i8 i9 i10 f12 i36 i39 bc bs  n i37 i38) 
set_option maxRecDepth 20000 in
theorem kX8_nthLeast {E : EX} {l : Launch} (hl : l.stackTraces = false) (q1 q4 : Nat) (i3 : Int32) (v5 : Value) (i6 i7 i8 i9 i10 i11 : Int32) (f12 : Nat → Int32) (i2 : Int32) : Ct E l mX8_nthLeast [.ref q1, .int i2] [(q1, .inr (9, [.int i3, .ref q4, v5, .int i6, .int i7, .int i8, .int i9, .int i10, .int i11])), (q4, .inl (E.2.1, 81, .inl f12))] (fX8_nthLeast i3 i6 i7 f12 i2) (zX8_nthLeast E q1 q4 i3 v5 i6 i7 i8 i9 i10 f12) := Ct_of hl mf_X8_nthLeast.1 (Nat.le_of_ble_eq_true rfl) (fun K hs => by
  refine V_less 0 0 (Nat.le_refl _) (Nat.le_refl _) ?_
  refine V_pick [0, 1] [(0, .ref q1), (1, .int i2)] rfl ?_
  unfold fX8_nthLeast
  refine V_aload_n (dX8_nthLeast 0 rfl) 1 rfl 0 rfl ?_
  refine V_iload_n (dX8_nthLeast 1 rfl) 2 rfl 1 rfl ?_
  refine V_jn (fun (k13 : Int32 → Option (Int32 × Int32)) => ∀ (i15 : Int32), V E K mX8_nthLeast (Qm E K mX8_nthLeast (zX8_nthLeast E q1 q4 i3 v5 i6 i7 i8 i9 i10 f12)) 0 0 [(q1, .inr (9, [.int i3, .ref q4, v5, .int i6, .int i7, .int i8, .int i9, .int i10, .int i11])), (q4, .inl (E.2.1, 81, .inl f12))] 10 [(0, .ref q1), (1, .int i2)] [.int i15, .ref q1] (k13 i15)) ?_ ?_
  · intro i15
    show V E K mX8_nthLeast (Qm E K mX8_nthLeast (zX8_nthLeast E q1 q4 i3 v5 i6 i7 i8 i9 i10 f12)) 0 0 [(q1, .inr (9, [.int i3, .ref q4, v5, .int i6, .int i7, .int i8, .int i9, .int i10, .int i11])), (q4, .inl (E.2.1, 81, .inl f12))] 10 [(0, .ref q1), (1, .int i2)] [.int i15, .ref q1] _
    refine V_callV (M := mX8_nthLeast) (wcs := [(q1, .inr (9, [.int i3, .ref q4, v5, .int i6, .int i7, .int i8, .int i9, .int i10, .int i11]))]) (wr := [(q4, .inl (E.2.1, 81, .inl f12))]) mf_X8_isThrown_ tw_1283 tw_1285 tw_27 ⟨Nat.le_of_ble_eq_true rfl, Nat.le_of_ble_eq_true rfl⟩ (dX8_nthLeast 6 rfl) 13 rfl (kX8_isThrown_ hs q1 i3 (.ref q4) v5 i6 i7 i8 i9 i10 i11 i15) rfl [0] [1] (q0 := 0) rfl rfl rfl rfl (by decide) rfl rfl rfl rfl (Nat.le_of_ble_eq_true rfl) 0 0 (show 0 + 0 ≤ 0 from Nat.le_of_ble_eq_true rfl) (show 0 + 0 ≤ 0 from Nat.le_of_ble_eq_true rfl) (fun z16 v w hz => ?_)
    obtain ⟨rfl, rfl⟩ := hz
    show V E K mX8_nthLeast (Qm E K mX8_nthLeast (zX8_nthLeast E q1 q4 i3 v5 i6 i7 i8 i9 i10 f12)) 0 0 [(q4, .inl (E.2.1, 81, .inl f12)), (q1, .inr (9, [.int i3, .ref q4, v5, .int i6, .int i7, .int i8, .int i9, .int i10, .int z16.2]))] 13 [(0, .ref q1), (1, .int i2)] [.int z16.1] _
    refine V_if_eq (dX8_nthLeast 7 rfl) 18 (by decide) 16 rfl ?_ ?_
    · refine V_aload_n (dX8_nthLeast 10 rfl) 19 rfl 0 rfl ?_
      refine V_callV (M := mX8_nthLeast) (wcs := [(q1, .inr (9, [.int i3, .ref q4, v5, .int i6, .int i7, .int i8, .int i9, .int i10, .int z16.2])), (q4, .inl (E.2.1, 81, .inl f12))]) (wr := []) mf_X8_leastNow tw_1490 tw_1492 tw_53 ⟨Nat.le_of_ble_eq_true rfl, Nat.le_of_ble_eq_true rfl⟩ (dX8_nthLeast 11 rfl) 22 rfl (kX8_leastNow hs q1 q4 i3 v5 i6 i7 i8 i9 i10 z16.2 f12) rfl [1, 0] [] (q0 := 0) rfl rfl rfl rfl (by decide) rfl rfl rfl rfl (Nat.le_of_ble_eq_true rfl) 0 0 (show 0 + 0 ≤ 0 from Nat.le_of_ble_eq_true rfl) (show 0 + 0 ≤ 0 from Nat.le_of_ble_eq_true rfl) (fun z17 v w hz => ?_)
      obtain ⟨rfl, rfl⟩ := hz
      show V E K mX8_nthLeast (Qm E K mX8_nthLeast (zX8_nthLeast E q1 q4 i3 v5 i6 i7 i8 i9 i10 f12)) 0 0 [(q1, .inr (9, [.int i3, .ref q4, v5, .int i6, .int i7, .int i8, .int i9, .int i10, .int z16.2])), (q4, .inl (E.2.1, 81, .inl f12))] 22 [(0, .ref q1), (1, .int i2)] [.int z17] _
      refine V_istore_n (dX8_nthLeast 12 rfl) 23 rfl [(0, .ref q1), (1, .int i2), (2, .int z17)] (Nat.le_of_ble_eq_true rfl) rfl ?_
      refine V_iload_n (dX8_nthLeast 13 rfl) 24 rfl 1 rfl ?_
      refine V_istore_n (dX8_nthLeast 14 rfl) 25 rfl [(0, .ref q1), (1, .int i2), (2, .int z17), (3, .int i2)] (Nat.le_of_ble_eq_true rfl) rfl ?_
      refine V_iconst (0 : Int32) (by decide) (dX8_nthLeast 15 rfl) 26 rfl ?_
      refine V_istore (dX8_nthLeast 16 rfl) 28 rfl [(0, .ref q1), (1, .int i2), (2, .int z17), (3, .int i2), (4, .int (0 : Int32))] (Nat.le_of_ble_eq_true rfl) rfl ?_
      refine V_pick [0, 2, 3, 4] [(0, .ref q1), (2, .int z17), (3, .int i2), (4, .int (0 : Int32))] rfl ?_
      refine vLX8_nthLeast_L28 hs q1 q4 i3 v5 i6 i7 i8 i9 i10 f12 z17 z16.2 0 0  600 i2 (0 : Int32)
    · refine V_iconst (0 : Int32) (by decide) (dX8_nthLeast 8 rfl) 17 rfl ?_
      refine V_world [1, 0] [(q1, .inr (9, [.int i3, .ref q4, v5, .int i6, .int i7, .int i8, .int i9, .int i10, .int z16.2])), (q4, .inl (E.2.1, 81, .inl f12))] rfl rfl rfl ?_
      exact V_iret rfl (dX8_nthLeast 9 rfl) ⟨rfl, rfl⟩
  · intro k13 hk14
    refine V_if_ge (dX8_nthLeast 2 rfl) 9 (by decide) 5 rfl ?_ ?_
    · refine V_iconst (0 : Int32) (by decide) (dX8_nthLeast 5 rfl) 10 rfl ?_
      exact hk14 (0 : Int32)
    · refine V_iconst (1 : Int32) (by decide) (dX8_nthLeast 3 rfl) 6 rfl ?_
      refine V_goto (dX8_nthLeast 4 rfl) 10 (by decide) ?_
      exact hk14 (1 : Int32))
set_option maxRecDepth 20000 in
theorem kX8_end {E : EX} {l : Launch} (hl : l.stackTraces = false) (q1 q4 : Nat) (i3 : Int32) (v5 : Value) (i6 i7 i8 i9 i10 i11 : Int32) (f12 : Nat → Int32) (i2 : Int32) : Ct E l mX8_end [.ref q1, .int i2] [(q1, .inr (9, [.int i3, .ref q4, v5, .int i6, .int i7, .int i8, .int i9, .int i10, .int i11])), (q4, .inl (E.2.1, 81, .inl f12))] (fX8_end i3 i6 i7 f12 i2) (zX8_end E q1 q4 i3 v5 i6 i7 i8 i9 i10 f12) := Ct_of hl mf_X8_end.1 (Nat.le_of_ble_eq_true rfl) (fun K hs => by
  refine V_less 0 0 (Nat.le_refl _) (Nat.le_refl _) ?_
  refine V_pick [0, 1] [(0, .ref q1), (1, .int i2)] rfl ?_
  unfold fX8_end
  refine V_aload_n (dX8_end 0 rfl) 1 rfl 0 rfl ?_
  refine V_iconst (0 : Int32) (by decide) (dX8_end 1 rfl) 2 rfl ?_
  refine V_put pf_M_13 0 rfl rfl rfl (Nat.le_of_ble_eq_true rfl) (dX8_end 2 rfl) 5 rfl [(q1, .inr (9, [.int i3, .ref q4, v5, .int i6, .int i7, .int i8, .int i9, .int i10, .int (0 : Int32)])), (q4, .inl (E.2.1, 81, .inl f12))] rfl ?_
  refine V_aload_n (dX8_end 3 rfl) 6 rfl 0 rfl ?_
  refine V_iload_n (dX8_end 4 rfl) 7 rfl 1 rfl ?_
  refine V_callV (M := mX8_end) (wcs := [(q1, .inr (9, [.int i3, .ref q4, v5, .int i6, .int i7, .int i8, .int i9, .int i10, .int (0 : Int32)])), (q4, .inl (E.2.1, 81, .inl f12))]) (wr := []) mf_X8_endNow tw_1518 tw_1520 tw_56 ⟨Nat.le_of_ble_eq_true rfl, Nat.le_of_ble_eq_true rfl⟩ (dX8_end 5 rfl) 10 rfl (kX8_endNow hs q1 q4 i3 v5 i6 i7 i8 i9 i10 (0 : Int32) f12 i2) rfl [0, 1] [] (q0 := 0) rfl rfl rfl rfl (by decide) rfl rfl rfl rfl (Nat.le_of_ble_eq_true rfl) 0 0 (show 0 + 0 ≤ 0 from Nat.le_of_ble_eq_true rfl) (show 0 + 0 ≤ 0 from Nat.le_of_ble_eq_true rfl) (fun z13 v w hz => ?_)
  obtain ⟨rfl, rfl⟩ := hz
  show V E K mX8_end (Qm E K mX8_end (zX8_end E q1 q4 i3 v5 i6 i7 i8 i9 i10 f12)) 0 0 [(q1, .inr (9, [.int i3, .ref q4, v5, .int i6, .int i7, .int i8, .int i9, .int i10, .int (0 : Int32)])), (q4, .inl (E.2.1, 81, .inl f12))] 10 [(0, .ref q1), (1, .int i2)] [.int z13] _
  exact V_iret rfl (dX8_end 6 rfl) ⟨rfl, rfl⟩)
set_option maxRecDepth 20000 in
theorem kX8_value {E : EX} {l : Launch} (hl : l.stackTraces = false) (q1 q4 : Nat) (i2 : Int32) (v3 : Value) (i5 i6 i7 i8 i9 i10 : Int32) (f11 : Nat → Int32) : Ct E l mX8_value [.ref q1] [(q1, .inr (9, [.int i2, v3, .ref q4, .int i5, .int i6, .int i7, .int i8, .int i9, .int i10])), (q4, .inl (E.2.1, 81, .inl f11))] (fX8_value i2 i5 f11) (zX8_value E q1 q4 i2 v3 i5 i6 i7 i8 i9 f11) := Ct_of hl mf_X8_value.1 (Nat.le_of_ble_eq_true rfl) (fun K hs => by
  refine V_less 0 0 (Nat.le_refl _) (Nat.le_refl _) ?_
  refine V_pick [0] [(0, .ref q1)] rfl ?_
  unfold fX8_value
  refine V_aload_n (dX8_value 0 rfl) 1 rfl 0 rfl ?_
  refine V_iconst (0 : Int32) (by decide) (dX8_value 1 rfl) 2 rfl ?_
  refine V_put pf_M_13 0 rfl rfl rfl (Nat.le_of_ble_eq_true rfl) (dX8_value 2 rfl) 5 rfl [(q1, .inr (9, [.int i2, v3, .ref q4, .int i5, .int i6, .int i7, .int i8, .int i9, .int (0 : Int32)])), (q4, .inl (E.2.1, 81, .inl f11))] rfl ?_
  refine V_aload_n (dX8_value 3 rfl) 6 rfl 0 rfl ?_
  refine V_callV (M := mX8_value) (wcs := [(q1, .inr (9, [.int i2, v3, .ref q4, .int i5, .int i6, .int i7, .int i8, .int i9, .int (0 : Int32)])), (q4, .inl (E.2.1, 81, .inl f11))]) (wr := []) mf_X8_valueNow tw_1303 tw_1305 tw_31 ⟨Nat.le_of_ble_eq_true rfl, Nat.le_of_ble_eq_true rfl⟩ (dX8_value 4 rfl) 9 rfl (kX8_valueNow hs q1 q4 i2 v3 i5 i6 i7 i8 i9 (0 : Int32) f11) rfl [0, 1] [] (q0 := 0) rfl rfl rfl rfl (by decide) rfl rfl rfl rfl (Nat.le_of_ble_eq_true rfl) 0 0 (show 0 + 0 ≤ 0 from Nat.le_of_ble_eq_true rfl) (show 0 + 0 ≤ 0 from Nat.le_of_ble_eq_true rfl) (fun z12 v w hz => ?_)
  obtain ⟨rfl, rfl⟩ := hz
  show V E K mX8_value (Qm E K mX8_value (zX8_value E q1 q4 i2 v3 i5 i6 i7 i8 i9 f11)) 0 0 [(q1, .inr (9, [.int i2, v3, .ref q4, .int i5, .int i6, .int i7, .int i8, .int i9, .int (0 : Int32)])), (q4, .inl (E.2.1, 81, .inl f11))] 9 [(0, .ref q1)] [.int z12] _
  exact V_iret rfl (dX8_value 5 rfl) ⟨rfl, rfl⟩)
set_option maxRecDepth 20000 in
theorem kX8_most {E : EX} {l : Launch} (hl : l.stackTraces = false) (q1 q4 : Nat) (i3 : Int32) (v5 : Value) (i6 i7 i8 i9 i10 i11 : Int32) (f12 : Nat → Int32) (i2 : Int32) : Ct E l mX8_most [.ref q1, .int i2] [(q1, .inr (9, [.int i3, .ref q4, v5, .int i6, .int i7, .int i8, .int i9, .int i10, .int i11])), (q4, .inl (E.2.1, 81, .inl f12))] (fX8_most i3 i6 i7 f12 i2) (zX8_most E q1 q4 i3 v5 i6 i7 i8 i9 i10 f12) := Ct_of hl mf_X8_most.1 (Nat.le_of_ble_eq_true rfl) (fun K hs => by
  refine V_less 0 0 (Nat.le_refl _) (Nat.le_refl _) ?_
  refine V_pick [0, 1] [(0, .ref q1), (1, .int i2)] rfl ?_
  unfold fX8_most
  refine V_aload_n (dX8_most 0 rfl) 1 rfl 0 rfl ?_
  refine V_iload_n (dX8_most 1 rfl) 2 rfl 1 rfl ?_
  refine V_callS (M := mX8_most) (wcs := []) (wr := [(q1, .inr (9, [.int i3, .ref q4, v5, .int i6, .int i7, .int i8, .int i9, .int i10, .int i11])), (q4, .inl (E.2.1, 81, .inl f12))]) mf_X8_isRule tw_1373 tw_1374 ⟨Nat.le_of_ble_eq_true rfl, Nat.le_of_ble_eq_true rfl⟩ (dX8_most 2 rfl) 5 rfl (kX8_isRule hs i2) rfl [] [0, 1] rfl rfl rfl rfl (by decide) rfl (Nat.le_of_ble_eq_true rfl) 0 0 (show 0 + 0 ≤ 0 from Nat.le_of_ble_eq_true rfl) (show 0 + 0 ≤ 0 from Nat.le_of_ble_eq_true rfl) (fun z13 v w hz => ?_)
  obtain ⟨rfl, rfl⟩ := hz
  show V E K mX8_most (Qm E K mX8_most (zX8_most E q1 q4 i3 v5 i6 i7 i8 i9 i10 f12)) 0 0 [(q1, .inr (9, [.int i3, .ref q4, v5, .int i6, .int i7, .int i8, .int i9, .int i10, .int i11])), (q4, .inl (E.2.1, 81, .inl f12))] 5 [(0, .ref q1), (1, .int i2)] [.int z13, .ref q1] _
  refine V_jn (fun (k14 : Int32 → Option (Int32 × Int32)) => ∀ (i16 : Int32), V E K mX8_most (Qm E K mX8_most (zX8_most E q1 q4 i3 v5 i6 i7 i8 i9 i10 f12)) 0 0 [(q1, .inr (9, [.int i3, .ref q4, v5, .int i6, .int i7, .int i8, .int i9, .int i10, .int i11])), (q4, .inl (E.2.1, 81, .inl f12))] 13 [(0, .ref q1)] [.int i16, .ref q1] (k14 i16)) ?_ ?_
  · intro i16
    show V E K mX8_most (Qm E K mX8_most (zX8_most E q1 q4 i3 v5 i6 i7 i8 i9 i10 f12)) 0 0 [(q1, .inr (9, [.int i3, .ref q4, v5, .int i6, .int i7, .int i8, .int i9, .int i10, .int i11])), (q4, .inl (E.2.1, 81, .inl f12))] 13 [(0, .ref q1)] [.int i16, .ref q1] _
    refine V_callV (M := mX8_most) (wcs := [(q1, .inr (9, [.int i3, .ref q4, v5, .int i6, .int i7, .int i8, .int i9, .int i10, .int i11]))]) (wr := [(q4, .inl (E.2.1, 81, .inl f12))]) mf_X8_isThrown_ tw_1283 tw_1285 tw_27 ⟨Nat.le_of_ble_eq_true rfl, Nat.le_of_ble_eq_true rfl⟩ (dX8_most 7 rfl) 16 rfl (kX8_isThrown_ hs q1 i3 (.ref q4) v5 i6 i7 i8 i9 i10 i11 i16) rfl [0] [1] (q0 := 0) rfl rfl rfl rfl (by decide) rfl rfl rfl rfl (Nat.le_of_ble_eq_true rfl) 0 0 (show 0 + 0 ≤ 0 from Nat.le_of_ble_eq_true rfl) (show 0 + 0 ≤ 0 from Nat.le_of_ble_eq_true rfl) (fun z17 v w hz => ?_)
    obtain ⟨rfl, rfl⟩ := hz
    show V E K mX8_most (Qm E K mX8_most (zX8_most E q1 q4 i3 v5 i6 i7 i8 i9 i10 f12)) 0 0 [(q4, .inl (E.2.1, 81, .inl f12)), (q1, .inr (9, [.int i3, .ref q4, v5, .int i6, .int i7, .int i8, .int i9, .int i10, .int z17.2]))] 16 [(0, .ref q1)] [.int z17.1] _
    refine V_if_eq (dX8_most 8 rfl) 23 (by decide) 19 rfl ?_ ?_
    · refine V_aload_n (dX8_most 11 rfl) 24 rfl 0 rfl ?_
      refine V_callV (M := mX8_most) (wcs := [(q1, .inr (9, [.int i3, .ref q4, v5, .int i6, .int i7, .int i8, .int i9, .int i10, .int z17.2])), (q4, .inl (E.2.1, 81, .inl f12))]) (wr := []) mf_X8_leastNow tw_1490 tw_1492 tw_53 ⟨Nat.le_of_ble_eq_true rfl, Nat.le_of_ble_eq_true rfl⟩ (dX8_most 12 rfl) 27 rfl (kX8_leastNow hs q1 q4 i3 v5 i6 i7 i8 i9 i10 z17.2 f12) rfl [1, 0] [] (q0 := 0) rfl rfl rfl rfl (by decide) rfl rfl rfl rfl (Nat.le_of_ble_eq_true rfl) 0 0 (show 0 + 0 ≤ 0 from Nat.le_of_ble_eq_true rfl) (show 0 + 0 ≤ 0 from Nat.le_of_ble_eq_true rfl) (fun z18 v w hz => ?_)
      obtain ⟨rfl, rfl⟩ := hz
      show V E K mX8_most (Qm E K mX8_most (zX8_most E q1 q4 i3 v5 i6 i7 i8 i9 i10 f12)) 0 0 [(q1, .inr (9, [.int i3, .ref q4, v5, .int i6, .int i7, .int i8, .int i9, .int i10, .int z17.2])), (q4, .inl (E.2.1, 81, .inl f12))] 27 [(0, .ref q1)] [.int z18] _
      exact V_iret rfl (dX8_most 13 rfl) ⟨rfl, rfl⟩
    · refine V_iconst (0 : Int32) (by decide) (dX8_most 9 rfl) 20 rfl ?_
      refine V_goto (dX8_most 10 rfl) 27 (by decide) ?_
      refine V_world [1, 0] [(q1, .inr (9, [.int i3, .ref q4, v5, .int i6, .int i7, .int i8, .int i9, .int i10, .int z17.2])), (q4, .inl (E.2.1, 81, .inl f12))] rfl rfl rfl ?_
      exact V_iret rfl (dX8_most 13 rfl) ⟨rfl, rfl⟩
  · intro k14 hk15
    refine V_if_ne (dX8_most 3 rfl) 12 (by decide) 8 rfl ?_ ?_
    · refine V_iconst (0 : Int32) (by decide) (dX8_most 6 rfl) 13 rfl ?_
      refine V_pick [0] [(0, .ref q1)] rfl ?_
      exact hk15 (0 : Int32)
    · refine V_iconst (1 : Int32) (by decide) (dX8_most 4 rfl) 9 rfl ?_
      refine V_goto (dX8_most 5 rfl) 13 (by decide) ?_
      refine V_pick [0] [(0, .ref q1)] rfl ?_
      exact hk15 (1 : Int32))
set_option maxRecDepth 20000 in
theorem kX8_isMost {E : EX} {l : Launch} (hl : l.stackTraces = false) (q1 q3 q4 : Nat) (i2 i5 i6 i7 i8 i9 i10 : Int32) (f11 f12 : Nat → Int32) : Ct E l mX8_isMost [.ref q1] [(q1, .inr (9, [.int i2, .ref q3, .ref q4, .int i5, .int i6, .int i7, .int i8, .int i9, .int i10])), (q3, .inl (E.2.1, 81, .inl f11)), (q4, .inl (E.2.1, 81, .inl f12))] (fX8_isMost i2 i5 i6 f11 f12) (zX8_isMost E q1 q3 q4 i2 i5 i6 i7 i8 i9 f11 f12) := Ct_of hl mf_X8_isMost.1 (Nat.le_of_ble_eq_true rfl) (fun K hs => by
  refine V_less 0 0 (Nat.le_refl _) (Nat.le_refl _) ?_
  refine V_pick [0] [(0, .ref q1)] rfl ?_
  unfold fX8_isMost
  refine V_aload_n (dX8_isMost 0 rfl) 1 rfl 0 rfl ?_
  refine V_iconst (0 : Int32) (by decide) (dX8_isMost 1 rfl) 2 rfl ?_
  refine V_put pf_M_13 0 rfl rfl rfl (Nat.le_of_ble_eq_true rfl) (dX8_isMost 2 rfl) 5 rfl [(q1, .inr (9, [.int i2, .ref q3, .ref q4, .int i5, .int i6, .int i7, .int i8, .int i9, .int (0 : Int32)])), (q3, .inl (E.2.1, 81, .inl f11)), (q4, .inl (E.2.1, 81, .inl f12))] rfl ?_
  refine V_aload_n (dX8_isMost 3 rfl) 6 rfl 0 rfl ?_
  refine V_callV (M := mX8_isMost) (wcs := [(q1, .inr (9, [.int i2, .ref q3, .ref q4, .int i5, .int i6, .int i7, .int i8, .int i9, .int (0 : Int32)])), (q4, .inl (E.2.1, 81, .inl f12))]) (wr := [(q3, .inl (E.2.1, 81, .inl f11))]) mf_X8_valueNow tw_1303 tw_1305 tw_31 ⟨Nat.le_of_ble_eq_true rfl, Nat.le_of_ble_eq_true rfl⟩ (dX8_isMost 4 rfl) 9 rfl (kX8_valueNow hs q1 q4 i2 (.ref q3) i5 i6 i7 i8 i9 (0 : Int32) f12) rfl [0, 2] [1] (q0 := 0) rfl rfl rfl rfl (by decide) rfl rfl rfl rfl (Nat.le_of_ble_eq_true rfl) 0 0 (show 0 + 0 ≤ 0 from Nat.le_of_ble_eq_true rfl) (show 0 + 0 ≤ 0 from Nat.le_of_ble_eq_true rfl) (fun z13 v w hz => ?_)
  obtain ⟨rfl, rfl⟩ := hz
  show V E K mX8_isMost (Qm E K mX8_isMost (zX8_isMost E q1 q3 q4 i2 i5 i6 i7 i8 i9 f11 f12)) 0 0 [(q3, .inl (E.2.1, 81, .inl f11)), (q1, .inr (9, [.int i2, .ref q3, .ref q4, .int i5, .int i6, .int i7, .int i8, .int i9, .int (0 : Int32)])), (q4, .inl (E.2.1, 81, .inl f12))] 9 [(0, .ref q1)] [.int z13] _
  refine V_aload_n (dX8_isMost 5 rfl) 10 rfl 0 rfl ?_
  refine V_callV (M := mX8_isMost) (wcs := [(q1, .inr (9, [.int i2, .ref q3, .ref q4, .int i5, .int i6, .int i7, .int i8, .int i9, .int (0 : Int32)])), (q3, .inl (E.2.1, 81, .inl f11))]) (wr := [(q4, .inl (E.2.1, 81, .inl f12))]) mf_X8_leastNow tw_1490 tw_1492 tw_53 ⟨Nat.le_of_ble_eq_true rfl, Nat.le_of_ble_eq_true rfl⟩ (dX8_isMost 6 rfl) 13 rfl (kX8_leastNow hs q1 q3 i2 (.ref q4) i5 i6 i7 i8 i9 (0 : Int32) f11) rfl [1, 0] [2] (q0 := 0) rfl rfl rfl rfl (by decide) rfl rfl rfl rfl (Nat.le_of_ble_eq_true rfl) 0 0 (show 0 + 0 ≤ 0 from Nat.le_of_ble_eq_true rfl) (show 0 + 0 ≤ 0 from Nat.le_of_ble_eq_true rfl) (fun z14 v w hz => ?_)
  obtain ⟨rfl, rfl⟩ := hz
  show V E K mX8_isMost (Qm E K mX8_isMost (zX8_isMost E q1 q3 q4 i2 i5 i6 i7 i8 i9 f11 f12)) 0 0 [(q4, .inl (E.2.1, 81, .inl f12)), (q1, .inr (9, [.int i2, .ref q3, .ref q4, .int i5, .int i6, .int i7, .int i8, .int i9, .int (0 : Int32)])), (q3, .inl (E.2.1, 81, .inl f11))] 13 [(0, .ref q1)] [.int z14, .int z13] _
  refine V_icmp_ne (dX8_isMost 7 rfl) 20 (by decide) 16 rfl ?_ ?_
  · refine V_iconst (0 : Int32) (by decide) (dX8_isMost 10 rfl) 21 rfl ?_
    refine V_world [1, 2, 0] [(q1, .inr (9, [.int i2, .ref q3, .ref q4, .int i5, .int i6, .int i7, .int i8, .int i9, .int (0 : Int32)])), (q3, .inl (E.2.1, 81, .inl f11)), (q4, .inl (E.2.1, 81, .inl f12))] rfl rfl rfl ?_
    exact V_zret rfl (by decide) (dX8_isMost 11 rfl) ⟨rfl, rfl⟩
  · refine V_iconst (1 : Int32) (by decide) (dX8_isMost 8 rfl) 17 rfl ?_
    refine V_goto (dX8_isMost 9 rfl) 21 (by decide) ?_
    refine V_world [1, 2, 0] [(q1, .inr (9, [.int i2, .ref q3, .ref q4, .int i5, .int i6, .int i7, .int i8, .int i9, .int (0 : Int32)])), (q3, .inl (E.2.1, 81, .inl f11)), (q4, .inl (E.2.1, 81, .inl f12))] rfl rfl rfl ?_
    exact V_zret rfl (by decide) (dX8_isMost 11 rfl) ⟨rfl, rfl⟩)
set_option maxRecDepth 20000 in
theorem vBX8_track_L39 {E : EX} {K : KX} (hs : K.l.stackTraces = false) (q1 q4 q5 q22 q29 : Nat) (i3 i6 i7 i8 i9 i10 : Int32) (f12 f13 : Nat → Int32) (i60 : Int32) (n20 : Nat) (f21 : Nat → Int32) (bc bs : Nat) (q61 : Nat) (i59 i62 : Int32) (n63 : Nat) (f64 : Nat → Int32) {rec : Int32 → Int32 → Nat → (Nat → Int32) → Option (Int32)} {k1 : Int32 → Nat → (Nat → Int32) → Option (Int32)} (hrec : ∀ (q61 : Nat) (i59 i62 : Int32) (n63 : Nat) (f64 : Nat → Int32), V E K mX8_track (Qm E K mX8_track (zX8_track E q1 q4 q5 i3 i6 i7 i8 i9 i10 f12 f13)) (bc + ((2400 - n63) / 16)) (bs + 2 * (2400 - n63)) [(q1, .inr (9, [.int i3, .ref q4, .ref q5, .int i6, .int i7, .int i8, .int i9, .int i10, .int i60])), (q4, .inl (E.2.1, 81, .inl f12)), (q5, .inl (E.2.1, 81, .inl f13)), (q22, .inl (E.2.1, n20, .inl f21)), (q29, .inr (6, [.ref q61, .int cZ, .int (0 : Int32), .int i62])), (q61, .inl (E.2.2.1, n63, .inl f64))] 39 [(2, .ref q22), (3, .ref q29), (4, .int i59)] [] (rec i59 i62 n63 f64)) (hk1 : ∀ (q72 : Nat) (i73 : Int32) (n74 : Nat) (f75 : Nat → Int32), V E K mX8_track (Qm E K mX8_track (zX8_track E q1 q4 q5 i3 i6 i7 i8 i9 i10 f12 f13)) (bc + ((2400 - n74) / 16)) (bs + 2 * (2400 - n74)) [(q1, .inr (9, [.int i3, .ref q4, .ref q5, .int i6, .int i7, .int i8, .int i9, .int i10, .int i60])), (q4, .inl (E.2.1, 81, .inl f12)), (q5, .inl (E.2.1, 81, .inl f13)), (q29, .inr (6, [.ref q72, .int cZ, .int (0 : Int32), .int i73])), (q72, .inl (E.2.2.1, n74, .inl f75))] 80 [(3, .ref q29)] [] (k1 i73 n74 f75)) : V E K mX8_track (Qm E K mX8_track (zX8_track E q1 q4 q5 i3 i6 i7 i8 i9 i10 f12 f13)) (bc + ((2400 - n63) / 16)) (bs + 2 * (2400 - n63)) [(q1, .inr (9, [.int i3, .ref q4, .ref q5, .int i6, .int i7, .int i8, .int i9, .int i10, .int i60])), (q4, .inl (E.2.1, 81, .inl f12)), (q5, .inl (E.2.1, 81, .inl f13)), (q22, .inl (E.2.1, n20, .inl f21)), (q29, .inr (6, [.ref q61, .int cZ, .int (0 : Int32), .int i62])), (q61, .inl (E.2.2.1, n63, .inl f64))] 39 [(2, .ref q22), (3, .ref q29), (4, .int i59)] [] (BX8_track_L39  n20 f21 i59 i62 n63 f64 rec k1) := by
  unfold BX8_track_L39
  refine V_aload_n (dX8_track 21 rfl) 40 rfl 0 rfl ?_
  refine V_ifnull (dX8_track 22 rfl) 43 rfl ?_
  refine V_iload (dX8_track 23 rfl) 45 rfl 2 rfl ?_
  refine V_aload_n (dX8_track 24 rfl) 46 rfl 0 rfl ?_
  refine V_alen 3 rfl (Int32.ofNat n20) rfl (dX8_track 25 rfl) 47 rfl ?_
  refine V_icmp_ge (dX8_track 26 rfl) 80 (by decide) 50 rfl ?_ ?_
  · refine V_world [0, 1, 2, 4, 5] [(q1, .inr (9, [.int i3, .ref q4, .ref q5, .int i6, .int i7, .int i8, .int i9, .int i10, .int i60])), (q4, .inl (E.2.1, 81, .inl f12)), (q5, .inl (E.2.1, 81, .inl f13)), (q29, .inr (6, [.ref q61, .int cZ, .int (0 : Int32), .int i62])), (q61, .inl (E.2.2.1, n63, .inl f64))] rfl rfl rfl ?_
    refine V_pick [1] [(3, .ref q29)] rfl ?_
    exact hk1 q61 i62 n63 f64
  · refine V_aload_n (dX8_track 27 rfl) 51 rfl 1 rfl ?_
    refine V_iload (dX8_track 28 rfl) 53 rfl 2 rfl ?_
    refine V_jn (fun (k65 : Nat → Option (Int32)) => ∀ (c67 : Nat), V E K mX8_track (Qm E K mX8_track (zX8_track E q1 q4 q5 i3 i6 i7 i8 i9 i10 f12 f13)) (bc + ((2400 - n63) / 16)) (bs + 2 * (2400 - n63)) [(q1, .inr (9, [.int i3, .ref q4, .ref q5, .int i6, .int i7, .int i8, .int i9, .int i10, .int i60])), (q4, .inl (E.2.1, 81, .inl f12)), (q5, .inl (E.2.1, 81, .inl f13)), (q22, .inl (E.2.1, n20, .inl f21)), (q29, .inr (6, [.ref q61, .int cZ, .int (0 : Int32), .int i62])), (q61, .inl (E.2.2.1, n63, .inl f64))] 63 [(2, .ref q22), (3, .ref q29), (4, .int i59)] [.ref (E.2.2.2.1 c67), .ref q29] (k65 c67)) ?_ ?_
    · intro c67
      show V E K mX8_track (Qm E K mX8_track (zX8_track E q1 q4 q5 i3 i6 i7 i8 i9 i10 f12 f13)) (bc + ((2400 - n63) / 16)) (bs + 2 * (2400 - n63)) [(q1, .inr (9, [.int i3, .ref q4, .ref q5, .int i6, .int i7, .int i8, .int i9, .int i10, .int i60])), (q4, .inl (E.2.1, 81, .inl f12)), (q5, .inl (E.2.1, 81, .inl f13)), (q22, .inl (E.2.1, n20, .inl f21)), (q29, .inr (6, [.ref q61, .int cZ, .int (0 : Int32), .int i62])), (q61, .inl (E.2.2.1, n63, .inl f64))] 63 [(2, .ref q22), (3, .ref q29), (4, .int i59)] [.ref (E.2.2.2.1 c67), .ref q29] _
      refine V_gd (fun hg => ?_)
      refine V_callV (M := mX8_track) (wcs := [(q29, .inr (6, [.ref q61, .int cZ, .int (0 : Int32), .int i62])), (q61, .inl (E.2.2.1, n63, .inl f64))]) (wr := [(q1, .inr (9, [.int i3, .ref q4, .ref q5, .int i6, .int i7, .int i8, .int i9, .int i10, .int i60])), (q4, .inl (E.2.1, 81, .inl f12)), (q5, .inl (E.2.1, 81, .inl f13)), (q22, .inl (E.2.1, n20, .inl f21))]) (mf_J4_append_15ec4 (capE n63 (i62 + szK c67)) n63) tw_1467 tw_590 tw_591 ⟨Nat.le_of_ble_eq_true rfl, Nat.le_of_ble_eq_true rfl⟩ (dX8_track 33 rfl) 66 rfl (kJ4_append_15ec4 hs c67 hg.2.2 q29 q61 (0 : Int32) i62 n63 f64 (capE n63 (i62 + szK c67))) rfl [4, 5] [0, 1, 2, 3] (q0 := 0) rfl rfl rfl rfl (by decide) rfl rfl rfl rfl (Nat.le_of_ble_eq_true rfl) (bc + ((2400 - (capE n63 (i62 + szK c67))) / 16)) (bs + 2 * (2400 - (capE n63 (i62 + szK c67)))) (show (bc + ((2400 - (capE n63 (i62 + szK c67))) / 16)) + (((capE n63 (i62 + szK c67)) - n63) / 16) ≤ (bc + ((2400 - n63) / 16)) by omega) (show (bs + 2 * (2400 - (capE n63 (i62 + szK c67)))) + 2 * ((capE n63 (i62 + szK c67)) - n63) ≤ (bs + 2 * (2400 - n63)) by omega) (fun z68 v w hz => ?_)
      obtain ⟨q69, rfl, rfl⟩ := hz
      show V E K mX8_track (Qm E K mX8_track (zX8_track E q1 q4 q5 i3 i6 i7 i8 i9 i10 f12 f13)) (bc + ((2400 - (capE n63 (i62 + szK c67))) / 16)) (bs + 2 * (2400 - (capE n63 (i62 + szK c67)))) [(q1, .inr (9, [.int i3, .ref q4, .ref q5, .int i6, .int i7, .int i8, .int i9, .int i10, .int i60])), (q4, .inl (E.2.1, 81, .inl f12)), (q5, .inl (E.2.1, 81, .inl f13)), (q22, .inl (E.2.1, n20, .inl f21)), (q29, .inr (6, [.ref q69, .int cZ, .int (0 : Int32), .int z68.1])), (q69, .inl (E.2.2.1, (capE n63 (i62 + szK c67)), .inl z68.2))] 66 [(2, .ref q22), (3, .ref q29), (4, .int i59)] [.ref q29] _
      refine V_aload_n (dX8_track 34 rfl) 67 rfl 0 rfl ?_
      refine V_iload (dX8_track 35 rfl) 69 rfl 2 rfl ?_
      refine V_iald 3 rfl (dX8_track 36 rfl) 70 rfl ?_
      refine V_gd (fun hg => ?_)
      refine V_callV (M := mX8_track) (wcs := [(q29, .inr (6, [.ref q69, .int cZ, .int (0 : Int32), .int z68.1])), (q69, .inl (E.2.2.1, (capE n63 (i62 + szK c67)), .inl z68.2))]) (wr := [(q1, .inr (9, [.int i3, .ref q4, .ref q5, .int i6, .int i7, .int i8, .int i9, .int i10, .int i60])), (q4, .inl (E.2.1, 81, .inl f12)), (q5, .inl (E.2.1, 81, .inl f13)), (q22, .inl (E.2.1, n20, .inl f21))]) (mf_J4_append_bf812 (capE (capE n63 (i62 + szK c67)) (z68.1 + szI (f21 i59.toNatClampNeg))) (capE n63 (i62 + szK c67))) tw_1468 tw_708 tw_709 ⟨Nat.le_of_ble_eq_true rfl, Nat.le_of_ble_eq_true rfl⟩ (dX8_track 37 rfl) 73 rfl (kJ4_append_bf812 hs q29 q69 (0 : Int32) z68.1 (capE n63 (i62 + szK c67)) z68.2 (f21 i59.toNatClampNeg) (capE (capE n63 (i62 + szK c67)) (z68.1 + szI (f21 i59.toNatClampNeg)))) rfl [4, 5] [0, 1, 2, 3] (q0 := 0) rfl rfl rfl rfl (by decide) rfl rfl rfl rfl (Nat.le_of_ble_eq_true rfl) (bc + ((2400 - (capE (capE n63 (i62 + szK c67)) (z68.1 + szI (f21 i59.toNatClampNeg)))) / 16)) (bs + 2 * (2400 - (capE (capE n63 (i62 + szK c67)) (z68.1 + szI (f21 i59.toNatClampNeg))))) (show (bc + ((2400 - (capE (capE n63 (i62 + szK c67)) (z68.1 + szI (f21 i59.toNatClampNeg)))) / 16)) + (((capE (capE n63 (i62 + szK c67)) (z68.1 + szI (f21 i59.toNatClampNeg))) - (capE n63 (i62 + szK c67))) / 16) ≤ (bc + ((2400 - (capE n63 (i62 + szK c67))) / 16)) by omega) (show (bs + 2 * (2400 - (capE (capE n63 (i62 + szK c67)) (z68.1 + szI (f21 i59.toNatClampNeg))))) + 2 * ((capE (capE n63 (i62 + szK c67)) (z68.1 + szI (f21 i59.toNatClampNeg))) - (capE n63 (i62 + szK c67))) ≤ (bs + 2 * (2400 - (capE n63 (i62 + szK c67)))) by omega) (fun z70 v w hz => ?_)
      obtain ⟨q71, rfl, rfl⟩ := hz
      show V E K mX8_track (Qm E K mX8_track (zX8_track E q1 q4 q5 i3 i6 i7 i8 i9 i10 f12 f13)) (bc + ((2400 - (capE (capE n63 (i62 + szK c67)) (z68.1 + szI (f21 i59.toNatClampNeg)))) / 16)) (bs + 2 * (2400 - (capE (capE n63 (i62 + szK c67)) (z68.1 + szI (f21 i59.toNatClampNeg))))) [(q1, .inr (9, [.int i3, .ref q4, .ref q5, .int i6, .int i7, .int i8, .int i9, .int i10, .int i60])), (q4, .inl (E.2.1, 81, .inl f12)), (q5, .inl (E.2.1, 81, .inl f13)), (q22, .inl (E.2.1, n20, .inl f21)), (q29, .inr (6, [.ref q71, .int cZ, .int (0 : Int32), .int z70.1])), (q71, .inl (E.2.2.1, (capE (capE n63 (i62 + szK c67)) (z68.1 + szI (f21 i59.toNatClampNeg))), .inl z70.2))] 73 [(2, .ref q22), (3, .ref q29), (4, .int i59)] [.ref q29] _
      refine V_pop rfl (dX8_track 38 rfl) 74 rfl ?_
      refine V_iinc (dX8_track 39 rfl) 77 rfl 2 rfl (i59 + (1 : Int32)) rfl [(2, .ref q22), (3, .ref q29), (4, .int (i59 + (1 : Int32)))] (Nat.le_of_ble_eq_true rfl) rfl ?_
      refine V_goto (dX8_track 40 rfl) 39 (by decide) ?_
      exact hrec q71 (i59 + (1 : Int32)) z70.1 (capE (capE n63 (i62 + szK c67)) (z68.1 + szI (f21 i59.toNatClampNeg))) z70.2
    · intro k65 hk66
      refine V_if_le (dX8_track 29 rfl) 61 (by decide) 56 rfl ?_ ?_
      · refine V_ldcS 3 rfl (dX8_track 32 rfl) 63 rfl ?_
        exact hk66 3
      · refine V_ldcS 6 rfl (dX8_track 30 rfl) 58 rfl ?_
        refine V_goto (dX8_track 31 rfl) 63 (by decide) ?_
        exact hk66 6
set_option maxRecDepth 20000 in
theorem vLX8_track_L39 {E : EX} {K : KX} (hs : K.l.stackTraces = false) (q1 q4 q5 q22 q29 : Nat) (i3 i6 i7 i8 i9 i10 : Int32) (f12 f13 : Nat → Int32) (i60 : Int32) (n20 : Nat) (f21 : Nat → Int32) (bc bs : Nat) {k1 : Int32 → Nat → (Nat → Int32) → Option (Int32)} (hk1 : ∀ (q72 : Nat) (i73 : Int32) (n74 : Nat) (f75 : Nat → Int32), V E K mX8_track (Qm E K mX8_track (zX8_track E q1 q4 q5 i3 i6 i7 i8 i9 i10 f12 f13)) (bc + ((2400 - n74) / 16)) (bs + 2 * (2400 - n74)) [(q1, .inr (9, [.int i3, .ref q4, .ref q5, .int i6, .int i7, .int i8, .int i9, .int i10, .int i60])), (q4, .inl (E.2.1, 81, .inl f12)), (q5, .inl (E.2.1, 81, .inl f13)), (q29, .inr (6, [.ref q72, .int cZ, .int (0 : Int32), .int i73])), (q72, .inl (E.2.2.1, n74, .inl f75))] 80 [(3, .ref q29)] [] (k1 i73 n74 f75)) : ∀ (n : Nat) (q61 : Nat) (i59 i62 : Int32) (n63 : Nat) (f64 : Nat → Int32), V E K mX8_track (Qm E K mX8_track (zX8_track E q1 q4 q5 i3 i6 i7 i8 i9 i10 f12 f13)) (bc + ((2400 - n63) / 16)) (bs + 2 * (2400 - n63)) [(q1, .inr (9, [.int i3, .ref q4, .ref q5, .int i6, .int i7, .int i8, .int i9, .int i10, .int i60])), (q4, .inl (E.2.1, 81, .inl f12)), (q5, .inl (E.2.1, 81, .inl f13)), (q22, .inl (E.2.1, n20, .inl f21)), (q29, .inr (6, [.ref q61, .int cZ, .int (0 : Int32), .int i62])), (q61, .inl (E.2.2.1, n63, .inl f64))] 39 [(2, .ref q22), (3, .ref q29), (4, .int i59)] [] (LX8_track_L39  n20 f21 n i59 i62 n63 f64 k1)
  | 0, _, _, _, _, _ => V_none
  | n + 1, q61, i59, i62, n63, f64 => vBX8_track_L39 hs q1 q4 q5 q22 q29 i3 i6 i7 i8 i9 i10 f12 f13 i60 n20 f21 bc bs q61 i59 i62 n63 f64 (fun q61 i59 i62 n63 f64 => vLX8_track_L39 hs q1 q4 q5 q22 q29 i3 i6 i7 i8 i9 i10 f12 f13 i60 n20 f21 bc bs hk1 n q61 i59 i62 n63 f64) hk1
set_option maxRecDepth 20000 in
theorem kX8_track {E : EX} {l : Launch} (hl : l.stackTraces = false) (q1 q4 q5 : Nat) (i3 i6 i7 i8 i9 i10 i11 : Int32) (f12 f13 : Nat → Int32) (i2 : Int32) : Ct E l mX8_track [.ref q1, .int i2] [(q1, .inr (9, [.int i3, .ref q4, .ref q5, .int i6, .int i7, .int i8, .int i9, .int i10, .int i11])), (q4, .inl (E.2.1, 81, .inl f12)), (q5, .inl (E.2.1, 81, .inl f13))] (fX8_track i3 i6 i7 i8 i9 i10 f12 f13 i2) (zX8_track E q1 q4 q5 i3 i6 i7 i8 i9 i10 f12 f13) := Ct_of hl mf_X8_track.1 (Nat.le_of_ble_eq_true rfl) (fun K hs => by
  refine V_less 157 18272 (Nat.le_refl _) (Nat.le_refl _) ?_
  refine V_pick [0, 1] [(0, .ref q1), (1, .int i2)] rfl ?_
  unfold fX8_track
  refine V_aload_n (dX8_track 0 rfl) 1 rfl 0 rfl ?_
  refine V_iload_n (dX8_track 1 rfl) 2 rfl 1 rfl ?_
  refine V_callS (M := mX8_track) (wcs := []) (wr := [(q1, .inr (9, [.int i3, .ref q4, .ref q5, .int i6, .int i7, .int i8, .int i9, .int i10, .int i11])), (q4, .inl (E.2.1, 81, .inl f12)), (q5, .inl (E.2.1, 81, .inl f13))]) mf_X8_isRule tw_1373 tw_1374 ⟨Nat.le_of_ble_eq_true rfl, Nat.le_of_ble_eq_true rfl⟩ (dX8_track 2 rfl) 5 rfl (kX8_isRule hs i2) rfl [] [0, 1, 2] rfl rfl rfl rfl (by decide) rfl (Nat.le_of_ble_eq_true rfl) 157 18272 (show 157 + 0 ≤ 157 from Nat.le_of_ble_eq_true rfl) (show 18272 + 0 ≤ 18272 from Nat.le_of_ble_eq_true rfl) (fun z14 v w hz => ?_)
  obtain ⟨rfl, rfl⟩ := hz
  show V E K mX8_track (Qm E K mX8_track (zX8_track E q1 q4 q5 i3 i6 i7 i8 i9 i10 f12 f13)) 157 18272 [(q1, .inr (9, [.int i3, .ref q4, .ref q5, .int i6, .int i7, .int i8, .int i9, .int i10, .int i11])), (q4, .inl (E.2.1, 81, .inl f12)), (q5, .inl (E.2.1, 81, .inl f13))] 5 [(0, .ref q1), (1, .int i2)] [.int z14, .ref q1] _
  refine V_jn (fun (k15 : Int32 → Option (Int32)) => ∀ (i17 : Int32), V E K mX8_track (Qm E K mX8_track (zX8_track E q1 q4 q5 i3 i6 i7 i8 i9 i10 f12 f13)) 157 18272 [(q1, .inr (9, [.int i3, .ref q4, .ref q5, .int i6, .int i7, .int i8, .int i9, .int i10, .int i11])), (q4, .inl (E.2.1, 81, .inl f12)), (q5, .inl (E.2.1, 81, .inl f13))] 13 [(0, .ref q1), (1, .int i2)] [.int i17, .ref q1] (k15 i17)) ?_ ?_
  · intro i17
    show V E K mX8_track (Qm E K mX8_track (zX8_track E q1 q4 q5 i3 i6 i7 i8 i9 i10 f12 f13)) 157 18272 [(q1, .inr (9, [.int i3, .ref q4, .ref q5, .int i6, .int i7, .int i8, .int i9, .int i10, .int i11])), (q4, .inl (E.2.1, 81, .inl f12)), (q5, .inl (E.2.1, 81, .inl f13))] 13 [(0, .ref q1), (1, .int i2)] [.int i17, .ref q1] _
    refine V_callV (M := mX8_track) (wcs := [(q1, .inr (9, [.int i3, .ref q4, .ref q5, .int i6, .int i7, .int i8, .int i9, .int i10, .int i11]))]) (wr := [(q4, .inl (E.2.1, 81, .inl f12)), (q5, .inl (E.2.1, 81, .inl f13))]) mf_X8_isThrown_ tw_1283 tw_1285 tw_27 ⟨Nat.le_of_ble_eq_true rfl, Nat.le_of_ble_eq_true rfl⟩ (dX8_track 7 rfl) 16 rfl (kX8_isThrown_ hs q1 i3 (.ref q4) (.ref q5) i6 i7 i8 i9 i10 i11 i17) rfl [0] [1, 2] (q0 := 0) rfl rfl rfl rfl (by decide) rfl rfl rfl rfl (Nat.le_of_ble_eq_true rfl) 157 18272 (show 157 + 0 ≤ 157 from Nat.le_of_ble_eq_true rfl) (show 18272 + 0 ≤ 18272 from Nat.le_of_ble_eq_true rfl) (fun z18 v w hz => ?_)
    obtain ⟨rfl, rfl⟩ := hz
    show V E K mX8_track (Qm E K mX8_track (zX8_track E q1 q4 q5 i3 i6 i7 i8 i9 i10 f12 f13)) 157 18272 [(q4, .inl (E.2.1, 81, .inl f12)), (q5, .inl (E.2.1, 81, .inl f13)), (q1, .inr (9, [.int i3, .ref q4, .ref q5, .int i6, .int i7, .int i8, .int i9, .int i10, .int z18.2]))] 16 [(0, .ref q1), (1, .int i2)] [.int z18.1] _
    refine V_if_eq (dX8_track 8 rfl) 22 (by decide) 19 rfl ?_ ?_
    · refine V_aload_n (dX8_track 11 rfl) 23 rfl 0 rfl ?_
      refine V_iload_n (dX8_track 12 rfl) 24 rfl 1 rfl ?_
      refine V_callV (M := mX8_track) (wcs := [(q1, .inr (9, [.int i3, .ref q4, .ref q5, .int i6, .int i7, .int i8, .int i9, .int i10, .int z18.2])), (q4, .inl (E.2.1, 81, .inl f12)), (q5, .inl (E.2.1, 81, .inl f13))]) (wr := []) mf_X8_trackBy tw_1380 tw_1382 tw_40 ⟨Nat.le_of_ble_eq_true rfl, Nat.le_of_ble_eq_true rfl⟩ (dX8_track 13 rfl) 27 rfl (kX8_trackBy hs q1 q4 q5 i3 i6 i7 i8 i9 i10 z18.2 f12 f13 i2) rfl [2, 0, 1] [] (q0 := 0) rfl rfl rfl rfl (by decide) rfl rfl rfl rfl (Nat.le_of_ble_eq_true rfl) 154 18224 (show 154 + 3 ≤ 157 from Nat.le_of_ble_eq_true rfl) (show 18224 + 48 ≤ 18272 from Nat.le_of_ble_eq_true rfl) (fun z19 v w hz => ?_)
      rcases hz with ⟨e0, rfl, rfl⟩ | ⟨n20, f21, q22, e0, rfl, rfl⟩
      · refine V_eq (oc_none e0) ?_
        show V E K mX8_track (Qm E K mX8_track (zX8_track E q1 q4 q5 i3 i6 i7 i8 i9 i10 f12 f13)) 154 18224 [(q1, .inr (9, [.int i3, .ref q4, .ref q5, .int i6, .int i7, .int i8, .int i9, .int i10, .int z18.2])), (q4, .inl (E.2.1, 81, .inl f12)), (q5, .inl (E.2.1, 81, .inl f13))] 27 [(0, .ref q1), (1, .int i2)] [.null] _
        refine V_astore_nN (dX8_track 14 rfl) 28 rfl [(0, .ref q1), (1, .int i2), (2, .null)] (Nat.le_of_ble_eq_true rfl) rfl ?_
        refine V_new nf_M_104 (dX8_track 15 rfl) 31 rfl 153 18220 (show 153 + 1 ≤ 154 from Nat.le_of_ble_eq_true rfl) (show 18220 + 4 ≤ 18224 from Nat.le_of_ble_eq_true rfl) (fun q23 => ?_)
        refine V_eqW (ws2 := [(q1, .inr (9, [.int i3, .ref q4, .ref q5, .int i6, .int i7, .int i8, .int i9, .int i10, .int z18.2])), (q4, .inl (E.2.1, 81, .inl f12)), (q5, .inl (E.2.1, 81, .inl f13)), (q23, .inr (6, [.null, .int cZ, .int (0 : Int32), .int (0 : Int32)]))]) rfl ?_
        refine V_dup rfl (dX8_track 16 rfl) 32 rfl ?_
        refine V_callI (M := mX8_track) (wcs := [(q23, .inr (6, [.null, .int cZ, .int (0 : Int32), .int (0 : Int32)]))]) (wr := [(q1, .inr (9, [.int i3, .ref q4, .ref q5, .int i6, .int i7, .int i8, .int i9, .int i10, .int z18.2])), (q4, .inl (E.2.1, 81, .inl f12)), (q5, .inl (E.2.1, 81, .inl f13))]) mf_J4_init_da8c8 rfl rfl tw_1464 tw_210 ⟨Nat.le_of_ble_eq_true rfl, Nat.le_of_ble_eq_true rfl⟩ (dX8_track 17 rfl) 35 rfl (kJ4_init_da8c8 hs q23 .null (0 : Int32) (0 : Int32)) rfl [3] [0, 1, 2] rfl rfl rfl rfl (by decide) rfl (Nat.le_of_ble_eq_true rfl) (((2400 - 16) / 16) + 2) (2 * (2400 - 16) + 13404) (show (((2400 - 16) / 16) + 2) + 1 ≤ 153 by omega) (show (2 * (2400 - 16) + 13404) + 16 ≤ 18220 by omega) (fun z24 v w hz => ?_)
        obtain ⟨q25, rfl, rfl⟩ := hz
        show V E K mX8_track (Qm E K mX8_track (zX8_track E q1 q4 q5 i3 i6 i7 i8 i9 i10 f12 f13)) (((2400 - 16) / 16) + 2) (2 * (2400 - 16) + 13404) [(q1, .inr (9, [.int i3, .ref q4, .ref q5, .int i6, .int i7, .int i8, .int i9, .int i10, .int z18.2])), (q4, .inl (E.2.1, 81, .inl f12)), (q5, .inl (E.2.1, 81, .inl f13)), (q23, .inr (6, [.ref q25, .int cZ, .int (0 : Int32), .int (0 : Int32)])), (q25, .inl (E.2.2.1, 16, .inl (fun _ => 0)))] 35 [(0, .ref q1), (1, .int i2), (2, .null)] [.ref q23] _
        refine V_astore_n (dX8_track 18 rfl) 36 rfl [(0, .ref q1), (1, .int i2), (2, .null), (3, .ref q23)] (Nat.le_of_ble_eq_true rfl) rfl ?_
        refine V_iconst (0 : Int32) (by decide) (dX8_track 19 rfl) 37 rfl ?_
        refine V_istore (dX8_track 20 rfl) 39 rfl [(0, .ref q1), (1, .int i2), (2, .null), (3, .ref q23), (4, .int (0 : Int32))] (Nat.le_of_ble_eq_true rfl) rfl ?_
        refine V_aload_nN (dX8_track 21 rfl) 40 rfl 2 rfl ?_
        refine V_ifnullN (dX8_track 22 rfl) 80 (by decide) ?_
        refine V_aload_n (dX8_track 41 rfl) 81 rfl 3 rfl ?_
        refine V_callV (M := mX8_track) (wcs := [(q23, .inr (6, [.ref q25, .int cZ, .int (0 : Int32), .int (0 : Int32)])), (q25, .inl (E.2.2.1, 16, .inl (fun _ => 0)))]) (wr := [(q1, .inr (9, [.int i3, .ref q4, .ref q5, .int i6, .int i7, .int i8, .int i9, .int i10, .int z18.2])), (q4, .inl (E.2.1, 81, .inl f12)), (q5, .inl (E.2.1, 81, .inl f13))]) mf_J4_toString_0e30d tw_1470 tw_733 tw_734 ⟨Nat.le_of_ble_eq_true rfl, Nat.le_of_ble_eq_true rfl⟩ (dX8_track 42 rfl) 84 rfl (kJ4_toString_0e30d hs q23 q25 (0 : Int32) (0 : Int32) 16 (fun _ => 0)) rfl [3, 4] [0, 1, 2] (q0 := 0) rfl rfl rfl rfl (by decide) rfl rfl rfl rfl (Nat.le_of_ble_eq_true rfl) (((2400 - 16) / 16)) (2 * (2400 - 16)) (show (((2400 - 16) / 16)) + 2 ≤ (((2400 - 16) / 16) + 2) by omega) (show (2 * (2400 - 16)) + 13404 ≤ (2 * (2400 - 16) + 13404) by omega) (fun z26 v w hz => ?_)
        obtain ⟨q27, q28, rfl, rfl⟩ := hz
        show V E K mX8_track (Qm E K mX8_track (zX8_track E q1 q4 q5 i3 i6 i7 i8 i9 i10 f12 f13)) (((2400 - 16) / 16)) (2 * (2400 - 16)) [(q1, .inr (9, [.int i3, .ref q4, .ref q5, .int i6, .int i7, .int i8, .int i9, .int i10, .int z18.2])), (q4, .inl (E.2.1, 81, .inl f12)), (q5, .inl (E.2.1, 81, .inl f13)), (q23, .inr (6, [.ref q25, .int cZ, .int (0 : Int32), .int (0 : Int32)])), (q25, .inl (E.2.2.1, 16, .inl (fun _ => 0))), (q27, .inr (7, [.ref q28, .int cZ, .int (0 : Int32), .int (0 : Int32)])), (q28, .inl (E.2.2.1, z26.1, .inl z26.2))] 84 [(0, .ref q1), (1, .int i2), (2, .null), (3, .ref q23), (4, .int (0 : Int32))] [.ref q27] _
        refine V_world [0, 1, 2] [(q1, .inr (9, [.int i3, .ref q4, .ref q5, .int i6, .int i7, .int i8, .int i9, .int i10, .int z18.2])), (q4, .inl (E.2.1, 81, .inl f12)), (q5, .inl (E.2.1, 81, .inl f13))] rfl rfl rfl ?_
        exact V_aret rfl (Or.inl ⟨_, rfl⟩) (Or.inr ⟨_, rfl⟩) (dX8_track 43 rfl) ⟨q27, rfl, rfl⟩
      · refine V_eq (oc_some e0) ?_
        show V E K mX8_track (Qm E K mX8_track (zX8_track E q1 q4 q5 i3 i6 i7 i8 i9 i10 f12 f13)) 154 18224 [(q1, .inr (9, [.int i3, .ref q4, .ref q5, .int i6, .int i7, .int i8, .int i9, .int i10, .int z18.2])), (q4, .inl (E.2.1, 81, .inl f12)), (q5, .inl (E.2.1, 81, .inl f13)), (q22, .inl (E.2.1, n20, .inl f21))] 27 [(0, .ref q1), (1, .int i2)] [.ref q22] _
        refine V_astore_n (dX8_track 14 rfl) 28 rfl [(0, .ref q1), (1, .int i2), (2, .ref q22)] (Nat.le_of_ble_eq_true rfl) rfl ?_
        refine V_new nf_M_104 (dX8_track 15 rfl) 31 rfl 153 18220 (show 153 + 1 ≤ 154 from Nat.le_of_ble_eq_true rfl) (show 18220 + 4 ≤ 18224 from Nat.le_of_ble_eq_true rfl) (fun q29 => ?_)
        refine V_eqW (ws2 := [(q1, .inr (9, [.int i3, .ref q4, .ref q5, .int i6, .int i7, .int i8, .int i9, .int i10, .int z18.2])), (q4, .inl (E.2.1, 81, .inl f12)), (q5, .inl (E.2.1, 81, .inl f13)), (q22, .inl (E.2.1, n20, .inl f21)), (q29, .inr (6, [.null, .int cZ, .int (0 : Int32), .int (0 : Int32)]))]) rfl ?_
        refine V_dup rfl (dX8_track 16 rfl) 32 rfl ?_
        refine V_callI (M := mX8_track) (wcs := [(q29, .inr (6, [.null, .int cZ, .int (0 : Int32), .int (0 : Int32)]))]) (wr := [(q1, .inr (9, [.int i3, .ref q4, .ref q5, .int i6, .int i7, .int i8, .int i9, .int i10, .int z18.2])), (q4, .inl (E.2.1, 81, .inl f12)), (q5, .inl (E.2.1, 81, .inl f13)), (q22, .inl (E.2.1, n20, .inl f21))]) mf_J4_init_da8c8 rfl rfl tw_1464 tw_210 ⟨Nat.le_of_ble_eq_true rfl, Nat.le_of_ble_eq_true rfl⟩ (dX8_track 17 rfl) 35 rfl (kJ4_init_da8c8 hs q29 .null (0 : Int32) (0 : Int32)) rfl [4] [0, 1, 2, 3] rfl rfl rfl rfl (by decide) rfl (Nat.le_of_ble_eq_true rfl) (((2400 - 16) / 16) + 2) (2 * (2400 - 16) + 13404) (show (((2400 - 16) / 16) + 2) + 1 ≤ 153 by omega) (show (2 * (2400 - 16) + 13404) + 16 ≤ 18220 by omega) (fun z30 v w hz => ?_)
        obtain ⟨q31, rfl, rfl⟩ := hz
        show V E K mX8_track (Qm E K mX8_track (zX8_track E q1 q4 q5 i3 i6 i7 i8 i9 i10 f12 f13)) (((2400 - 16) / 16) + 2) (2 * (2400 - 16) + 13404) [(q1, .inr (9, [.int i3, .ref q4, .ref q5, .int i6, .int i7, .int i8, .int i9, .int i10, .int z18.2])), (q4, .inl (E.2.1, 81, .inl f12)), (q5, .inl (E.2.1, 81, .inl f13)), (q22, .inl (E.2.1, n20, .inl f21)), (q29, .inr (6, [.ref q31, .int cZ, .int (0 : Int32), .int (0 : Int32)])), (q31, .inl (E.2.2.1, 16, .inl (fun _ => 0)))] 35 [(0, .ref q1), (1, .int i2), (2, .ref q22)] [.ref q29] _
        refine V_astore_n (dX8_track 18 rfl) 36 rfl [(0, .ref q1), (1, .int i2), (2, .ref q22), (3, .ref q29)] (Nat.le_of_ble_eq_true rfl) rfl ?_
        refine V_iconst (0 : Int32) (by decide) (dX8_track 19 rfl) 37 rfl ?_
        refine V_istore (dX8_track 20 rfl) 39 rfl [(0, .ref q1), (1, .int i2), (2, .ref q22), (3, .ref q29), (4, .int (0 : Int32))] (Nat.le_of_ble_eq_true rfl) rfl ?_
        refine V_pick [2, 3, 4] [(2, .ref q22), (3, .ref q29), (4, .int (0 : Int32))] rfl ?_
        refine V_less (2 + ((2400 - 16) / 16)) (13404 + 2 * (2400 - 16)) (by omega) (by omega) ?_
        refine vLX8_track_L39 hs q1 q4 q5 q22 q29 i3 i6 i7 i8 i9 i10 f12 f13 z18.2 n20 f21 2 13404 ?_ 600 q31 (0 : Int32) (0 : Int32) 16 (fun _ => 0)
        intro q72 i73 n74 f75
        refine V_less (((2400 - n74) / 16) + 2) (2 * (2400 - n74) + 13404) (by omega) (by omega) ?_
        show V E K mX8_track (Qm E K mX8_track (zX8_track E q1 q4 q5 i3 i6 i7 i8 i9 i10 f12 f13)) (((2400 - n74) / 16) + 2) (2 * (2400 - n74) + 13404) [(q1, .inr (9, [.int i3, .ref q4, .ref q5, .int i6, .int i7, .int i8, .int i9, .int i10, .int z18.2])), (q4, .inl (E.2.1, 81, .inl f12)), (q5, .inl (E.2.1, 81, .inl f13)), (q29, .inr (6, [.ref q72, .int cZ, .int (0 : Int32), .int i73])), (q72, .inl (E.2.2.1, n74, .inl f75))] 80 [(3, .ref q29)] [] _
        refine V_aload_n (dX8_track 41 rfl) 81 rfl 0 rfl ?_
        refine V_callV (M := mX8_track) (wcs := [(q29, .inr (6, [.ref q72, .int cZ, .int (0 : Int32), .int i73])), (q72, .inl (E.2.2.1, n74, .inl f75))]) (wr := [(q1, .inr (9, [.int i3, .ref q4, .ref q5, .int i6, .int i7, .int i8, .int i9, .int i10, .int z18.2])), (q4, .inl (E.2.1, 81, .inl f12)), (q5, .inl (E.2.1, 81, .inl f13))]) mf_J4_toString_0e30d tw_1470 tw_733 tw_734 ⟨Nat.le_of_ble_eq_true rfl, Nat.le_of_ble_eq_true rfl⟩ (dX8_track 42 rfl) 84 rfl (kJ4_toString_0e30d hs q29 q72 (0 : Int32) i73 n74 f75) rfl [3, 4] [0, 1, 2] (q0 := 0) rfl rfl rfl rfl (by decide) rfl rfl rfl rfl (Nat.le_of_ble_eq_true rfl) (((2400 - n74) / 16)) (2 * (2400 - n74)) (show (((2400 - n74) / 16)) + 2 ≤ (((2400 - n74) / 16) + 2) by omega) (show (2 * (2400 - n74)) + 13404 ≤ (2 * (2400 - n74) + 13404) by omega) (fun z76 v w hz => ?_)
        obtain ⟨q77, q78, rfl, rfl⟩ := hz
        show V E K mX8_track (Qm E K mX8_track (zX8_track E q1 q4 q5 i3 i6 i7 i8 i9 i10 f12 f13)) (((2400 - n74) / 16)) (2 * (2400 - n74)) [(q1, .inr (9, [.int i3, .ref q4, .ref q5, .int i6, .int i7, .int i8, .int i9, .int i10, .int z18.2])), (q4, .inl (E.2.1, 81, .inl f12)), (q5, .inl (E.2.1, 81, .inl f13)), (q29, .inr (6, [.ref q72, .int cZ, .int (0 : Int32), .int i73])), (q72, .inl (E.2.2.1, n74, .inl f75)), (q77, .inr (7, [.ref q78, .int cZ, .int (0 : Int32), .int (0 : Int32)])), (q78, .inl (E.2.2.1, z76.1, .inl z76.2))] 84 [(3, .ref q29)] [.ref q77] _
        refine V_world [0, 1, 2] [(q1, .inr (9, [.int i3, .ref q4, .ref q5, .int i6, .int i7, .int i8, .int i9, .int i10, .int z18.2])), (q4, .inl (E.2.1, 81, .inl f12)), (q5, .inl (E.2.1, 81, .inl f13))] rfl rfl rfl ?_
        exact V_aret rfl (Or.inl ⟨_, rfl⟩) (Or.inr ⟨_, rfl⟩) (dX8_track 43 rfl) ⟨q77, rfl, rfl⟩
    · refine V_ldcS 3 rfl (dX8_track 9 rfl) 21 rfl ?_
      refine V_world [2, 0, 1] [(q1, .inr (9, [.int i3, .ref q4, .ref q5, .int i6, .int i7, .int i8, .int i9, .int i10, .int z18.2])), (q4, .inl (E.2.1, 81, .inl f12)), (q5, .inl (E.2.1, 81, .inl f13))] rfl rfl rfl ?_
      exact V_aret rfl (Or.inl ⟨_, rfl⟩) (Or.inr ⟨_, rfl⟩) (dX8_track 10 rfl) ⟨(E.2.2.2.1 3), rfl, rfl⟩
  · intro k15 hk16
    refine V_if_ne (dX8_track 3 rfl) 12 (by decide) 8 rfl ?_ ?_
    · refine V_iconst (0 : Int32) (by decide) (dX8_track 6 rfl) 13 rfl ?_
      exact hk16 (0 : Int32)
    · refine V_iconst (1 : Int32) (by decide) (dX8_track 4 rfl) 9 rfl ?_
      refine V_goto (dX8_track 5 rfl) 13 (by decide) ?_
      exact hk16 (1 : Int32))
set_option maxRecDepth 20000 in
theorem vBX8_layerNow_L56 {E : EX} {K : KX} (hs : K.l.stackTraces = false) (q1 q4 q5 : Nat) (i3 i6 i7 i8 i9 i10 i11 : Int32) (f12 f13 : Nat → Int32) (i2 i114 i115 i166 : Int32) (bc bs : Nat) (i191 i192 : Int32) {rec : Int32 → Int32 → Option (Int32)} {k1 : Int32 → Option (Int32)} (hrec : ∀ (i191 i192 : Int32), V E K mX8_layerNow (Qm E K mX8_layerNow (zX8_layerNow E q1 q4 q5 i3 i6 i7 i8 i9 i10 i11 f12 f13)) (bc) (bs) [(q1, .inr (9, [.int i3, .ref q4, .ref q5, .int i6, .int i7, .int i8, .int i9, .int i10, .int i11])), (q4, .inl (E.2.1, 81, .inl f12)), (q5, .inl (E.2.1, 81, .inl f13))] 56 [(0, .ref q1), (1, .int i2), (2, .int i114), (3, .int i115), (4, .int i191), (5, .int i166), (6, .int i192)] [] (rec i191 i192)) (hk1 : ∀ (i198 : Int32), V E K mX8_layerNow (Qm E K mX8_layerNow (zX8_layerNow E q1 q4 q5 i3 i6 i7 i8 i9 i10 i11 f12 f13)) (bc) (bs) [(q1, .inr (9, [.int i3, .ref q4, .ref q5, .int i6, .int i7, .int i8, .int i9, .int i10, .int i11])), (q4, .inl (E.2.1, 81, .inl f12)), (q5, .inl (E.2.1, 81, .inl f13))] 91 [(0, .ref q1), (1, .int i2), (2, .int i114), (3, .int i115), (4, .int i198), (5, .int i166)] [] (k1 i198)) : V E K mX8_layerNow (Qm E K mX8_layerNow (zX8_layerNow E q1 q4 q5 i3 i6 i7 i8 i9 i10 i11 f12 f13)) (bc) (bs) [(q1, .inr (9, [.int i3, .ref q4, .ref q5, .int i6, .int i7, .int i8, .int i9, .int i10, .int i11])), (q4, .inl (E.2.1, 81, .inl f12)), (q5, .inl (E.2.1, 81, .inl f13))] 56 [(0, .ref q1), (1, .int i2), (2, .int i114), (3, .int i115), (4, .int i191), (5, .int i166), (6, .int i192)] [] (BX8_layerNow_L56  i3 f12 f13 i166 i191 i192 rec k1) := by
  unfold BX8_layerNow_L56
  refine V_iload (dX8_layerNow 37 rfl) 58 rfl 6 rfl ?_
  refine V_aload_n (dX8_layerNow 38 rfl) 59 rfl 0 rfl ?_
  refine V_get gf_M_17 0 rfl rfl (dX8_layerNow 39 rfl) 62 rfl ?_
  refine V_icmp_ge (dX8_layerNow 40 rfl) 91 (by decide) 65 rfl ?_ ?_
  · refine V_pick [0, 1, 2, 3, 4, 5] [(0, .ref q1), (1, .int i2), (2, .int i114), (3, .int i115), (4, .int i191), (5, .int i166)] rfl ?_
    exact hk1 i191
  · refine V_aload_n (dX8_layerNow 41 rfl) 66 rfl 0 rfl ?_
    refine V_iload (dX8_layerNow 42 rfl) 68 rfl 5 rfl ?_
    refine V_iload (dX8_layerNow 43 rfl) 70 rfl 6 rfl ?_
    refine V_callV (M := mX8_layerNow) (wcs := [(q1, .inr (9, [.int i3, .ref q4, .ref q5, .int i6, .int i7, .int i8, .int i9, .int i10, .int i11])), (q4, .inl (E.2.1, 81, .inl f12)), (q5, .inl (E.2.1, 81, .inl f13))]) (wr := []) mf_X8_left tw_1388 tw_1390 tw_42 ⟨Nat.le_of_ble_eq_true rfl, Nat.le_of_ble_eq_true rfl⟩ (dX8_layerNow 44 rfl) 73 rfl (kX8_left hs q1 q4 q5 i3 i6 i7 i8 i9 i10 i11 f12 f13 i166 i192) rfl [0, 1, 2] [] (q0 := 0) rfl rfl rfl rfl (by decide) rfl rfl rfl rfl (Nat.le_of_ble_eq_true rfl) (bc) (bs) (show (bc) + 0 ≤ (bc) by omega) (show (bs) + 0 ≤ (bs) by omega) (fun z193 v w hz => ?_)
    obtain ⟨rfl, rfl⟩ := hz
    show V E K mX8_layerNow (Qm E K mX8_layerNow (zX8_layerNow E q1 q4 q5 i3 i6 i7 i8 i9 i10 i11 f12 f13)) (bc) (bs) [(q1, .inr (9, [.int i3, .ref q4, .ref q5, .int i6, .int i7, .int i8, .int i9, .int i10, .int i11])), (q4, .inl (E.2.1, 81, .inl f12)), (q5, .inl (E.2.1, 81, .inl f13))] 73 [(0, .ref q1), (1, .int i2), (2, .int i114), (3, .int i115), (4, .int i191), (5, .int i166), (6, .int i192)] [.int z193] _
    refine V_jn (fun (k194 : Int32 → Option (Int32)) => ∀ (i197 : Int32), V E K mX8_layerNow (Qm E K mX8_layerNow (zX8_layerNow E q1 q4 q5 i3 i6 i7 i8 i9 i10 i11 f12 f13)) (bc) (bs) [(q1, .inr (9, [.int i3, .ref q4, .ref q5, .int i6, .int i7, .int i8, .int i9, .int i10, .int i11])), (q4, .inl (E.2.1, 81, .inl f12)), (q5, .inl (E.2.1, 81, .inl f13))] 85 [(0, .ref q1), (1, .int i2), (2, .int i114), (3, .int i115), (4, .int i197), (5, .int i166), (6, .int i192)] [] (k194 i197)) ?_ ?_
    · intro i197
      show V E K mX8_layerNow (Qm E K mX8_layerNow (zX8_layerNow E q1 q4 q5 i3 i6 i7 i8 i9 i10 i11 f12 f13)) (bc) (bs) [(q1, .inr (9, [.int i3, .ref q4, .ref q5, .int i6, .int i7, .int i8, .int i9, .int i10, .int i11])), (q4, .inl (E.2.1, 81, .inl f12)), (q5, .inl (E.2.1, 81, .inl f13))] 85 [(0, .ref q1), (1, .int i2), (2, .int i114), (3, .int i115), (4, .int i197), (5, .int i166), (6, .int i192)] [] _
      refine V_iinc (dX8_layerNow 52 rfl) 88 rfl 6 rfl (i192 + (1 : Int32)) rfl [(0, .ref q1), (1, .int i2), (2, .int i114), (3, .int i115), (4, .int i197), (5, .int i166), (6, .int (i192 + (1 : Int32)))] (Nat.le_of_ble_eq_true rfl) rfl ?_
      refine V_goto (dX8_layerNow 53 rfl) 56 (by decide) ?_
      exact hrec i197 (i192 + (1 : Int32))
    · intro k194 hk195
      refine V_if_le (dX8_layerNow 45 rfl) 85 (by decide) 76 rfl ?_ ?_
      · exact hk195 i191
      · refine V_iload (dX8_layerNow 46 rfl) 78 rfl 4 rfl ?_
        refine V_iconst (1 : Int32) (by decide) (dX8_layerNow 47 rfl) 79 rfl ?_
        refine V_iload (dX8_layerNow 48 rfl) 81 rfl 6 rfl ?_
        refine V_ishl (dX8_layerNow 49 rfl) 82 rfl ?_
        refine V_ior (dX8_layerNow 50 rfl) 83 rfl ?_
        refine V_nmI (fun i196 => ?_)
        refine V_istore (dX8_layerNow 51 rfl) 85 rfl [(0, .ref q1), (1, .int i2), (2, .int i114), (3, .int i115), (4, .int i196), (5, .int i166), (6, .int i192)] (Nat.le_of_ble_eq_true rfl) rfl ?_
        exact hk195 i196
set_option maxRecDepth 20000 in
theorem vLX8_layerNow_L56 {E : EX} {K : KX} (hs : K.l.stackTraces = false) (q1 q4 q5 : Nat) (i3 i6 i7 i8 i9 i10 i11 : Int32) (f12 f13 : Nat → Int32) (i2 i114 i115 i166 : Int32) (bc bs : Nat) {k1 : Int32 → Option (Int32)} (hk1 : ∀ (i198 : Int32), V E K mX8_layerNow (Qm E K mX8_layerNow (zX8_layerNow E q1 q4 q5 i3 i6 i7 i8 i9 i10 i11 f12 f13)) (bc) (bs) [(q1, .inr (9, [.int i3, .ref q4, .ref q5, .int i6, .int i7, .int i8, .int i9, .int i10, .int i11])), (q4, .inl (E.2.1, 81, .inl f12)), (q5, .inl (E.2.1, 81, .inl f13))] 91 [(0, .ref q1), (1, .int i2), (2, .int i114), (3, .int i115), (4, .int i198), (5, .int i166)] [] (k1 i198)) : ∀ (n : Nat) (i191 i192 : Int32), V E K mX8_layerNow (Qm E K mX8_layerNow (zX8_layerNow E q1 q4 q5 i3 i6 i7 i8 i9 i10 i11 f12 f13)) (bc) (bs) [(q1, .inr (9, [.int i3, .ref q4, .ref q5, .int i6, .int i7, .int i8, .int i9, .int i10, .int i11])), (q4, .inl (E.2.1, 81, .inl f12)), (q5, .inl (E.2.1, 81, .inl f13))] 56 [(0, .ref q1), (1, .int i2), (2, .int i114), (3, .int i115), (4, .int i191), (5, .int i166), (6, .int i192)] [] (LX8_layerNow_L56  i3 f12 f13 i166 n i191 i192 k1)
  | 0, _, _ => V_none
  | n + 1, i191, i192 => vBX8_layerNow_L56 hs q1 q4 q5 i3 i6 i7 i8 i9 i10 i11 f12 f13 i2 i114 i115 i166 bc bs i191 i192 (fun i191 i192 => vLX8_layerNow_L56 hs q1 q4 q5 i3 i6 i7 i8 i9 i10 i11 f12 f13 i2 i114 i115 i166 bc bs hk1 n i191 i192) hk1
set_option maxRecDepth 20000 in
theorem vBX8_layerNow_L34 {E : EX} {K : KX} (hs : K.l.stackTraces = false) (q1 q4 q5 : Nat) (i3 i6 i7 i8 i9 i10 i11 : Int32) (f12 f13 : Nat → Int32) (i2 i114 i115 : Int32) (bc bs : Nat) (i165 i166 : Int32) {rec : Int32 → Int32 → Option (Int32)} {k1 : Int32 → Option (Int32)} (hrec : ∀ (i165 i166 : Int32), V E K mX8_layerNow (Qm E K mX8_layerNow (zX8_layerNow E q1 q4 q5 i3 i6 i7 i8 i9 i10 i11 f12 f13)) (bc) (bs) [(q1, .inr (9, [.int i3, .ref q4, .ref q5, .int i6, .int i7, .int i8, .int i9, .int i10, .int i11])), (q4, .inl (E.2.1, 81, .inl f12)), (q5, .inl (E.2.1, 81, .inl f13))] 34 [(0, .ref q1), (1, .int i2), (2, .int i114), (3, .int i115), (4, .int i165), (5, .int i166)] [] (rec i165 i166)) (hk1 : ∀ (i200 : Int32), V E K mX8_layerNow (Qm E K mX8_layerNow (zX8_layerNow E q1 q4 q5 i3 i6 i7 i8 i9 i10 i11 f12 f13)) (bc) (bs) [(q1, .inr (9, [.int i3, .ref q4, .ref q5, .int i6, .int i7, .int i8, .int i9, .int i10, .int i11])), (q4, .inl (E.2.1, 81, .inl f12)), (q5, .inl (E.2.1, 81, .inl f13))] 97 [(0, .ref q1), (1, .int i2), (3, .int i115), (4, .int i200)] [] (k1 i200)) : V E K mX8_layerNow (Qm E K mX8_layerNow (zX8_layerNow E q1 q4 q5 i3 i6 i7 i8 i9 i10 i11 f12 f13)) (bc) (bs) [(q1, .inr (9, [.int i3, .ref q4, .ref q5, .int i6, .int i7, .int i8, .int i9, .int i10, .int i11])), (q4, .inl (E.2.1, 81, .inl f12)), (q5, .inl (E.2.1, 81, .inl f13))] 34 [(0, .ref q1), (1, .int i2), (2, .int i114), (3, .int i115), (4, .int i165), (5, .int i166)] [] (BX8_layerNow_L34  i3 f12 f13 i114 i165 i166 rec k1) := by
  unfold BX8_layerNow_L34
  refine V_iload (dX8_layerNow 24 rfl) 36 rfl 5 rfl ?_
  refine V_aload_n (dX8_layerNow 25 rfl) 37 rfl 0 rfl ?_
  refine V_get gf_M_17 0 rfl rfl (dX8_layerNow 26 rfl) 40 rfl ?_
  refine V_icmp_ge (dX8_layerNow 27 rfl) 97 (by decide) 43 rfl ?_ ?_
  · refine V_pick [0, 1, 3, 4] [(0, .ref q1), (1, .int i2), (3, .int i115), (4, .int i165)] rfl ?_
    exact hk1 i165
  · refine V_iload_n (dX8_layerNow 28 rfl) 44 rfl 2 rfl ?_
    refine V_iload (dX8_layerNow 29 rfl) 46 rfl 5 rfl ?_
    refine V_ishr (dX8_layerNow 30 rfl) 47 rfl ?_
    refine V_iconst (1 : Int32) (by decide) (dX8_layerNow 31 rfl) 48 rfl ?_
    refine V_iand (dX8_layerNow 32 rfl) 49 rfl ?_
    refine V_iconst (1 : Int32) (by decide) (dX8_layerNow 33 rfl) 50 rfl ?_
    refine V_jn (fun (k167 : Int32 → Option (Int32)) => ∀ (i199 : Int32), V E K mX8_layerNow (Qm E K mX8_layerNow (zX8_layerNow E q1 q4 q5 i3 i6 i7 i8 i9 i10 i11 f12 f13)) (bc) (bs) [(q1, .inr (9, [.int i3, .ref q4, .ref q5, .int i6, .int i7, .int i8, .int i9, .int i10, .int i11])), (q4, .inl (E.2.1, 81, .inl f12)), (q5, .inl (E.2.1, 81, .inl f13))] 91 [(0, .ref q1), (1, .int i2), (2, .int i114), (3, .int i115), (4, .int i199), (5, .int i166)] [] (k167 i199)) ?_ ?_
    · intro i199
      show V E K mX8_layerNow (Qm E K mX8_layerNow (zX8_layerNow E q1 q4 q5 i3 i6 i7 i8 i9 i10 i11 f12 f13)) (bc) (bs) [(q1, .inr (9, [.int i3, .ref q4, .ref q5, .int i6, .int i7, .int i8, .int i9, .int i10, .int i11])), (q4, .inl (E.2.1, 81, .inl f12)), (q5, .inl (E.2.1, 81, .inl f13))] 91 [(0, .ref q1), (1, .int i2), (2, .int i114), (3, .int i115), (4, .int i199), (5, .int i166)] [] _
      refine V_iinc (dX8_layerNow 54 rfl) 94 rfl 5 rfl (i166 + (1 : Int32)) rfl [(0, .ref q1), (1, .int i2), (2, .int i114), (3, .int i115), (4, .int i199), (5, .int (i166 + (1 : Int32)))] (Nat.le_of_ble_eq_true rfl) rfl ?_
      refine V_goto (dX8_layerNow 55 rfl) 34 (by decide) ?_
      exact hrec i199 (i166 + (1 : Int32))
    · intro k167 hk168
      refine V_icmp_ne (dX8_layerNow 34 rfl) 91 (by decide) 53 rfl ?_ ?_
      · exact hk168 i165
      · refine V_iconst (0 : Int32) (by decide) (dX8_layerNow 35 rfl) 54 rfl ?_
        refine V_istore (dX8_layerNow 36 rfl) 56 rfl [(0, .ref q1), (1, .int i2), (2, .int i114), (3, .int i115), (4, .int i165), (5, .int i166), (6, .int (0 : Int32))] (Nat.le_of_ble_eq_true rfl) rfl ?_
        refine vLX8_layerNow_L56 hs q1 q4 q5 i3 i6 i7 i8 i9 i10 i11 f12 f13 i2 i114 i115 i166 (bc) (bs) ?_ 600 i165 (0 : Int32)
        intro i198
        show V E K mX8_layerNow (Qm E K mX8_layerNow (zX8_layerNow E q1 q4 q5 i3 i6 i7 i8 i9 i10 i11 f12 f13)) (bc) (bs) [(q1, .inr (9, [.int i3, .ref q4, .ref q5, .int i6, .int i7, .int i8, .int i9, .int i10, .int i11])), (q4, .inl (E.2.1, 81, .inl f12)), (q5, .inl (E.2.1, 81, .inl f13))] 91 [(0, .ref q1), (1, .int i2), (2, .int i114), (3, .int i115), (4, .int i198), (5, .int i166)] [] _
        exact hk168 i198
set_option maxRecDepth 20000 in
theorem vLX8_layerNow_L34 {E : EX} {K : KX} (hs : K.l.stackTraces = false) (q1 q4 q5 : Nat) (i3 i6 i7 i8 i9 i10 i11 : Int32) (f12 f13 : Nat → Int32) (i2 i114 i115 : Int32) (bc bs : Nat) {k1 : Int32 → Option (Int32)} (hk1 : ∀ (i200 : Int32), V E K mX8_layerNow (Qm E K mX8_layerNow (zX8_layerNow E q1 q4 q5 i3 i6 i7 i8 i9 i10 i11 f12 f13)) (bc) (bs) [(q1, .inr (9, [.int i3, .ref q4, .ref q5, .int i6, .int i7, .int i8, .int i9, .int i10, .int i11])), (q4, .inl (E.2.1, 81, .inl f12)), (q5, .inl (E.2.1, 81, .inl f13))] 97 [(0, .ref q1), (1, .int i2), (3, .int i115), (4, .int i200)] [] (k1 i200)) : ∀ (n : Nat) (i165 i166 : Int32), V E K mX8_layerNow (Qm E K mX8_layerNow (zX8_layerNow E q1 q4 q5 i3 i6 i7 i8 i9 i10 i11 f12 f13)) (bc) (bs) [(q1, .inr (9, [.int i3, .ref q4, .ref q5, .int i6, .int i7, .int i8, .int i9, .int i10, .int i11])), (q4, .inl (E.2.1, 81, .inl f12)), (q5, .inl (E.2.1, 81, .inl f13))] 34 [(0, .ref q1), (1, .int i2), (2, .int i114), (3, .int i115), (4, .int i165), (5, .int i166)] [] (LX8_layerNow_L34  i3 f12 f13 i114 n i165 i166 k1)
  | 0, _, _ => V_none
  | n + 1, i165, i166 => vBX8_layerNow_L34 hs q1 q4 q5 i3 i6 i7 i8 i9 i10 i11 f12 f13 i2 i114 i115 bc bs i165 i166 (fun i165 i166 => vLX8_layerNow_L34 hs q1 q4 q5 i3 i6 i7 i8 i9 i10 i11 f12 f13 i2 i114 i115 bc bs hk1 n i165 i166) hk1
set_option maxRecDepth 20000 in
theorem vBX8_layerNow_L9 {E : EX} {K : KX} (hs : K.l.stackTraces = false) (q1 q4 q5 : Nat) (i3 i6 i7 i8 i9 i10 i11 : Int32) (f12 f13 : Nat → Int32) (i2 : Int32) (bc bs : Nat) (i114 i115 : Int32) {rec : Int32 → Int32 → Option (Int32)}  (hrec : ∀ (i114 i115 : Int32), V E K mX8_layerNow (Qm E K mX8_layerNow (zX8_layerNow E q1 q4 q5 i3 i6 i7 i8 i9 i10 i11 f12 f13)) (bc) (bs) [(q1, .inr (9, [.int i3, .ref q4, .ref q5, .int i6, .int i7, .int i8, .int i9, .int i10, .int i11])), (q4, .inl (E.2.1, 81, .inl f12)), (q5, .inl (E.2.1, 81, .inl f13))] 9 [(0, .ref q1), (1, .int i2), (2, .int i114), (3, .int i115)] [] (rec i114 i115))  : V E K mX8_layerNow (Qm E K mX8_layerNow (zX8_layerNow E q1 q4 q5 i3 i6 i7 i8 i9 i10 i11 f12 f13)) (bc) (bs) [(q1, .inr (9, [.int i3, .ref q4, .ref q5, .int i6, .int i7, .int i8, .int i9, .int i10, .int i11])), (q4, .inl (E.2.1, 81, .inl f12)), (q5, .inl (E.2.1, 81, .inl f13))] 9 [(0, .ref q1), (1, .int i2), (2, .int i114), (3, .int i115)] [] (BX8_layerNow_L9  i3 f12 f13 i2 i114 i115 rec ) := by
  unfold BX8_layerNow_L9
  refine V_iload_n (dX8_layerNow 7 rfl) 10 rfl 3 rfl ?_
  refine V_aload_n (dX8_layerNow 8 rfl) 11 rfl 0 rfl ?_
  refine V_get gf_M_17 0 rfl rfl (dX8_layerNow 9 rfl) 14 rfl ?_
  refine V_icmp_ge (dX8_layerNow 10 rfl) 106 (by decide) 17 rfl ?_ ?_
  · refine V_iconst (-1 : Int32) (by decide) (dX8_layerNow 60 rfl) 107 rfl ?_
    exact V_iret rfl (dX8_layerNow 61 rfl) ⟨rfl, rfl⟩
  · refine V_iload_n (dX8_layerNow 11 rfl) 18 rfl 2 rfl ?_
    refine V_iload_n (dX8_layerNow 12 rfl) 19 rfl 1 rfl ?_
    refine V_ishr (dX8_layerNow 13 rfl) 20 rfl ?_
    refine V_iconst (1 : Int32) (by decide) (dX8_layerNow 14 rfl) 21 rfl ?_
    refine V_iand (dX8_layerNow 15 rfl) 22 rfl ?_
    refine V_iconst (1 : Int32) (by decide) (dX8_layerNow 16 rfl) 23 rfl ?_
    refine V_icmp_ne (dX8_layerNow 17 rfl) 28 (by decide) 26 rfl ?_ ?_
    · refine V_iload_n (dX8_layerNow 20 rfl) 29 rfl 2 rfl ?_
      refine V_istore (dX8_layerNow 21 rfl) 31 rfl [(0, .ref q1), (1, .int i2), (2, .int i114), (3, .int i115), (4, .int i114)] (Nat.le_of_ble_eq_true rfl) rfl ?_
      refine V_iconst (0 : Int32) (by decide) (dX8_layerNow 22 rfl) 32 rfl ?_
      refine V_istore (dX8_layerNow 23 rfl) 34 rfl [(0, .ref q1), (1, .int i2), (2, .int i114), (3, .int i115), (4, .int i114), (5, .int (0 : Int32))] (Nat.le_of_ble_eq_true rfl) rfl ?_
      refine vLX8_layerNow_L34 hs q1 q4 q5 i3 i6 i7 i8 i9 i10 i11 f12 f13 i2 i114 i115 (bc) (bs) ?_ 600 i114 (0 : Int32)
      intro i200
      show V E K mX8_layerNow (Qm E K mX8_layerNow (zX8_layerNow E q1 q4 q5 i3 i6 i7 i8 i9 i10 i11 f12 f13)) (bc) (bs) [(q1, .inr (9, [.int i3, .ref q4, .ref q5, .int i6, .int i7, .int i8, .int i9, .int i10, .int i11])), (q4, .inl (E.2.1, 81, .inl f12)), (q5, .inl (E.2.1, 81, .inl f13))] 97 [(0, .ref q1), (1, .int i2), (3, .int i115), (4, .int i200)] [] _
      refine V_iload (dX8_layerNow 56 rfl) 99 rfl 3 rfl ?_
      refine V_istore_n (dX8_layerNow 57 rfl) 100 rfl [(0, .ref q1), (1, .int i2), (2, .int i200), (3, .int i115), (4, .int i200)] (Nat.le_of_ble_eq_true rfl) rfl ?_
      refine V_iinc (dX8_layerNow 58 rfl) 103 rfl 3 rfl (i115 + (1 : Int32)) rfl [(0, .ref q1), (1, .int i2), (2, .int i200), (3, .int (i115 + (1 : Int32))), (4, .int i200)] (Nat.le_of_ble_eq_true rfl) rfl ?_
      refine V_goto (dX8_layerNow 59 rfl) 9 (by decide) ?_
      refine V_pick [0, 1, 2, 3] [(0, .ref q1), (1, .int i2), (2, .int i200), (3, .int (i115 + (1 : Int32)))] rfl ?_
      exact hrec i200 (i115 + (1 : Int32))
    · refine V_iload_n (dX8_layerNow 18 rfl) 27 rfl 3 rfl ?_
      exact V_iret rfl (dX8_layerNow 19 rfl) ⟨rfl, rfl⟩
set_option maxRecDepth 20000 in
theorem vLX8_layerNow_L9 {E : EX} {K : KX} (hs : K.l.stackTraces = false) (q1 q4 q5 : Nat) (i3 i6 i7 i8 i9 i10 i11 : Int32) (f12 f13 : Nat → Int32) (i2 : Int32) (bc bs : Nat)   : ∀ (n : Nat) (i114 i115 : Int32), V E K mX8_layerNow (Qm E K mX8_layerNow (zX8_layerNow E q1 q4 q5 i3 i6 i7 i8 i9 i10 i11 f12 f13)) (bc) (bs) [(q1, .inr (9, [.int i3, .ref q4, .ref q5, .int i6, .int i7, .int i8, .int i9, .int i10, .int i11])), (q4, .inl (E.2.1, 81, .inl f12)), (q5, .inl (E.2.1, 81, .inl f13))] 9 [(0, .ref q1), (1, .int i2), (2, .int i114), (3, .int i115)] [] (LX8_layerNow_L9  i3 f12 f13 i2 n i114 i115 )
  | 0, _, _ => V_none
  | n + 1, i114, i115 => vBX8_layerNow_L9 hs q1 q4 q5 i3 i6 i7 i8 i9 i10 i11 f12 f13 i2 bc bs i114 i115 (fun i114 i115 => vLX8_layerNow_L9 hs q1 q4 q5 i3 i6 i7 i8 i9 i10 i11 f12 f13 i2 bc bs  n i114 i115) 
set_option maxRecDepth 20000 in
theorem kX8_layerNow {E : EX} {l : Launch} (hl : l.stackTraces = false) (q1 q4 q5 : Nat) (i3 i6 i7 i8 i9 i10 i11 : Int32) (f12 f13 : Nat → Int32) (i2 : Int32) : Ct E l mX8_layerNow [.ref q1, .int i2] [(q1, .inr (9, [.int i3, .ref q4, .ref q5, .int i6, .int i7, .int i8, .int i9, .int i10, .int i11])), (q4, .inl (E.2.1, 81, .inl f12)), (q5, .inl (E.2.1, 81, .inl f13))] (fX8_layerNow i3 i6 f12 f13 i2) (zX8_layerNow E q1 q4 q5 i3 i6 i7 i8 i9 i10 i11 f12 f13) := Ct_of hl mf_X8_layerNow.1 (Nat.le_of_ble_eq_true rfl) (fun K hs => by
  refine V_less 0 0 (Nat.le_refl _) (Nat.le_refl _) ?_
  refine V_pick [0, 1] [(0, .ref q1), (1, .int i2)] rfl ?_
  unfold fX8_layerNow
  refine V_iconst (1 : Int32) (by decide) (dX8_layerNow 0 rfl) 1 rfl ?_
  refine V_aload_n (dX8_layerNow 1 rfl) 2 rfl 0 rfl ?_
  refine V_get gf_M_27 0 rfl rfl (dX8_layerNow 2 rfl) 5 rfl ?_
  refine V_ishl (dX8_layerNow 3 rfl) 6 rfl ?_
  refine V_nmI (fun i14 => ?_)
  refine V_istore_n (dX8_layerNow 4 rfl) 7 rfl [(0, .ref q1), (1, .int i2), (2, .int i14)] (Nat.le_of_ble_eq_true rfl) rfl ?_
  refine V_iconst (0 : Int32) (by decide) (dX8_layerNow 5 rfl) 8 rfl ?_
  refine V_istore_n (dX8_layerNow 6 rfl) 9 rfl [(0, .ref q1), (1, .int i2), (2, .int i14), (3, .int (0 : Int32))] (Nat.le_of_ble_eq_true rfl) rfl ?_
  refine vLX8_layerNow_L9 hs q1 q4 q5 i3 i6 i7 i8 i9 i10 i11 f12 f13 i2 0 0  600 i14 (0 : Int32))
set_option maxRecDepth 20000 in
theorem kX8_layer {E : EX} {l : Launch} (hl : l.stackTraces = false) (q1 q4 q5 : Nat) (i3 i6 i7 i8 i9 i10 i11 : Int32) (f12 f13 : Nat → Int32) (i2 : Int32) : Ct E l mX8_layer [.ref q1, .int i2] [(q1, .inr (9, [.int i3, .ref q4, .ref q5, .int i6, .int i7, .int i8, .int i9, .int i10, .int i11])), (q4, .inl (E.2.1, 81, .inl f12)), (q5, .inl (E.2.1, 81, .inl f13))] (fX8_layer i3 i6 f12 f13 i2) (zX8_layer E q1 q4 q5 i3 i6 i7 i8 i9 i10 f12 f13) := Ct_of hl mf_X8_layer.1 (Nat.le_of_ble_eq_true rfl) (fun K hs => by
  refine V_less 0 0 (Nat.le_refl _) (Nat.le_refl _) ?_
  refine V_pick [0, 1] [(0, .ref q1), (1, .int i2)] rfl ?_
  unfold fX8_layer
  refine V_aload_n (dX8_layer 0 rfl) 1 rfl 0 rfl ?_
  refine V_aload_n (dX8_layer 1 rfl) 2 rfl 0 rfl ?_
  refine V_iload_n (dX8_layer 2 rfl) 3 rfl 1 rfl ?_
  refine V_callV (M := mX8_layer) (wcs := [(q1, .inr (9, [.int i3, .ref q4, .ref q5, .int i6, .int i7, .int i8, .int i9, .int i10, .int i11]))]) (wr := [(q4, .inl (E.2.1, 81, .inl f12)), (q5, .inl (E.2.1, 81, .inl f13))]) mf_X8_isPlace tw_1299 tw_1301 tw_30 ⟨Nat.le_of_ble_eq_true rfl, Nat.le_of_ble_eq_true rfl⟩ (dX8_layer 3 rfl) 6 rfl (kX8_isPlace hs q1 i3 (.ref q4) (.ref q5) i6 i7 i8 i9 i10 i11 i2) rfl [0] [1, 2] (q0 := 0) rfl rfl rfl rfl (by decide) rfl rfl rfl rfl (Nat.le_of_ble_eq_true rfl) 0 0 (show 0 + 0 ≤ 0 from Nat.le_of_ble_eq_true rfl) (show 0 + 0 ≤ 0 from Nat.le_of_ble_eq_true rfl) (fun z14 v w hz => ?_)
  obtain ⟨rfl, rfl⟩ := hz
  show V E K mX8_layer (Qm E K mX8_layer (zX8_layer E q1 q4 q5 i3 i6 i7 i8 i9 i10 f12 f13)) 0 0 [(q4, .inl (E.2.1, 81, .inl f12)), (q5, .inl (E.2.1, 81, .inl f13)), (q1, .inr (9, [.int i3, .ref q4, .ref q5, .int i6, .int i7, .int i8, .int i9, .int i10, .int i11]))] 6 [(0, .ref q1), (1, .int i2)] [.int z14, .ref q1] _
  refine V_jn (fun (k15 : Int32 → Option (Int32 × Int32)) => ∀ (i17 : Int32), V E K mX8_layer (Qm E K mX8_layer (zX8_layer E q1 q4 q5 i3 i6 i7 i8 i9 i10 f12 f13)) 0 0 [(q1, .inr (9, [.int i3, .ref q4, .ref q5, .int i6, .int i7, .int i8, .int i9, .int i10, .int i11])), (q4, .inl (E.2.1, 81, .inl f12)), (q5, .inl (E.2.1, 81, .inl f13))] 14 [(0, .ref q1), (1, .int i2)] [.int i17, .ref q1] (k15 i17)) ?_ ?_
  · intro i17
    show V E K mX8_layer (Qm E K mX8_layer (zX8_layer E q1 q4 q5 i3 i6 i7 i8 i9 i10 f12 f13)) 0 0 [(q1, .inr (9, [.int i3, .ref q4, .ref q5, .int i6, .int i7, .int i8, .int i9, .int i10, .int i11])), (q4, .inl (E.2.1, 81, .inl f12)), (q5, .inl (E.2.1, 81, .inl f13))] 14 [(0, .ref q1), (1, .int i2)] [.int i17, .ref q1] _
    refine V_callV (M := mX8_layer) (wcs := [(q1, .inr (9, [.int i3, .ref q4, .ref q5, .int i6, .int i7, .int i8, .int i9, .int i10, .int i11]))]) (wr := [(q4, .inl (E.2.1, 81, .inl f12)), (q5, .inl (E.2.1, 81, .inl f13))]) mf_X8_isThrown_ tw_1283 tw_1285 tw_27 ⟨Nat.le_of_ble_eq_true rfl, Nat.le_of_ble_eq_true rfl⟩ (dX8_layer 8 rfl) 17 rfl (kX8_isThrown_ hs q1 i3 (.ref q4) (.ref q5) i6 i7 i8 i9 i10 i11 i17) rfl [0] [1, 2] (q0 := 0) rfl rfl rfl rfl (by decide) rfl rfl rfl rfl (Nat.le_of_ble_eq_true rfl) 0 0 (show 0 + 0 ≤ 0 from Nat.le_of_ble_eq_true rfl) (show 0 + 0 ≤ 0 from Nat.le_of_ble_eq_true rfl) (fun z18 v w hz => ?_)
    obtain ⟨rfl, rfl⟩ := hz
    show V E K mX8_layer (Qm E K mX8_layer (zX8_layer E q1 q4 q5 i3 i6 i7 i8 i9 i10 f12 f13)) 0 0 [(q4, .inl (E.2.1, 81, .inl f12)), (q5, .inl (E.2.1, 81, .inl f13)), (q1, .inr (9, [.int i3, .ref q4, .ref q5, .int i6, .int i7, .int i8, .int i9, .int i10, .int z18.2]))] 17 [(0, .ref q1), (1, .int i2)] [.int z18.1] _
    refine V_if_eq (dX8_layer 9 rfl) 24 (by decide) 20 rfl ?_ ?_
    · refine V_aload_n (dX8_layer 12 rfl) 25 rfl 0 rfl ?_
      refine V_iload_n (dX8_layer 13 rfl) 26 rfl 1 rfl ?_
      refine V_callV (M := mX8_layer) (wcs := [(q1, .inr (9, [.int i3, .ref q4, .ref q5, .int i6, .int i7, .int i8, .int i9, .int i10, .int z18.2])), (q4, .inl (E.2.1, 81, .inl f12)), (q5, .inl (E.2.1, 81, .inl f13))]) (wr := []) mf_X8_layerNow tw_1543 tw_1545 tw_57 ⟨Nat.le_of_ble_eq_true rfl, Nat.le_of_ble_eq_true rfl⟩ (dX8_layer 14 rfl) 29 rfl (kX8_layerNow hs q1 q4 q5 i3 i6 i7 i8 i9 i10 z18.2 f12 f13 i2) rfl [2, 0, 1] [] (q0 := 0) rfl rfl rfl rfl (by decide) rfl rfl rfl rfl (Nat.le_of_ble_eq_true rfl) 0 0 (show 0 + 0 ≤ 0 from Nat.le_of_ble_eq_true rfl) (show 0 + 0 ≤ 0 from Nat.le_of_ble_eq_true rfl) (fun z19 v w hz => ?_)
      obtain ⟨rfl, rfl⟩ := hz
      show V E K mX8_layer (Qm E K mX8_layer (zX8_layer E q1 q4 q5 i3 i6 i7 i8 i9 i10 f12 f13)) 0 0 [(q1, .inr (9, [.int i3, .ref q4, .ref q5, .int i6, .int i7, .int i8, .int i9, .int i10, .int z18.2])), (q4, .inl (E.2.1, 81, .inl f12)), (q5, .inl (E.2.1, 81, .inl f13))] 29 [(0, .ref q1), (1, .int i2)] [.int z19] _
      exact V_iret rfl (dX8_layer 15 rfl) ⟨rfl, rfl⟩
    · refine V_iconst (0 : Int32) (by decide) (dX8_layer 10 rfl) 21 rfl ?_
      refine V_goto (dX8_layer 11 rfl) 29 (by decide) ?_
      refine V_world [2, 0, 1] [(q1, .inr (9, [.int i3, .ref q4, .ref q5, .int i6, .int i7, .int i8, .int i9, .int i10, .int z18.2])), (q4, .inl (E.2.1, 81, .inl f12)), (q5, .inl (E.2.1, 81, .inl f13))] rfl rfl rfl ?_
      exact V_iret rfl (dX8_layer 15 rfl) ⟨rfl, rfl⟩
  · intro k15 hk16
    refine V_if_ne (dX8_layer 4 rfl) 13 (by decide) 9 rfl ?_ ?_
    · refine V_iconst (0 : Int32) (by decide) (dX8_layer 7 rfl) 14 rfl ?_
      refine V_world [2, 0, 1] [(q1, .inr (9, [.int i3, .ref q4, .ref q5, .int i6, .int i7, .int i8, .int i9, .int i10, .int i11])), (q4, .inl (E.2.1, 81, .inl f12)), (q5, .inl (E.2.1, 81, .inl f13))] rfl rfl rfl ?_
      exact hk16 (0 : Int32)
    · refine V_iconst (1 : Int32) (by decide) (dX8_layer 5 rfl) 10 rfl ?_
      refine V_goto (dX8_layer 6 rfl) 14 (by decide) ?_
      refine V_world [2, 0, 1] [(q1, .inr (9, [.int i3, .ref q4, .ref q5, .int i6, .int i7, .int i8, .int i9, .int i10, .int i11])), (q4, .inl (E.2.1, 81, .inl f12)), (q5, .inl (E.2.1, 81, .inl f13))] rfl rfl rfl ?_
      exact hk16 (1 : Int32))
set_option maxRecDepth 20000 in
theorem kX8_through_ {E : EX} {l : Launch} (hl : l.stackTraces = false) (q1 q5 : Nat) (i3 : Int32) (v4 : Value) (i6 i7 i8 i9 i10 i11 : Int32) (f12 : Nat → Int32) (i2 : Int32) : Ct E l mX8_through_ [.ref q1, .int i2] [(q1, .inr (9, [.int i3, v4, .ref q5, .int i6, .int i7, .int i8, .int i9, .int i10, .int i11])), (q5, .inl (E.2.1, 81, .inl f12))] (fX8_through_ i3 i6 i7 f12 i2) (zX8_through_ E q1 q5 i3 v4 i6 i7 i8 i9 i10 f12) := Ct_of hl mf_X8_through_.1 (Nat.le_of_ble_eq_true rfl) (fun K hs => by
  refine V_less 0 0 (Nat.le_refl _) (Nat.le_refl _) ?_
  refine V_pick [0, 1] [(0, .ref q1), (1, .int i2)] rfl ?_
  unfold fX8_through_
  refine V_aload_n (dX8_through_ 0 rfl) 1 rfl 0 rfl ?_
  refine V_aload_n (dX8_through_ 1 rfl) 2 rfl 0 rfl ?_
  refine V_iload_n (dX8_through_ 2 rfl) 3 rfl 1 rfl ?_
  refine V_callV (M := mX8_through_) (wcs := [(q1, .inr (9, [.int i3, v4, .ref q5, .int i6, .int i7, .int i8, .int i9, .int i10, .int i11]))]) (wr := [(q5, .inl (E.2.1, 81, .inl f12))]) mf_X8_isSet tw_1475 tw_1477 tw_51 ⟨Nat.le_of_ble_eq_true rfl, Nat.le_of_ble_eq_true rfl⟩ (dX8_through_ 3 rfl) 6 rfl (kX8_isSet hs q1 i3 v4 (.ref q5) i6 i7 i8 i9 i10 i11 i2) rfl [0] [1] (q0 := 0) rfl rfl rfl rfl (by decide) rfl rfl rfl rfl (Nat.le_of_ble_eq_true rfl) 0 0 (show 0 + 0 ≤ 0 from Nat.le_of_ble_eq_true rfl) (show 0 + 0 ≤ 0 from Nat.le_of_ble_eq_true rfl) (fun z13 v w hz => ?_)
  obtain ⟨rfl, rfl⟩ := hz
  show V E K mX8_through_ (Qm E K mX8_through_ (zX8_through_ E q1 q5 i3 v4 i6 i7 i8 i9 i10 f12)) 0 0 [(q5, .inl (E.2.1, 81, .inl f12)), (q1, .inr (9, [.int i3, v4, .ref q5, .int i6, .int i7, .int i8, .int i9, .int i10, .int i11]))] 6 [(0, .ref q1), (1, .int i2)] [.int z13, .ref q1] _
  refine V_jn (fun (k14 : Int32 → Option (Int32 × Int32)) => ∀ (i16 : Int32), V E K mX8_through_ (Qm E K mX8_through_ (zX8_through_ E q1 q5 i3 v4 i6 i7 i8 i9 i10 f12)) 0 0 [(q1, .inr (9, [.int i3, v4, .ref q5, .int i6, .int i7, .int i8, .int i9, .int i10, .int i11])), (q5, .inl (E.2.1, 81, .inl f12))] 14 [(0, .ref q1), (1, .int i2)] [.int i16, .ref q1] (k14 i16)) ?_ ?_
  · intro i16
    show V E K mX8_through_ (Qm E K mX8_through_ (zX8_through_ E q1 q5 i3 v4 i6 i7 i8 i9 i10 f12)) 0 0 [(q1, .inr (9, [.int i3, v4, .ref q5, .int i6, .int i7, .int i8, .int i9, .int i10, .int i11])), (q5, .inl (E.2.1, 81, .inl f12))] 14 [(0, .ref q1), (1, .int i2)] [.int i16, .ref q1] _
    refine V_callV (M := mX8_through_) (wcs := [(q1, .inr (9, [.int i3, v4, .ref q5, .int i6, .int i7, .int i8, .int i9, .int i10, .int i11]))]) (wr := [(q5, .inl (E.2.1, 81, .inl f12))]) mf_X8_isThrown_ tw_1283 tw_1285 tw_27 ⟨Nat.le_of_ble_eq_true rfl, Nat.le_of_ble_eq_true rfl⟩ (dX8_through_ 8 rfl) 17 rfl (kX8_isThrown_ hs q1 i3 v4 (.ref q5) i6 i7 i8 i9 i10 i11 i16) rfl [0] [1] (q0 := 0) rfl rfl rfl rfl (by decide) rfl rfl rfl rfl (Nat.le_of_ble_eq_true rfl) 0 0 (show 0 + 0 ≤ 0 from Nat.le_of_ble_eq_true rfl) (show 0 + 0 ≤ 0 from Nat.le_of_ble_eq_true rfl) (fun z17 v w hz => ?_)
    obtain ⟨rfl, rfl⟩ := hz
    show V E K mX8_through_ (Qm E K mX8_through_ (zX8_through_ E q1 q5 i3 v4 i6 i7 i8 i9 i10 f12)) 0 0 [(q5, .inl (E.2.1, 81, .inl f12)), (q1, .inr (9, [.int i3, v4, .ref q5, .int i6, .int i7, .int i8, .int i9, .int i10, .int z17.2]))] 17 [(0, .ref q1), (1, .int i2)] [.int z17.1] _
    refine V_if_eq (dX8_through_ 9 rfl) 22 (by decide) 20 rfl ?_ ?_
    · refine V_iload_n (dX8_through_ 12 rfl) 23 rfl 1 rfl ?_
      refine V_aload_n (dX8_through_ 13 rfl) 24 rfl 0 rfl ?_
      refine V_get gf_M_27 1 rfl rfl (dX8_through_ 14 rfl) 27 rfl ?_
      refine V_aload_n (dX8_through_ 15 rfl) 28 rfl 0 rfl ?_
      refine V_get gf_M_30 1 rfl rfl (dX8_through_ 16 rfl) 31 rfl ?_
      refine V_callS (M := mX8_through_) (wcs := []) (wr := [(q5, .inl (E.2.1, 81, .inl f12)), (q1, .inr (9, [.int i3, v4, .ref q5, .int i6, .int i7, .int i8, .int i9, .int i10, .int z17.2]))]) mf_X8_isCut tw_1479 tw_1480 ⟨Nat.le_of_ble_eq_true rfl, Nat.le_of_ble_eq_true rfl⟩ (dX8_through_ 17 rfl) 34 rfl (kX8_isCut hs i2 i6 i7) rfl [] [0, 1] rfl rfl rfl rfl (by decide) rfl (Nat.le_of_ble_eq_true rfl) 0 0 (show 0 + 0 ≤ 0 from Nat.le_of_ble_eq_true rfl) (show 0 + 0 ≤ 0 from Nat.le_of_ble_eq_true rfl) (fun z18 v w hz => ?_)
      obtain ⟨rfl, rfl⟩ := hz
      show V E K mX8_through_ (Qm E K mX8_through_ (zX8_through_ E q1 q5 i3 v4 i6 i7 i8 i9 i10 f12)) 0 0 [(q5, .inl (E.2.1, 81, .inl f12)), (q1, .inr (9, [.int i3, v4, .ref q5, .int i6, .int i7, .int i8, .int i9, .int i10, .int z17.2]))] 34 [(0, .ref q1), (1, .int i2)] [.int z18] _
      refine V_if_eq (dX8_through_ 18 rfl) 49 (by decide) 37 rfl ?_ ?_
      · refine V_bipush (-9 : Int32) (by decide) (dX8_through_ 25 rfl) 51 rfl ?_
        refine V_world [1, 0] [(q1, .inr (9, [.int i3, v4, .ref q5, .int i6, .int i7, .int i8, .int i9, .int i10, .int z17.2])), (q5, .inl (E.2.1, 81, .inl f12))] rfl rfl rfl ?_
        exact V_iret rfl (dX8_through_ 26 rfl) ⟨rfl, rfl⟩
      · refine V_aload_n (dX8_through_ 19 rfl) 38 rfl 0 rfl ?_
        refine V_aload_n (dX8_through_ 20 rfl) 39 rfl 0 rfl ?_
        refine V_get gf_M_24 1 rfl rfl (dX8_through_ 21 rfl) 42 rfl ?_
        refine V_iload_n (dX8_through_ 22 rfl) 43 rfl 1 rfl ?_
        refine V_callV (M := mX8_through_) (wcs := [(q1, .inr (9, [.int i3, v4, .ref q5, .int i6, .int i7, .int i8, .int i9, .int i10, .int z17.2])), (q5, .inl (E.2.1, 81, .inl f12))]) (wr := []) mf_X8_through tw_1482 tw_1484 tw_52 ⟨Nat.le_of_ble_eq_true rfl, Nat.le_of_ble_eq_true rfl⟩ (dX8_through_ 23 rfl) 46 rfl (kX8_through hs q1 q5 i3 v4 (.ref q5) i6 i7 i8 i9 i10 z17.2 f12 i2) rfl [1, 0] [] (q0 := 0) rfl rfl rfl rfl (by decide) rfl rfl rfl rfl (Nat.le_of_ble_eq_true rfl) 0 0 (show 0 + 0 ≤ 0 from Nat.le_of_ble_eq_true rfl) (show 0 + 0 ≤ 0 from Nat.le_of_ble_eq_true rfl) (fun z19 v w hz => ?_)
        obtain ⟨rfl, rfl⟩ := hz
        show V E K mX8_through_ (Qm E K mX8_through_ (zX8_through_ E q1 q5 i3 v4 i6 i7 i8 i9 i10 f12)) 0 0 [(q1, .inr (9, [.int i3, v4, .ref q5, .int i6, .int i7, .int i8, .int i9, .int i10, .int z17.2])), (q5, .inl (E.2.1, 81, .inl f12))] 46 [(0, .ref q1), (1, .int i2)] [.int z19] _
        refine V_goto (dX8_through_ 24 rfl) 51 (by decide) ?_
        exact V_iret rfl (dX8_through_ 26 rfl) ⟨rfl, rfl⟩
    · refine V_iconst (0 : Int32) (by decide) (dX8_through_ 10 rfl) 21 rfl ?_
      refine V_world [1, 0] [(q1, .inr (9, [.int i3, v4, .ref q5, .int i6, .int i7, .int i8, .int i9, .int i10, .int z17.2])), (q5, .inl (E.2.1, 81, .inl f12))] rfl rfl rfl ?_
      exact V_iret rfl (dX8_through_ 11 rfl) ⟨rfl, rfl⟩
  · intro k14 hk15
    refine V_if_ne (dX8_through_ 4 rfl) 13 (by decide) 9 rfl ?_ ?_
    · refine V_iconst (0 : Int32) (by decide) (dX8_through_ 7 rfl) 14 rfl ?_
      refine V_world [1, 0] [(q1, .inr (9, [.int i3, v4, .ref q5, .int i6, .int i7, .int i8, .int i9, .int i10, .int i11])), (q5, .inl (E.2.1, 81, .inl f12))] rfl rfl rfl ?_
      exact hk15 (0 : Int32)
    · refine V_iconst (1 : Int32) (by decide) (dX8_through_ 5 rfl) 10 rfl ?_
      refine V_goto (dX8_through_ 6 rfl) 14 (by decide) ?_
      refine V_world [1, 0] [(q1, .inr (9, [.int i3, v4, .ref q5, .int i6, .int i7, .int i8, .int i9, .int i10, .int i11])), (q5, .inl (E.2.1, 81, .inl f12))] rfl rfl rfl ?_
      exact hk15 (1 : Int32))
set_option maxRecDepth 20000 in
theorem kX8_parts {E : EX} {l : Launch} (hl : l.stackTraces = false) (q1 q5 : Nat) (i3 : Int32) (v4 : Value) (i6 i7 i8 i9 i10 i11 : Int32) (f12 : Nat → Int32) (i2 : Int32) : Ct E l mX8_parts [.ref q1, .int i2] [(q1, .inr (9, [.int i3, v4, .ref q5, .int i6, .int i7, .int i8, .int i9, .int i10, .int i11])), (q5, .inl (E.2.1, 81, .inl f12))] (fX8_parts i3 i6 i7 f12 i2) (zX8_parts E q1 q5 i3 v4 i6 i7 i8 i9 i10 f12) := Ct_of hl mf_X8_parts.1 (Nat.le_of_ble_eq_true rfl) (fun K hs => by
  refine V_less 131 2161 (Nat.le_refl _) (Nat.le_refl _) ?_
  refine V_pick [0, 1] [(0, .ref q1), (1, .int i2)] rfl ?_
  unfold fX8_parts
  refine V_aload_n (dX8_parts 0 rfl) 1 rfl 0 rfl ?_
  refine V_iconst (0 : Int32) (by decide) (dX8_parts 1 rfl) 2 rfl ?_
  refine V_put pf_M_13 0 rfl rfl rfl (Nat.le_of_ble_eq_true rfl) (dX8_parts 2 rfl) 5 rfl [(q1, .inr (9, [.int i3, v4, .ref q5, .int i6, .int i7, .int i8, .int i9, .int i10, .int (0 : Int32)])), (q5, .inl (E.2.1, 81, .inl f12))] rfl ?_
  refine V_aload_n (dX8_parts 3 rfl) 6 rfl 0 rfl ?_
  refine V_iload_n (dX8_parts 4 rfl) 7 rfl 1 rfl ?_
  refine V_jn (fun (k13 : Int32 → Option (Int32)) => ∀ (i15 : Int32), V E K mX8_parts (Qm E K mX8_parts (zX8_parts E q1 q5 i3 v4 i6 i7 i8 i9 i10 f12)) 131 2161 [(q1, .inr (9, [.int i3, v4, .ref q5, .int i6, .int i7, .int i8, .int i9, .int i10, .int (0 : Int32)])), (q5, .inl (E.2.1, 81, .inl f12))] 15 [] [.int i15, .ref q1] (k13 i15)) ?_ ?_
  · intro i15
    show V E K mX8_parts (Qm E K mX8_parts (zX8_parts E q1 q5 i3 v4 i6 i7 i8 i9 i10 f12)) 131 2161 [(q1, .inr (9, [.int i3, v4, .ref q5, .int i6, .int i7, .int i8, .int i9, .int i10, .int (0 : Int32)])), (q5, .inl (E.2.1, 81, .inl f12))] 15 [] [.int i15, .ref q1] _
    refine V_callV (M := mX8_parts) (wcs := [(q1, .inr (9, [.int i3, v4, .ref q5, .int i6, .int i7, .int i8, .int i9, .int i10, .int (0 : Int32)])), (q5, .inl (E.2.1, 81, .inl f12))]) (wr := []) mf_X8_partsNow tw_1555 tw_1557 tw_58 ⟨Nat.le_of_ble_eq_true rfl, Nat.le_of_ble_eq_true rfl⟩ (dX8_parts 9 rfl) 18 rfl (kX8_partsNow hs q1 q5 i3 v4 i6 i7 i8 i9 i10 (0 : Int32) f12 i15) rfl [0, 1] [] (q0 := 0) rfl rfl rfl rfl (by decide) rfl rfl rfl rfl (Nat.le_of_ble_eq_true rfl) 0 0 (show 0 + 131 ≤ 131 from Nat.le_of_ble_eq_true rfl) (show 0 + 2161 ≤ 2161 from Nat.le_of_ble_eq_true rfl) (fun z16 v w hz => ?_)
    obtain ⟨rfl, rfl⟩ := hz
    show V E K mX8_parts (Qm E K mX8_parts (zX8_parts E q1 q5 i3 v4 i6 i7 i8 i9 i10 f12)) 0 0 [(q1, .inr (9, [.int i3, v4, .ref q5, .int i6, .int i7, .int i8, .int i9, .int i10, .int (0 : Int32)])), (q5, .inl (E.2.1, 81, .inl f12))] 18 [] [.int z16] _
    exact V_iret rfl (dX8_parts 10 rfl) ⟨rfl, rfl⟩
  · intro k13 hk14
    refine V_if_eq (dX8_parts 5 rfl) 14 (by decide) 10 rfl ?_ ?_
    · refine V_iconst (1 : Int32) (by decide) (dX8_parts 8 rfl) 15 rfl ?_
      refine V_pick [] [] rfl ?_
      exact hk14 (1 : Int32)
    · refine V_iconst (0 : Int32) (by decide) (dX8_parts 6 rfl) 11 rfl ?_
      refine V_goto (dX8_parts 7 rfl) 15 (by decide) ?_
      refine V_pick [] [] rfl ?_
      exact hk14 (0 : Int32))
set_option maxRecDepth 20000 in
theorem kX8_partsText {E : EX} {l : Launch} (hl : l.stackTraces = false) (q1 q4 : Nat) (i2 : Int32) (v3 : Value) (i5 i6 i7 i8 i9 i10 : Int32) (f11 : Nat → Int32) : Ct E l mX8_partsText [.ref q1] [(q1, .inr (9, [.int i2, v3, .ref q4, .int i5, .int i6, .int i7, .int i8, .int i9, .int i10])), (q4, .inl (E.2.1, 81, .inl f11))] (fX8_partsText i2 i5 i6 f11) (zX8_partsText E q1 q4 i2 v3 i5 i6 i7 i8 i9 f11) := Ct_of hl mf_X8_partsText.1 (Nat.le_of_ble_eq_true rfl) (fun K hs => by
  refine V_less 285 20385 (Nat.le_refl _) (Nat.le_refl _) ?_
  refine V_pick [0] [(0, .ref q1)] rfl ?_
  unfold fX8_partsText
  refine V_aload_n (dX8_partsText 0 rfl) 1 rfl 0 rfl ?_
  refine V_iconst (0 : Int32) (by decide) (dX8_partsText 1 rfl) 2 rfl ?_
  refine V_put pf_M_13 0 rfl rfl rfl (Nat.le_of_ble_eq_true rfl) (dX8_partsText 2 rfl) 5 rfl [(q1, .inr (9, [.int i2, v3, .ref q4, .int i5, .int i6, .int i7, .int i8, .int i9, .int (0 : Int32)])), (q4, .inl (E.2.1, 81, .inl f11))] rfl ?_
  refine V_aload_n (dX8_partsText 3 rfl) 6 rfl 0 rfl ?_
  refine V_callV (M := mX8_partsText) (wcs := [(q1, .inr (9, [.int i2, v3, .ref q4, .int i5, .int i6, .int i7, .int i8, .int i9, .int (0 : Int32)])), (q4, .inl (E.2.1, 81, .inl f11))]) (wr := []) mf_X8_partsNowText tw_1567 tw_1569 tw_60 ⟨Nat.le_of_ble_eq_true rfl, Nat.le_of_ble_eq_true rfl⟩ (dX8_partsText 4 rfl) 9 rfl (kX8_partsNowText hs q1 q4 i2 v3 i5 i6 i7 i8 i9 (0 : Int32) f11) rfl [0, 1] [] (q0 := 0) rfl rfl rfl rfl (by decide) rfl rfl rfl rfl (Nat.le_of_ble_eq_true rfl) 0 0 (show 0 + 285 ≤ 285 from Nat.le_of_ble_eq_true rfl) (show 0 + 20385 ≤ 20385 from Nat.le_of_ble_eq_true rfl) (fun z12 v w hz => ?_)
  obtain ⟨q13, q14, rfl, rfl⟩ := hz
  show V E K mX8_partsText (Qm E K mX8_partsText (zX8_partsText E q1 q4 i2 v3 i5 i6 i7 i8 i9 f11)) 0 0 [(q1, .inr (9, [.int i2, v3, .ref q4, .int i5, .int i6, .int i7, .int i8, .int i9, .int (0 : Int32)])), (q4, .inl (E.2.1, 81, .inl f11)), (q13, .inr (7, [.ref q14, .int cZ, .int (0 : Int32), .int (0 : Int32)])), (q14, .inl (E.2.2.1, z12.1, .inl z12.2))] 9 [(0, .ref q1)] [.ref q13] _
  refine V_world [0, 1] [(q1, .inr (9, [.int i2, v3, .ref q4, .int i5, .int i6, .int i7, .int i8, .int i9, .int (0 : Int32)])), (q4, .inl (E.2.1, 81, .inl f11))] rfl rfl rfl ?_
  exact V_aret rfl (Or.inl ⟨_, rfl⟩) (Or.inr ⟨_, rfl⟩) (dX8_partsText 5 rfl) ⟨q13, rfl, rfl⟩)
set_option maxRecDepth 20000 in
theorem kX8_flowText {E : EX} {l : Launch} (hl : l.stackTraces = false) (q1 q5 : Nat) (i3 : Int32) (v4 : Value) (i6 i7 i8 i9 i10 i11 : Int32) (f12 : Nat → Int32) (i2 : Int32) : Ct E l mX8_flowText [.ref q1, .int i2] [(q1, .inr (9, [.int i3, v4, .ref q5, .int i6, .int i7, .int i8, .int i9, .int i10, .int i11])), (q5, .inl (E.2.1, 81, .inl f12))] (fX8_flowText i3 f12 i2) (zX8_flowText E q1 q5 i3 v4 i6 i7 i8 i9 i10 f12) := Ct_of hl mf_X8_flowText.1 (Nat.le_of_ble_eq_true rfl) (fun K hs => by
  refine V_less 154 18224 (Nat.le_refl _) (Nat.le_refl _) ?_
  refine V_pick [0, 1] [(0, .ref q1), (1, .int i2)] rfl ?_
  unfold fX8_flowText
  refine V_aload_n (dX8_flowText 0 rfl) 1 rfl 0 rfl ?_
  refine V_aload_n (dX8_flowText 1 rfl) 2 rfl 0 rfl ?_
  refine V_iload_n (dX8_flowText 2 rfl) 3 rfl 1 rfl ?_
  refine V_callV (M := mX8_flowText) (wcs := [(q1, .inr (9, [.int i3, v4, .ref q5, .int i6, .int i7, .int i8, .int i9, .int i10, .int i11]))]) (wr := [(q5, .inl (E.2.1, 81, .inl f12))]) mf_X8_isPlace tw_1299 tw_1301 tw_30 ⟨Nat.le_of_ble_eq_true rfl, Nat.le_of_ble_eq_true rfl⟩ (dX8_flowText 3 rfl) 6 rfl (kX8_isPlace hs q1 i3 v4 (.ref q5) i6 i7 i8 i9 i10 i11 i2) rfl [0] [1] (q0 := 0) rfl rfl rfl rfl (by decide) rfl rfl rfl rfl (Nat.le_of_ble_eq_true rfl) 154 18224 (show 154 + 0 ≤ 154 from Nat.le_of_ble_eq_true rfl) (show 18224 + 0 ≤ 18224 from Nat.le_of_ble_eq_true rfl) (fun z13 v w hz => ?_)
  obtain ⟨rfl, rfl⟩ := hz
  show V E K mX8_flowText (Qm E K mX8_flowText (zX8_flowText E q1 q5 i3 v4 i6 i7 i8 i9 i10 f12)) 154 18224 [(q5, .inl (E.2.1, 81, .inl f12)), (q1, .inr (9, [.int i3, v4, .ref q5, .int i6, .int i7, .int i8, .int i9, .int i10, .int i11]))] 6 [(0, .ref q1), (1, .int i2)] [.int z13, .ref q1] _
  refine V_jn (fun (k14 : Int32 → Option (Int32)) => ∀ (i16 : Int32), V E K mX8_flowText (Qm E K mX8_flowText (zX8_flowText E q1 q5 i3 v4 i6 i7 i8 i9 i10 f12)) 154 18224 [(q1, .inr (9, [.int i3, v4, .ref q5, .int i6, .int i7, .int i8, .int i9, .int i10, .int i11])), (q5, .inl (E.2.1, 81, .inl f12))] 14 [(0, .ref q1), (1, .int i2)] [.int i16, .ref q1] (k14 i16)) ?_ ?_
  · intro i16
    show V E K mX8_flowText (Qm E K mX8_flowText (zX8_flowText E q1 q5 i3 v4 i6 i7 i8 i9 i10 f12)) 154 18224 [(q1, .inr (9, [.int i3, v4, .ref q5, .int i6, .int i7, .int i8, .int i9, .int i10, .int i11])), (q5, .inl (E.2.1, 81, .inl f12))] 14 [(0, .ref q1), (1, .int i2)] [.int i16, .ref q1] _
    refine V_callV (M := mX8_flowText) (wcs := [(q1, .inr (9, [.int i3, v4, .ref q5, .int i6, .int i7, .int i8, .int i9, .int i10, .int i11]))]) (wr := [(q5, .inl (E.2.1, 81, .inl f12))]) mf_X8_isThrown_ tw_1283 tw_1285 tw_27 ⟨Nat.le_of_ble_eq_true rfl, Nat.le_of_ble_eq_true rfl⟩ (dX8_flowText 8 rfl) 17 rfl (kX8_isThrown_ hs q1 i3 v4 (.ref q5) i6 i7 i8 i9 i10 i11 i16) rfl [0] [1] (q0 := 0) rfl rfl rfl rfl (by decide) rfl rfl rfl rfl (Nat.le_of_ble_eq_true rfl) 154 18224 (show 154 + 0 ≤ 154 from Nat.le_of_ble_eq_true rfl) (show 18224 + 0 ≤ 18224 from Nat.le_of_ble_eq_true rfl) (fun z17 v w hz => ?_)
    obtain ⟨rfl, rfl⟩ := hz
    show V E K mX8_flowText (Qm E K mX8_flowText (zX8_flowText E q1 q5 i3 v4 i6 i7 i8 i9 i10 f12)) 154 18224 [(q5, .inl (E.2.1, 81, .inl f12)), (q1, .inr (9, [.int i3, v4, .ref q5, .int i6, .int i7, .int i8, .int i9, .int i10, .int z17.2]))] 17 [(0, .ref q1), (1, .int i2)] [.int z17.1] _
    refine V_if_eq (dX8_flowText 9 rfl) 25 (by decide) 20 rfl ?_ ?_
    · refine V_aload_n (dX8_flowText 12 rfl) 26 rfl 0 rfl ?_
      refine V_aload_n (dX8_flowText 13 rfl) 27 rfl 0 rfl ?_
      refine V_get gf_M_24 1 rfl rfl (dX8_flowText 14 rfl) 30 rfl ?_
      refine V_iload_n (dX8_flowText 15 rfl) 31 rfl 1 rfl ?_
      refine V_callV (M := mX8_flowText) (wcs := [(q1, .inr (9, [.int i3, v4, .ref q5, .int i6, .int i7, .int i8, .int i9, .int i10, .int z17.2])), (q5, .inl (E.2.1, 81, .inl f12))]) (wr := []) mf_X8_rowText tw_1459 tw_1461 tw_50 ⟨Nat.le_of_ble_eq_true rfl, Nat.le_of_ble_eq_true rfl⟩ (dX8_flowText 16 rfl) 34 rfl (kX8_rowText hs q1 q5 i3 v4 (.ref q5) i6 i7 i8 i9 i10 z17.2 f12 i2) rfl [1, 0] [] (q0 := 0) rfl rfl rfl rfl (by decide) rfl rfl rfl rfl (Nat.le_of_ble_eq_true rfl) 0 0 (show 0 + 154 ≤ 154 from Nat.le_of_ble_eq_true rfl) (show 0 + 18224 ≤ 18224 from Nat.le_of_ble_eq_true rfl) (fun z18 v w hz => ?_)
      obtain ⟨q19, q20, rfl, rfl⟩ := hz
      show V E K mX8_flowText (Qm E K mX8_flowText (zX8_flowText E q1 q5 i3 v4 i6 i7 i8 i9 i10 f12)) 0 0 [(q1, .inr (9, [.int i3, v4, .ref q5, .int i6, .int i7, .int i8, .int i9, .int i10, .int z17.2])), (q5, .inl (E.2.1, 81, .inl f12)), (q19, .inr (7, [.ref q20, .int cZ, .int (0 : Int32), .int (0 : Int32)])), (q20, .inl (E.2.2.1, z18.1, .inl z18.2))] 34 [(0, .ref q1), (1, .int i2)] [.ref q19] _
      refine V_world [0, 1] [(q1, .inr (9, [.int i3, v4, .ref q5, .int i6, .int i7, .int i8, .int i9, .int i10, .int z17.2])), (q5, .inl (E.2.1, 81, .inl f12))] rfl rfl rfl ?_
      exact V_aret rfl (Or.inl ⟨_, rfl⟩) (Or.inr ⟨_, rfl⟩) (dX8_flowText 17 rfl) ⟨q19, rfl, rfl⟩
    · refine V_ldcS 3 rfl (dX8_flowText 10 rfl) 22 rfl ?_
      refine V_goto (dX8_flowText 11 rfl) 34 (by decide) ?_
      refine V_world [1, 0] [(q1, .inr (9, [.int i3, v4, .ref q5, .int i6, .int i7, .int i8, .int i9, .int i10, .int z17.2])), (q5, .inl (E.2.1, 81, .inl f12))] rfl rfl rfl ?_
      exact V_aret rfl (Or.inl ⟨_, rfl⟩) (Or.inr ⟨_, rfl⟩) (dX8_flowText 17 rfl) ⟨(E.2.2.2.1 3), rfl, rfl⟩
  · intro k14 hk15
    refine V_if_ne (dX8_flowText 4 rfl) 13 (by decide) 9 rfl ?_ ?_
    · refine V_iconst (0 : Int32) (by decide) (dX8_flowText 7 rfl) 14 rfl ?_
      refine V_world [1, 0] [(q1, .inr (9, [.int i3, v4, .ref q5, .int i6, .int i7, .int i8, .int i9, .int i10, .int i11])), (q5, .inl (E.2.1, 81, .inl f12))] rfl rfl rfl ?_
      exact hk15 (0 : Int32)
    · refine V_iconst (1 : Int32) (by decide) (dX8_flowText 5 rfl) 10 rfl ?_
      refine V_goto (dX8_flowText 6 rfl) 14 (by decide) ?_
      refine V_world [1, 0] [(q1, .inr (9, [.int i3, v4, .ref q5, .int i6, .int i7, .int i8, .int i9, .int i10, .int i11])), (q5, .inl (E.2.1, 81, .inl f12))] rfl rfl rfl ?_
      exact hk15 (1 : Int32))
set_option maxRecDepth 20000 in
theorem kX8_would {E : EX} {l : Launch} (hl : l.stackTraces = false) (q1 q6 : Nat) (i5 : Int32) (v7 : Value) (i8 i9 i10 i11 i12 i13 : Int32) (f14 : Nat → Int32) (i2 i3 i4 : Int32) : Ct E l mX8_would [.ref q1, .int i2, .int i3, .int i4] [(q1, .inr (9, [.int i5, .ref q6, v7, .int i8, .int i9, .int i10, .int i11, .int i12, .int i13])), (q6, .inl (E.2.1, 81, .inl f14))] (fX8_would i5 i8 i9 f14 i2 i3 i4) (zX8_would E q1 q6 i5 v7 i8 i9 i10 i11 i12) := Ct_of hl mf_X8_would.1 (Nat.le_of_ble_eq_true rfl) (fun K hs => by
  refine V_less 0 0 (Nat.le_refl _) (Nat.le_refl _) ?_
  refine V_pick [0, 1, 2, 3] [(0, .ref q1), (1, .int i2), (2, .int i3), (3, .int i4)] rfl ?_
  unfold fX8_would
  refine V_aload_n (dX8_would 0 rfl) 1 rfl 0 rfl ?_
  refine V_aload_n (dX8_would 1 rfl) 2 rfl 0 rfl ?_
  refine V_iload_n (dX8_would 2 rfl) 3 rfl 1 rfl ?_
  refine V_callV (M := mX8_would) (wcs := [(q1, .inr (9, [.int i5, .ref q6, v7, .int i8, .int i9, .int i10, .int i11, .int i12, .int i13]))]) (wr := [(q6, .inl (E.2.1, 81, .inl f14))]) mf_X8_isPlace tw_1299 tw_1301 tw_30 ⟨Nat.le_of_ble_eq_true rfl, Nat.le_of_ble_eq_true rfl⟩ (dX8_would 3 rfl) 6 rfl (kX8_isPlace hs q1 i5 (.ref q6) v7 i8 i9 i10 i11 i12 i13 i2) rfl [0] [1] (q0 := 0) rfl rfl rfl rfl (by decide) rfl rfl rfl rfl (Nat.le_of_ble_eq_true rfl) 0 0 (show 0 + 0 ≤ 0 from Nat.le_of_ble_eq_true rfl) (show 0 + 0 ≤ 0 from Nat.le_of_ble_eq_true rfl) (fun z15 v w hz => ?_)
  obtain ⟨rfl, rfl⟩ := hz
  show V E K mX8_would (Qm E K mX8_would (zX8_would E q1 q6 i5 v7 i8 i9 i10 i11 i12)) 0 0 [(q6, .inl (E.2.1, 81, .inl f14)), (q1, .inr (9, [.int i5, .ref q6, v7, .int i8, .int i9, .int i10, .int i11, .int i12, .int i13]))] 6 [(0, .ref q1), (1, .int i2), (2, .int i3), (3, .int i4)] [.int z15, .ref q1] _
  refine V_jn (fun (k16 : Int32 → Option (Int32 × Int32 × (Nat → Int32))) => ∀ (i21 : Int32), V E K mX8_would (Qm E K mX8_would (zX8_would E q1 q6 i5 v7 i8 i9 i10 i11 i12)) 0 0 [(q1, .inr (9, [.int i5, .ref q6, v7, .int i8, .int i9, .int i10, .int i11, .int i12, .int i13])), (q6, .inl (E.2.1, 81, .inl f14))] 22 [(0, .ref q1), (1, .int i2), (2, .int i3), (3, .int i4)] [.int i21, .ref q1] (k16 i21)) ?_ ?_
  · intro i21
    show V E K mX8_would (Qm E K mX8_would (zX8_would E q1 q6 i5 v7 i8 i9 i10 i11 i12)) 0 0 [(q1, .inr (9, [.int i5, .ref q6, v7, .int i8, .int i9, .int i10, .int i11, .int i12, .int i13])), (q6, .inl (E.2.1, 81, .inl f14))] 22 [(0, .ref q1), (1, .int i2), (2, .int i3), (3, .int i4)] [.int i21, .ref q1] _
    refine V_iload_n (dX8_would 12 rfl) 23 rfl 1 rfl ?_
    refine V_iload_n (dX8_would 13 rfl) 24 rfl 2 rfl ?_
    refine V_jn (fun (k22 : Int32 → Option (Int32 × Int32 × (Nat → Int32))) => ∀ (i26 : Int32), V E K mX8_would (Qm E K mX8_would (zX8_would E q1 q6 i5 v7 i8 i9 i10 i11 i12)) 0 0 [(q1, .inr (9, [.int i5, .ref q6, v7, .int i8, .int i9, .int i10, .int i11, .int i12, .int i13])), (q6, .inl (E.2.1, 81, .inl f14))] 42 [(0, .ref q1), (1, .int i2), (2, .int i3), (3, .int i4)] [.int i26, .int i21, .ref q1] (k22 i26)) ?_ ?_
    · intro i26
      show V E K mX8_would (Qm E K mX8_would (zX8_would E q1 q6 i5 v7 i8 i9 i10 i11 i12)) 0 0 [(q1, .inr (9, [.int i5, .ref q6, v7, .int i8, .int i9, .int i10, .int i11, .int i12, .int i13])), (q6, .inl (E.2.1, 81, .inl f14))] 42 [(0, .ref q1), (1, .int i2), (2, .int i3), (3, .int i4)] [.int i26, .int i21, .ref q1] _
      refine V_callV (M := mX8_would) (wcs := [(q1, .inr (9, [.int i5, .ref q6, v7, .int i8, .int i9, .int i10, .int i11, .int i12, .int i13]))]) (wr := [(q6, .inl (E.2.1, 81, .inl f14))]) mf_X8_isThrown tw_1287 tw_1289 tw_28 ⟨Nat.le_of_ble_eq_true rfl, Nat.le_of_ble_eq_true rfl⟩ (dX8_would 24 rfl) 45 rfl (kX8_isThrown hs q1 i5 (.ref q6) v7 i8 i9 i10 i11 i12 i13 i21 i26) rfl [0] [1] (q0 := 0) rfl rfl rfl rfl (by decide) rfl rfl rfl rfl (Nat.le_of_ble_eq_true rfl) 0 0 (show 0 + 0 ≤ 0 from Nat.le_of_ble_eq_true rfl) (show 0 + 0 ≤ 0 from Nat.le_of_ble_eq_true rfl) (fun z27 v w hz => ?_)
      obtain ⟨rfl, rfl⟩ := hz
      show V E K mX8_would (Qm E K mX8_would (zX8_would E q1 q6 i5 v7 i8 i9 i10 i11 i12)) 0 0 [(q6, .inl (E.2.1, 81, .inl f14)), (q1, .inr (9, [.int i5, .ref q6, v7, .int i8, .int i9, .int i10, .int i11, .int i12, .int z27.2]))] 45 [(0, .ref q1), (1, .int i2), (2, .int i3), (3, .int i4)] [.int z27.1] _
      refine V_if_eq (dX8_would 25 rfl) 50 (by decide) 48 rfl ?_ ?_
      · refine V_aload_n (dX8_would 28 rfl) 51 rfl 0 rfl ?_
        refine V_iload_n (dX8_would 29 rfl) 52 rfl 1 rfl ?_
        refine V_iload_n (dX8_would 30 rfl) 53 rfl 2 rfl ?_
        refine V_callV (M := mX8_would) (wcs := [(q1, .inr (9, [.int i5, .ref q6, v7, .int i8, .int i9, .int i10, .int i11, .int i12, .int z27.2])), (q6, .inl (E.2.1, 81, .inl f14))]) (wr := []) mf_X8_room tw_1330 tw_1332 tw_36 ⟨Nat.le_of_ble_eq_true rfl, Nat.le_of_ble_eq_true rfl⟩ (dX8_would 31 rfl) 56 rfl (kX8_room hs q1 q6 i5 v7 i8 i9 i10 i11 i12 z27.2 f14 i2 i3) rfl [1, 0] [] (q0 := 0) rfl rfl rfl rfl (by decide) rfl rfl rfl rfl (Nat.le_of_ble_eq_true rfl) 0 0 (show 0 + 0 ≤ 0 from Nat.le_of_ble_eq_true rfl) (show 0 + 0 ≤ 0 from Nat.le_of_ble_eq_true rfl) (fun z28 v w hz => ?_)
        obtain ⟨rfl, rfl⟩ := hz
        show V E K mX8_would (Qm E K mX8_would (zX8_would E q1 q6 i5 v7 i8 i9 i10 i11 i12)) 0 0 [(q1, .inr (9, [.int i5, .ref q6, v7, .int i8, .int i9, .int i10, .int i11, .int i12, .int z27.2])), (q6, .inl (E.2.1, 81, .inl f14))] 56 [(0, .ref q1), (1, .int i2), (2, .int i3), (3, .int i4)] [.int z28] _
        refine V_iload_n (dX8_would 32 rfl) 57 rfl 3 rfl ?_
        refine V_iadd (dX8_would 33 rfl) 58 rfl ?_
        refine V_if_ge (dX8_would 34 rfl) 64 (by decide) 61 rfl ?_ ?_
        · refine V_aload_n (dX8_would 37 rfl) 65 rfl 0 rfl ?_
          refine V_get gf_M_20 0 rfl rfl (dX8_would 38 rfl) 68 rfl ?_
          refine V_iload_n (dX8_would 39 rfl) 69 rfl 1 rfl ?_
          refine V_bipush (9 : Int32) (by decide) (dX8_would 40 rfl) 71 rfl ?_
          refine V_imul (dX8_would 41 rfl) 72 rfl ?_
          refine V_iload_n (dX8_would 42 rfl) 73 rfl 2 rfl ?_
          refine V_iadd (dX8_would 43 rfl) 74 rfl ?_
          refine V_dup2 rfl rfl (dX8_would 44 rfl) 75 rfl ?_
          refine V_iald 1 rfl (dX8_would 45 rfl) 76 rfl ?_
          refine V_iload_n (dX8_would 46 rfl) 77 rfl 3 rfl ?_
          refine V_iadd (dX8_would 47 rfl) 78 rfl ?_
          refine V_iast 1 rfl (dX8_would 48 rfl) 79 rfl [(q1, .inr (9, [.int i5, .ref q6, v7, .int i8, .int i9, .int i10, .int i11, .int i12, .int z27.2])), (q6, .inl (E.2.1, 81, .inl (upd f14 ((i2 * (9 : Int32)) + i3).toNatClampNeg ((f14 ((i2 * (9 : Int32)) + i3).toNatClampNeg) + i4))))] rfl ?_
          refine V_aload_n (dX8_would 49 rfl) 80 rfl 0 rfl ?_
          refine V_callV (M := mX8_would) (wcs := [(q1, .inr (9, [.int i5, .ref q6, v7, .int i8, .int i9, .int i10, .int i11, .int i12, .int z27.2])), (q6, .inl (E.2.1, 81, .inl (upd f14 ((i2 * (9 : Int32)) + i3).toNatClampNeg ((f14 ((i2 * (9 : Int32)) + i3).toNatClampNeg) + i4))))]) (wr := []) mf_X8_leastNow tw_1490 tw_1492 tw_53 ⟨Nat.le_of_ble_eq_true rfl, Nat.le_of_ble_eq_true rfl⟩ (dX8_would 50 rfl) 83 rfl (kX8_leastNow hs q1 q6 i5 v7 i8 i9 i10 i11 i12 z27.2 (upd f14 ((i2 * (9 : Int32)) + i3).toNatClampNeg ((f14 ((i2 * (9 : Int32)) + i3).toNatClampNeg) + i4))) rfl [0, 1] [] (q0 := 0) rfl rfl rfl rfl (by decide) rfl rfl rfl rfl (Nat.le_of_ble_eq_true rfl) 0 0 (show 0 + 0 ≤ 0 from Nat.le_of_ble_eq_true rfl) (show 0 + 0 ≤ 0 from Nat.le_of_ble_eq_true rfl) (fun z29 v w hz => ?_)
          obtain ⟨rfl, rfl⟩ := hz
          show V E K mX8_would (Qm E K mX8_would (zX8_would E q1 q6 i5 v7 i8 i9 i10 i11 i12)) 0 0 [(q1, .inr (9, [.int i5, .ref q6, v7, .int i8, .int i9, .int i10, .int i11, .int i12, .int z27.2])), (q6, .inl (E.2.1, 81, .inl (upd f14 ((i2 * (9 : Int32)) + i3).toNatClampNeg ((f14 ((i2 * (9 : Int32)) + i3).toNatClampNeg) + i4))))] 83 [(0, .ref q1), (1, .int i2), (2, .int i3), (3, .int i4)] [.int z29] _
          refine V_istore (dX8_would 51 rfl) 85 rfl [(0, .ref q1), (1, .int i2), (2, .int i3), (3, .int i4), (4, .int z29)] (Nat.le_of_ble_eq_true rfl) rfl ?_
          refine V_aload_n (dX8_would 52 rfl) 86 rfl 0 rfl ?_
          refine V_get gf_M_20 0 rfl rfl (dX8_would 53 rfl) 89 rfl ?_
          refine V_iload_n (dX8_would 54 rfl) 90 rfl 1 rfl ?_
          refine V_bipush (9 : Int32) (by decide) (dX8_would 55 rfl) 92 rfl ?_
          refine V_imul (dX8_would 56 rfl) 93 rfl ?_
          refine V_iload_n (dX8_would 57 rfl) 94 rfl 2 rfl ?_
          refine V_iadd (dX8_would 58 rfl) 95 rfl ?_
          refine V_dup2 rfl rfl (dX8_would 59 rfl) 96 rfl ?_
          refine V_iald 1 rfl (dX8_would 60 rfl) 97 rfl ?_
          refine V_iload_n (dX8_would 61 rfl) 98 rfl 3 rfl ?_
          refine V_isub (dX8_would 62 rfl) 99 rfl ?_
          refine V_iast 1 rfl (dX8_would 63 rfl) 100 rfl [(q1, .inr (9, [.int i5, .ref q6, v7, .int i8, .int i9, .int i10, .int i11, .int i12, .int z27.2])), (q6, .inl (E.2.1, 81, .inl (upd (upd f14 ((i2 * (9 : Int32)) + i3).toNatClampNeg ((f14 ((i2 * (9 : Int32)) + i3).toNatClampNeg) + i4)) ((i2 * (9 : Int32)) + i3).toNatClampNeg (((upd f14 ((i2 * (9 : Int32)) + i3).toNatClampNeg ((f14 ((i2 * (9 : Int32)) + i3).toNatClampNeg) + i4)) ((i2 * (9 : Int32)) + i3).toNatClampNeg) - i4))))] rfl ?_
          refine V_iload (dX8_would 64 rfl) 102 rfl 4 rfl ?_
          exact V_iret rfl (dX8_would 65 rfl) ⟨rfl, rfl⟩
        · refine V_bipush (-9 : Int32) (by decide) (dX8_would 35 rfl) 63 rfl ?_
          exact V_iret rfl (dX8_would 36 rfl) ⟨rfl, rfl⟩
      · refine V_iconst (0 : Int32) (by decide) (dX8_would 26 rfl) 49 rfl ?_
        refine V_world [1, 0] [(q1, .inr (9, [.int i5, .ref q6, v7, .int i8, .int i9, .int i10, .int i11, .int i12, .int z27.2])), (q6, .inl (E.2.1, 81, .inl f14))] rfl rfl rfl ?_
        exact V_iret rfl (dX8_would 27 rfl) ⟨rfl, rfl⟩
    · intro k22 hk23
      refine V_jn (fun (k24 : Unit → Option (Int32 × Int32 × (Nat → Int32))) => ∀ (_ : Unit), V E K mX8_would (Qm E K mX8_would (zX8_would E q1 q6 i5 v7 i8 i9 i10 i11 i12)) 0 0 [(q1, .inr (9, [.int i5, .ref q6, v7, .int i8, .int i9, .int i10, .int i11, .int i12, .int i13])), (q6, .inl (E.2.1, 81, .inl f14))] 37 [(0, .ref q1), (1, .int i2), (2, .int i3), (3, .int i4)] [.int i21, .ref q1] (k24 ())) ?_ ?_
      · intro _
        show V E K mX8_would (Qm E K mX8_would (zX8_would E q1 q6 i5 v7 i8 i9 i10 i11 i12)) 0 0 [(q1, .inr (9, [.int i5, .ref q6, v7, .int i8, .int i9, .int i10, .int i11, .int i12, .int i13])), (q6, .inl (E.2.1, 81, .inl f14))] 37 [(0, .ref q1), (1, .int i2), (2, .int i3), (3, .int i4)] [.int i21, .ref q1] _
        refine V_iconst (1 : Int32) (by decide) (dX8_would 21 rfl) 38 rfl ?_
        refine V_goto (dX8_would 22 rfl) 42 (by decide) ?_
        exact hk23 (1 : Int32)
      · intro k24 hk25
        refine V_icmp_eq (dX8_would 14 rfl) 37 (by decide) 27 rfl ?_ ?_
        · exact hk25 ()
        · refine V_iload_n (dX8_would 15 rfl) 28 rfl 3 rfl ?_
          refine V_iconst (-1 : Int32) (by decide) (dX8_would 16 rfl) 29 rfl ?_
          refine V_icmp_lt (dX8_would 17 rfl) 37 (by decide) 32 rfl ?_ ?_
          · exact hk25 ()
          · refine V_iload_n (dX8_would 18 rfl) 33 rfl 3 rfl ?_
            refine V_iconst (1 : Int32) (by decide) (dX8_would 19 rfl) 34 rfl ?_
            refine V_icmp_le (dX8_would 20 rfl) 41 (by decide) 37 rfl ?_ ?_
            · refine V_iconst (0 : Int32) (by decide) (dX8_would 23 rfl) 42 rfl ?_
              exact hk23 (0 : Int32)
            · exact hk25 ()
  · intro k16 hk17
    refine V_jn (fun (k18 : Unit → Option (Int32 × Int32 × (Nat → Int32))) => ∀ (_ : Unit), V E K mX8_would (Qm E K mX8_would (zX8_would E q1 q6 i5 v7 i8 i9 i10 i11 i12)) 0 0 [(q1, .inr (9, [.int i5, .ref q6, v7, .int i8, .int i9, .int i10, .int i11, .int i12, .int i13])), (q6, .inl (E.2.1, 81, .inl f14))] 17 [(0, .ref q1), (1, .int i2), (2, .int i3), (3, .int i4)] [.ref q1] (k18 ())) ?_ ?_
    · intro _
      show V E K mX8_would (Qm E K mX8_would (zX8_would E q1 q6 i5 v7 i8 i9 i10 i11 i12)) 0 0 [(q1, .inr (9, [.int i5, .ref q6, v7, .int i8, .int i9, .int i10, .int i11, .int i12, .int i13])), (q6, .inl (E.2.1, 81, .inl f14))] 17 [(0, .ref q1), (1, .int i2), (2, .int i3), (3, .int i4)] [.ref q1] _
      refine V_iconst (1 : Int32) (by decide) (dX8_would 9 rfl) 18 rfl ?_
      refine V_goto (dX8_would 10 rfl) 22 (by decide) ?_
      exact hk17 (1 : Int32)
    · intro k18 hk19
      refine V_if_eq (dX8_would 4 rfl) 17 (by decide) 9 rfl ?_ ?_
      · refine V_world [1, 0] [(q1, .inr (9, [.int i5, .ref q6, v7, .int i8, .int i9, .int i10, .int i11, .int i12, .int i13])), (q6, .inl (E.2.1, 81, .inl f14))] rfl rfl rfl ?_
        exact hk19 ()
      · refine V_aload_n (dX8_would 5 rfl) 10 rfl 0 rfl ?_
        refine V_iload_n (dX8_would 6 rfl) 11 rfl 2 rfl ?_
        refine V_callV (M := mX8_would) (wcs := [(q1, .inr (9, [.int i5, .ref q6, v7, .int i8, .int i9, .int i10, .int i11, .int i12, .int i13]))]) (wr := [(q6, .inl (E.2.1, 81, .inl f14))]) mf_X8_isPlace tw_1299 tw_1301 tw_30 ⟨Nat.le_of_ble_eq_true rfl, Nat.le_of_ble_eq_true rfl⟩ (dX8_would 7 rfl) 14 rfl (kX8_isPlace hs q1 i5 (.ref q6) v7 i8 i9 i10 i11 i12 i13 i3) rfl [1] [0] (q0 := 0) rfl rfl rfl rfl (by decide) rfl rfl rfl rfl (Nat.le_of_ble_eq_true rfl) 0 0 (show 0 + 0 ≤ 0 from Nat.le_of_ble_eq_true rfl) (show 0 + 0 ≤ 0 from Nat.le_of_ble_eq_true rfl) (fun z20 v w hz => ?_)
        obtain ⟨rfl, rfl⟩ := hz
        show V E K mX8_would (Qm E K mX8_would (zX8_would E q1 q6 i5 v7 i8 i9 i10 i11 i12)) 0 0 [(q6, .inl (E.2.1, 81, .inl f14)), (q1, .inr (9, [.int i5, .ref q6, v7, .int i8, .int i9, .int i10, .int i11, .int i12, .int i13]))] 14 [(0, .ref q1), (1, .int i2), (2, .int i3), (3, .int i4)] [.int z20, .ref q1] _
        refine V_if_ne (dX8_would 8 rfl) 21 (by decide) 17 rfl ?_ ?_
        · refine V_iconst (0 : Int32) (by decide) (dX8_would 11 rfl) 22 rfl ?_
          refine V_world [1, 0] [(q1, .inr (9, [.int i5, .ref q6, v7, .int i8, .int i9, .int i10, .int i11, .int i12, .int i13])), (q6, .inl (E.2.1, 81, .inl f14))] rfl rfl rfl ?_
          exact hk17 (0 : Int32)
        · refine V_world [1, 0] [(q1, .inr (9, [.int i5, .ref q6, v7, .int i8, .int i9, .int i10, .int i11, .int i12, .int i13])), (q6, .inl (E.2.1, 81, .inl f14))] rfl rfl rfl ?_
          exact hk19 ())
set_option maxRecDepth 20000 in
theorem kX8_between {E : EX} {l : Launch} (hl : l.stackTraces = false) (q1 q5 : Nat) (i4 : Int32) (v6 : Value) (i7 i8 i9 i10 i11 i12 : Int32) (f13 : Nat → Int32) (i2 i3 : Int32) : Ct E l mX8_between [.ref q1, .int i2, .int i3] [(q1, .inr (9, [.int i4, .ref q5, v6, .int i7, .int i8, .int i9, .int i10, .int i11, .int i12])), (q5, .inl (E.2.1, 81, .inl f13))] (fX8_between i4 f13 i2 i3) (zX8_between E q1 q5 i4 v6 i7 i8 i9 i10 i11 f13) := Ct_of hl mf_X8_between.1 (Nat.le_of_ble_eq_true rfl) (fun K hs => by
  refine V_less 0 0 (Nat.le_refl _) (Nat.le_refl _) ?_
  refine V_pick [0, 1, 2] [(0, .ref q1), (1, .int i2), (2, .int i3)] rfl ?_
  unfold fX8_between
  refine V_aload_n (dX8_between 0 rfl) 1 rfl 0 rfl ?_
  refine V_aload_n (dX8_between 1 rfl) 2 rfl 0 rfl ?_
  refine V_iload_n (dX8_between 2 rfl) 3 rfl 1 rfl ?_
  refine V_callV (M := mX8_between) (wcs := [(q1, .inr (9, [.int i4, .ref q5, v6, .int i7, .int i8, .int i9, .int i10, .int i11, .int i12]))]) (wr := [(q5, .inl (E.2.1, 81, .inl f13))]) mf_X8_isPlace tw_1299 tw_1301 tw_30 ⟨Nat.le_of_ble_eq_true rfl, Nat.le_of_ble_eq_true rfl⟩ (dX8_between 3 rfl) 6 rfl (kX8_isPlace hs q1 i4 (.ref q5) v6 i7 i8 i9 i10 i11 i12 i2) rfl [0] [1] (q0 := 0) rfl rfl rfl rfl (by decide) rfl rfl rfl rfl (Nat.le_of_ble_eq_true rfl) 0 0 (show 0 + 0 ≤ 0 from Nat.le_of_ble_eq_true rfl) (show 0 + 0 ≤ 0 from Nat.le_of_ble_eq_true rfl) (fun z14 v w hz => ?_)
  obtain ⟨rfl, rfl⟩ := hz
  show V E K mX8_between (Qm E K mX8_between (zX8_between E q1 q5 i4 v6 i7 i8 i9 i10 i11 f13)) 0 0 [(q5, .inl (E.2.1, 81, .inl f13)), (q1, .inr (9, [.int i4, .ref q5, v6, .int i7, .int i8, .int i9, .int i10, .int i11, .int i12]))] 6 [(0, .ref q1), (1, .int i2), (2, .int i3)] [.int z14, .ref q1] _
  refine V_jn (fun (k15 : Int32 → Option (Int32 × Int32)) => ∀ (i20 : Int32), V E K mX8_between (Qm E K mX8_between (zX8_between E q1 q5 i4 v6 i7 i8 i9 i10 i11 f13)) 0 0 [(q1, .inr (9, [.int i4, .ref q5, v6, .int i7, .int i8, .int i9, .int i10, .int i11, .int i12])), (q5, .inl (E.2.1, 81, .inl f13))] 22 [(0, .ref q1), (1, .int i2), (2, .int i3)] [.int i20, .ref q1] (k15 i20)) ?_ ?_
  · intro i20
    show V E K mX8_between (Qm E K mX8_between (zX8_between E q1 q5 i4 v6 i7 i8 i9 i10 i11 f13)) 0 0 [(q1, .inr (9, [.int i4, .ref q5, v6, .int i7, .int i8, .int i9, .int i10, .int i11, .int i12])), (q5, .inl (E.2.1, 81, .inl f13))] 22 [(0, .ref q1), (1, .int i2), (2, .int i3)] [.int i20, .ref q1] _
    refine V_iload_n (dX8_between 12 rfl) 23 rfl 1 rfl ?_
    refine V_iload_n (dX8_between 13 rfl) 24 rfl 2 rfl ?_
    refine V_jn (fun (k21 : Int32 → Option (Int32 × Int32)) => ∀ (i23 : Int32), V E K mX8_between (Qm E K mX8_between (zX8_between E q1 q5 i4 v6 i7 i8 i9 i10 i11 f13)) 0 0 [(q1, .inr (9, [.int i4, .ref q5, v6, .int i7, .int i8, .int i9, .int i10, .int i11, .int i12])), (q5, .inl (E.2.1, 81, .inl f13))] 32 [(0, .ref q1), (1, .int i2), (2, .int i3)] [.int i23, .int i20, .ref q1] (k21 i23)) ?_ ?_
    · intro i23
      show V E K mX8_between (Qm E K mX8_between (zX8_between E q1 q5 i4 v6 i7 i8 i9 i10 i11 f13)) 0 0 [(q1, .inr (9, [.int i4, .ref q5, v6, .int i7, .int i8, .int i9, .int i10, .int i11, .int i12])), (q5, .inl (E.2.1, 81, .inl f13))] 32 [(0, .ref q1), (1, .int i2), (2, .int i3)] [.int i23, .int i20, .ref q1] _
      refine V_callV (M := mX8_between) (wcs := [(q1, .inr (9, [.int i4, .ref q5, v6, .int i7, .int i8, .int i9, .int i10, .int i11, .int i12]))]) (wr := [(q5, .inl (E.2.1, 81, .inl f13))]) mf_X8_isThrown tw_1287 tw_1289 tw_28 ⟨Nat.le_of_ble_eq_true rfl, Nat.le_of_ble_eq_true rfl⟩ (dX8_between 18 rfl) 35 rfl (kX8_isThrown hs q1 i4 (.ref q5) v6 i7 i8 i9 i10 i11 i12 i20 i23) rfl [0] [1] (q0 := 0) rfl rfl rfl rfl (by decide) rfl rfl rfl rfl (Nat.le_of_ble_eq_true rfl) 0 0 (show 0 + 0 ≤ 0 from Nat.le_of_ble_eq_true rfl) (show 0 + 0 ≤ 0 from Nat.le_of_ble_eq_true rfl) (fun z24 v w hz => ?_)
      obtain ⟨rfl, rfl⟩ := hz
      show V E K mX8_between (Qm E K mX8_between (zX8_between E q1 q5 i4 v6 i7 i8 i9 i10 i11 f13)) 0 0 [(q5, .inl (E.2.1, 81, .inl f13)), (q1, .inr (9, [.int i4, .ref q5, v6, .int i7, .int i8, .int i9, .int i10, .int i11, .int z24.2]))] 35 [(0, .ref q1), (1, .int i2), (2, .int i3)] [.int z24.1] _
      refine V_if_eq (dX8_between 19 rfl) 42 (by decide) 38 rfl ?_ ?_
      · refine V_aload_n (dX8_between 22 rfl) 43 rfl 0 rfl ?_
        refine V_aload_n (dX8_between 23 rfl) 44 rfl 0 rfl ?_
        refine V_get gf_M_20 1 rfl rfl (dX8_between 24 rfl) 47 rfl ?_
        refine V_iload_n (dX8_between 25 rfl) 48 rfl 1 rfl ?_
        refine V_iload_n (dX8_between 26 rfl) 49 rfl 2 rfl ?_
        refine V_callV (M := mX8_between) (wcs := [(q1, .inr (9, [.int i4, .ref q5, v6, .int i7, .int i8, .int i9, .int i10, .int i11, .int z24.2])), (q5, .inl (E.2.1, 81, .inl f13))]) (wr := []) mf_X8_least tw_1494 tw_1496 tw_54 ⟨Nat.le_of_ble_eq_true rfl, Nat.le_of_ble_eq_true rfl⟩ (dX8_between 27 rfl) 52 rfl (kX8_least hs q1 q5 i4 (.ref q5) v6 i7 i8 i9 i10 i11 z24.2 f13 i2 i3) rfl [1, 0] [] (q0 := 0) rfl rfl rfl rfl (by decide) rfl rfl rfl rfl (Nat.le_of_ble_eq_true rfl) 0 0 (show 0 + 0 ≤ 0 from Nat.le_of_ble_eq_true rfl) (show 0 + 0 ≤ 0 from Nat.le_of_ble_eq_true rfl) (fun z25 v w hz => ?_)
        obtain ⟨rfl, rfl⟩ := hz
        show V E K mX8_between (Qm E K mX8_between (zX8_between E q1 q5 i4 v6 i7 i8 i9 i10 i11 f13)) 0 0 [(q1, .inr (9, [.int i4, .ref q5, v6, .int i7, .int i8, .int i9, .int i10, .int i11, .int z24.2])), (q5, .inl (E.2.1, 81, .inl f13))] 52 [(0, .ref q1), (1, .int i2), (2, .int i3)] [.int z25] _
        exact V_iret rfl (dX8_between 28 rfl) ⟨rfl, rfl⟩
      · refine V_iconst (0 : Int32) (by decide) (dX8_between 20 rfl) 39 rfl ?_
        refine V_goto (dX8_between 21 rfl) 52 (by decide) ?_
        refine V_world [1, 0] [(q1, .inr (9, [.int i4, .ref q5, v6, .int i7, .int i8, .int i9, .int i10, .int i11, .int z24.2])), (q5, .inl (E.2.1, 81, .inl f13))] rfl rfl rfl ?_
        exact V_iret rfl (dX8_between 28 rfl) ⟨rfl, rfl⟩
    · intro k21 hk22
      refine V_icmp_ne (dX8_between 14 rfl) 31 (by decide) 27 rfl ?_ ?_
      · refine V_iconst (0 : Int32) (by decide) (dX8_between 17 rfl) 32 rfl ?_
        exact hk22 (0 : Int32)
      · refine V_iconst (1 : Int32) (by decide) (dX8_between 15 rfl) 28 rfl ?_
        refine V_goto (dX8_between 16 rfl) 32 (by decide) ?_
        exact hk22 (1 : Int32)
  · intro k15 hk16
    refine V_jn (fun (k17 : Unit → Option (Int32 × Int32)) => ∀ (_ : Unit), V E K mX8_between (Qm E K mX8_between (zX8_between E q1 q5 i4 v6 i7 i8 i9 i10 i11 f13)) 0 0 [(q1, .inr (9, [.int i4, .ref q5, v6, .int i7, .int i8, .int i9, .int i10, .int i11, .int i12])), (q5, .inl (E.2.1, 81, .inl f13))] 17 [(0, .ref q1), (1, .int i2), (2, .int i3)] [.ref q1] (k17 ())) ?_ ?_
    · intro _
      show V E K mX8_between (Qm E K mX8_between (zX8_between E q1 q5 i4 v6 i7 i8 i9 i10 i11 f13)) 0 0 [(q1, .inr (9, [.int i4, .ref q5, v6, .int i7, .int i8, .int i9, .int i10, .int i11, .int i12])), (q5, .inl (E.2.1, 81, .inl f13))] 17 [(0, .ref q1), (1, .int i2), (2, .int i3)] [.ref q1] _
      refine V_iconst (1 : Int32) (by decide) (dX8_between 9 rfl) 18 rfl ?_
      refine V_goto (dX8_between 10 rfl) 22 (by decide) ?_
      exact hk16 (1 : Int32)
    · intro k17 hk18
      refine V_if_eq (dX8_between 4 rfl) 17 (by decide) 9 rfl ?_ ?_
      · refine V_world [1, 0] [(q1, .inr (9, [.int i4, .ref q5, v6, .int i7, .int i8, .int i9, .int i10, .int i11, .int i12])), (q5, .inl (E.2.1, 81, .inl f13))] rfl rfl rfl ?_
        exact hk18 ()
      · refine V_aload_n (dX8_between 5 rfl) 10 rfl 0 rfl ?_
        refine V_iload_n (dX8_between 6 rfl) 11 rfl 2 rfl ?_
        refine V_callV (M := mX8_between) (wcs := [(q1, .inr (9, [.int i4, .ref q5, v6, .int i7, .int i8, .int i9, .int i10, .int i11, .int i12]))]) (wr := [(q5, .inl (E.2.1, 81, .inl f13))]) mf_X8_isPlace tw_1299 tw_1301 tw_30 ⟨Nat.le_of_ble_eq_true rfl, Nat.le_of_ble_eq_true rfl⟩ (dX8_between 7 rfl) 14 rfl (kX8_isPlace hs q1 i4 (.ref q5) v6 i7 i8 i9 i10 i11 i12 i3) rfl [1] [0] (q0 := 0) rfl rfl rfl rfl (by decide) rfl rfl rfl rfl (Nat.le_of_ble_eq_true rfl) 0 0 (show 0 + 0 ≤ 0 from Nat.le_of_ble_eq_true rfl) (show 0 + 0 ≤ 0 from Nat.le_of_ble_eq_true rfl) (fun z19 v w hz => ?_)
        obtain ⟨rfl, rfl⟩ := hz
        show V E K mX8_between (Qm E K mX8_between (zX8_between E q1 q5 i4 v6 i7 i8 i9 i10 i11 f13)) 0 0 [(q5, .inl (E.2.1, 81, .inl f13)), (q1, .inr (9, [.int i4, .ref q5, v6, .int i7, .int i8, .int i9, .int i10, .int i11, .int i12]))] 14 [(0, .ref q1), (1, .int i2), (2, .int i3)] [.int z19, .ref q1] _
        refine V_if_ne (dX8_between 8 rfl) 21 (by decide) 17 rfl ?_ ?_
        · refine V_iconst (0 : Int32) (by decide) (dX8_between 11 rfl) 22 rfl ?_
          refine V_world [1, 0] [(q1, .inr (9, [.int i4, .ref q5, v6, .int i7, .int i8, .int i9, .int i10, .int i11, .int i12])), (q5, .inl (E.2.1, 81, .inl f13))] rfl rfl rfl ?_
          exact hk16 (0 : Int32)
        · refine V_world [1, 0] [(q1, .inr (9, [.int i4, .ref q5, v6, .int i7, .int i8, .int i9, .int i10, .int i11, .int i12])), (q5, .inl (E.2.1, 81, .inl f13))] rfl rfl rfl ?_
          exact hk18 ())
set_option maxRecDepth 20000 in
theorem kX8_about {E : EX} {l : Launch} (hl : l.stackTraces = false) (q1 q3 : Nat) (i2 : Int32) (v4 : Value) (i5 i6 i7 i8 i9 i10 : Int32) (f11 : Nat → Int32) : Ct E l mX8_about [.ref q1] [(q1, .inr (9, [.int i2, .ref q3, v4, .int i5, .int i6, .int i7, .int i8, .int i9, .int i10])), (q3, .inl (E.2.1, 81, .inl f11))] (fX8_about i2 i5 i6 f11) (zX8_about E q1 q3 i2 v4 i5 i6 i7 i8 i9 f11) := Ct_of hl mf_X8_about.1 (Nat.le_of_ble_eq_true rfl) (fun K hs => by
  refine V_less 0 0 (Nat.le_refl _) (Nat.le_refl _) ?_
  refine V_pick [0] [(0, .ref q1)] rfl ?_
  unfold fX8_about
  refine V_aload_n (dX8_about 0 rfl) 1 rfl 0 rfl ?_
  refine V_iconst (0 : Int32) (by decide) (dX8_about 1 rfl) 2 rfl ?_
  refine V_put pf_M_13 0 rfl rfl rfl (Nat.le_of_ble_eq_true rfl) (dX8_about 2 rfl) 5 rfl [(q1, .inr (9, [.int i2, .ref q3, v4, .int i5, .int i6, .int i7, .int i8, .int i9, .int (0 : Int32)])), (q3, .inl (E.2.1, 81, .inl f11))] rfl ?_
  refine V_aload_n (dX8_about 3 rfl) 6 rfl 0 rfl ?_
  refine V_callV (M := mX8_about) (wcs := [(q1, .inr (9, [.int i2, .ref q3, v4, .int i5, .int i6, .int i7, .int i8, .int i9, .int (0 : Int32)])), (q3, .inl (E.2.1, 81, .inl f11))]) (wr := []) mf_X8_leastNow tw_1490 tw_1492 tw_53 ⟨Nat.le_of_ble_eq_true rfl, Nat.le_of_ble_eq_true rfl⟩ (dX8_about 4 rfl) 9 rfl (kX8_leastNow hs q1 q3 i2 v4 i5 i6 i7 i8 i9 (0 : Int32) f11) rfl [0, 1] [] (q0 := 0) rfl rfl rfl rfl (by decide) rfl rfl rfl rfl (Nat.le_of_ble_eq_true rfl) 0 0 (show 0 + 0 ≤ 0 from Nat.le_of_ble_eq_true rfl) (show 0 + 0 ≤ 0 from Nat.le_of_ble_eq_true rfl) (fun z12 v w hz => ?_)
  obtain ⟨rfl, rfl⟩ := hz
  show V E K mX8_about (Qm E K mX8_about (zX8_about E q1 q3 i2 v4 i5 i6 i7 i8 i9 f11)) 0 0 [(q1, .inr (9, [.int i2, .ref q3, v4, .int i5, .int i6, .int i7, .int i8, .int i9, .int (0 : Int32)])), (q3, .inl (E.2.1, 81, .inl f11))] 9 [(0, .ref q1)] [.int z12] _
  exact V_iret rfl (dX8_about 5 rfl) ⟨rfl, rfl⟩)
set_option maxRecDepth 20000 in
theorem vBX8_apartNow_L10 {E : EX} {K : KX} (hs : K.l.stackTraces = false) (q1 q3 q12 : Nat) (i2 : Int32) (v4 : Value) (i5 i6 i7 i8 i9 i10 : Int32) (f11 : Nat → Int32) (bc bs : Nat) (i29 : Int32) (f30 : Nat → Int32) {rec : Int32 → (Nat → Int32) → Option (Int32)} {k1 : (Nat → Int32) → Option (Int32)} (hrec : ∀ (i29 : Int32) (f30 : Nat → Int32), V E K mX8_apartNow (Qm E K mX8_apartNow (zX8_apartNow E q1 q3 i2 v4 i5 i6 i7 i8 i9 i10 f11)) (bc) (bs) [(q1, .inr (9, [.int i2, .ref q3, v4, .int i5, .int i6, .int i7, .int i8, .int i9, .int i10])), (q3, .inl (E.2.1, 81, .inl f11)), (q12, .inl (E.2.1, 81, .inl f30))] 10 [(0, .ref q1), (1, .ref q12), (2, .int i29)] [] (rec i29 f30)) (hk1 : ∀ (f34 : Nat → Int32), V E K mX8_apartNow (Qm E K mX8_apartNow (zX8_apartNow E q1 q3 i2 v4 i5 i6 i7 i8 i9 i10 f11)) (bc) (bs) [(q1, .inr (9, [.int i2, .ref q3, v4, .int i5, .int i6, .int i7, .int i8, .int i9, .int i10])), (q3, .inl (E.2.1, 81, .inl f11)), (q12, .inl (E.2.1, 81, .inl f34))] 39 [(0, .ref q1), (1, .ref q12)] [] (k1 f34)) : V E K mX8_apartNow (Qm E K mX8_apartNow (zX8_apartNow E q1 q3 i2 v4 i5 i6 i7 i8 i9 i10 f11)) (bc) (bs) [(q1, .inr (9, [.int i2, .ref q3, v4, .int i5, .int i6, .int i7, .int i8, .int i9, .int i10])), (q3, .inl (E.2.1, 81, .inl f11)), (q12, .inl (E.2.1, 81, .inl f30))] 10 [(0, .ref q1), (1, .ref q12), (2, .int i29)] [] (BX8_apartNow_L10  f11 i29 f30 rec k1) := by
  unfold BX8_apartNow_L10
  refine V_iload_n (dX8_apartNow 7 rfl) 11 rfl 2 rfl ?_
  refine V_aload_n (dX8_apartNow 8 rfl) 12 rfl 1 rfl ?_
  refine V_alen 2 rfl ((81 : Int32)) (show Int32.ofNat 81 = (81 : Int32) by decide) (dX8_apartNow 9 rfl) 13 rfl ?_
  refine V_icmp_ge (dX8_apartNow 10 rfl) 39 (by decide) 16 rfl ?_ ?_
  · refine V_pick [0, 1] [(0, .ref q1), (1, .ref q12)] rfl ?_
    exact hk1 f30
  · refine V_aload_n (dX8_apartNow 11 rfl) 17 rfl 1 rfl ?_
    refine V_iload_n (dX8_apartNow 12 rfl) 18 rfl 2 rfl ?_
    refine V_aload_n (dX8_apartNow 13 rfl) 19 rfl 0 rfl ?_
    refine V_get gf_M_20 0 rfl rfl (dX8_apartNow 14 rfl) 22 rfl ?_
    refine V_iload_n (dX8_apartNow 15 rfl) 23 rfl 2 rfl ?_
    refine V_iald 1 rfl (dX8_apartNow 16 rfl) 24 rfl ?_
    refine V_jn (fun (k31 : Int32 → Option (Int32)) => ∀ (i33 : Int32), V E K mX8_apartNow (Qm E K mX8_apartNow (zX8_apartNow E q1 q3 i2 v4 i5 i6 i7 i8 i9 i10 f11)) (bc) (bs) [(q1, .inr (9, [.int i2, .ref q3, v4, .int i5, .int i6, .int i7, .int i8, .int i9, .int i10])), (q3, .inl (E.2.1, 81, .inl f11)), (q12, .inl (E.2.1, 81, .inl f30))] 32 [(0, .ref q1), (1, .ref q12), (2, .int i29)] [.int i33, .int i29, .ref q12] (k31 i33)) ?_ ?_
    · intro i33
      show V E K mX8_apartNow (Qm E K mX8_apartNow (zX8_apartNow E q1 q3 i2 v4 i5 i6 i7 i8 i9 i10 f11)) (bc) (bs) [(q1, .inr (9, [.int i2, .ref q3, v4, .int i5, .int i6, .int i7, .int i8, .int i9, .int i10])), (q3, .inl (E.2.1, 81, .inl f11)), (q12, .inl (E.2.1, 81, .inl f30))] 32 [(0, .ref q1), (1, .ref q12), (2, .int i29)] [.int i33, .int i29, .ref q12] _
      refine V_iast 2 rfl (dX8_apartNow 21 rfl) 33 rfl [(q1, .inr (9, [.int i2, .ref q3, v4, .int i5, .int i6, .int i7, .int i8, .int i9, .int i10])), (q3, .inl (E.2.1, 81, .inl f11)), (q12, .inl (E.2.1, 81, .inl (upd f30 i29.toNatClampNeg i33)))] rfl ?_
      refine V_iinc (dX8_apartNow 22 rfl) 36 rfl 2 rfl (i29 + (1 : Int32)) rfl [(0, .ref q1), (1, .ref q12), (2, .int (i29 + (1 : Int32)))] (Nat.le_of_ble_eq_true rfl) rfl ?_
      refine V_goto (dX8_apartNow 23 rfl) 10 (by decide) ?_
      exact hrec (i29 + (1 : Int32)) (upd f30 i29.toNatClampNeg i33)
    · intro k31 hk32
      refine V_if_le (dX8_apartNow 17 rfl) 31 (by decide) 27 rfl ?_ ?_
      · refine V_iconst (0 : Int32) (by decide) (dX8_apartNow 20 rfl) 32 rfl ?_
        exact hk32 (0 : Int32)
      · refine V_iconst (1 : Int32) (by decide) (dX8_apartNow 18 rfl) 28 rfl ?_
        refine V_goto (dX8_apartNow 19 rfl) 32 (by decide) ?_
        exact hk32 (1 : Int32)
set_option maxRecDepth 20000 in
theorem vLX8_apartNow_L10 {E : EX} {K : KX} (hs : K.l.stackTraces = false) (q1 q3 q12 : Nat) (i2 : Int32) (v4 : Value) (i5 i6 i7 i8 i9 i10 : Int32) (f11 : Nat → Int32) (bc bs : Nat) {k1 : (Nat → Int32) → Option (Int32)} (hk1 : ∀ (f34 : Nat → Int32), V E K mX8_apartNow (Qm E K mX8_apartNow (zX8_apartNow E q1 q3 i2 v4 i5 i6 i7 i8 i9 i10 f11)) (bc) (bs) [(q1, .inr (9, [.int i2, .ref q3, v4, .int i5, .int i6, .int i7, .int i8, .int i9, .int i10])), (q3, .inl (E.2.1, 81, .inl f11)), (q12, .inl (E.2.1, 81, .inl f34))] 39 [(0, .ref q1), (1, .ref q12)] [] (k1 f34)) : ∀ (n : Nat) (i29 : Int32) (f30 : Nat → Int32), V E K mX8_apartNow (Qm E K mX8_apartNow (zX8_apartNow E q1 q3 i2 v4 i5 i6 i7 i8 i9 i10 f11)) (bc) (bs) [(q1, .inr (9, [.int i2, .ref q3, v4, .int i5, .int i6, .int i7, .int i8, .int i9, .int i10])), (q3, .inl (E.2.1, 81, .inl f11)), (q12, .inl (E.2.1, 81, .inl f30))] 10 [(0, .ref q1), (1, .ref q12), (2, .int i29)] [] (LX8_apartNow_L10  f11 n i29 f30 k1)
  | 0, _, _ => V_none
  | n + 1, i29, f30 => vBX8_apartNow_L10 hs q1 q3 q12 i2 v4 i5 i6 i7 i8 i9 i10 f11 bc bs i29 f30 (fun i29 f30 => vLX8_apartNow_L10 hs q1 q3 q12 i2 v4 i5 i6 i7 i8 i9 i10 f11 bc bs hk1 n i29 f30) hk1
set_option maxRecDepth 20000 in
theorem kX8_apartNow {E : EX} {l : Launch} (hl : l.stackTraces = false) (q1 q3 : Nat) (i2 : Int32) (v4 : Value) (i5 i6 i7 i8 i9 i10 : Int32) (f11 : Nat → Int32) : Ct E l mX8_apartNow [.ref q1] [(q1, .inr (9, [.int i2, .ref q3, v4, .int i5, .int i6, .int i7, .int i8, .int i9, .int i10])), (q3, .inl (E.2.1, 81, .inl f11))] (fX8_apartNow i2 i5 i6 f11) (zX8_apartNow E q1 q3 i2 v4 i5 i6 i7 i8 i9 i10 f11) := Ct_of hl mf_X8_apartNow.1 (Nat.le_of_ble_eq_true rfl) (fun K hs => by
  refine V_less 1 81 (Nat.le_refl _) (Nat.le_refl _) ?_
  refine V_pick [0] [(0, .ref q1)] rfl ?_
  unfold fX8_apartNow
  refine V_aload_n (dX8_apartNow 0 rfl) 1 rfl 0 rfl ?_
  refine V_get gf_M_20 0 rfl rfl (dX8_apartNow 1 rfl) 4 rfl ?_
  refine V_alen 1 rfl ((81 : Int32)) (show Int32.ofNat 81 = (81 : Int32) by decide) (dX8_apartNow 2 rfl) 5 rfl ?_
  refine V_newc 81 (by decide) (by decide) (by decide) tw_116 (dX8_apartNow 3 rfl) 7 rfl 0 0 (show 0 + 1 ≤ 1 from Nat.le_of_ble_eq_true rfl) (show 0 + 81 ≤ 81 from Nat.le_of_ble_eq_true rfl) (fun q12 => ?_)
  refine V_eqW (ws2 := [(q1, .inr (9, [.int i2, .ref q3, v4, .int i5, .int i6, .int i7, .int i8, .int i9, .int i10])), (q3, .inl (E.2.1, 81, .inl f11)), (q12, .inl (E.2.1, 81, .inl (fun _ => 0)))]) rfl ?_
  refine V_astore_n (dX8_apartNow 4 rfl) 8 rfl [(0, .ref q1), (1, .ref q12)] (Nat.le_of_ble_eq_true rfl) rfl ?_
  refine V_iconst (0 : Int32) (by decide) (dX8_apartNow 5 rfl) 9 rfl ?_
  refine V_istore_n (dX8_apartNow 6 rfl) 10 rfl [(0, .ref q1), (1, .ref q12), (2, .int (0 : Int32))] (Nat.le_of_ble_eq_true rfl) rfl ?_
  refine vLX8_apartNow_L10 hs q1 q3 q12 i2 v4 i5 i6 i7 i8 i9 i10 f11 0 0 ?_ 600 (0 : Int32) (fun _ => 0)
  intro f34
  show V E K mX8_apartNow (Qm E K mX8_apartNow (zX8_apartNow E q1 q3 i2 v4 i5 i6 i7 i8 i9 i10 f11)) 0 0 [(q1, .inr (9, [.int i2, .ref q3, v4, .int i5, .int i6, .int i7, .int i8, .int i9, .int i10])), (q3, .inl (E.2.1, 81, .inl f11)), (q12, .inl (E.2.1, 81, .inl f34))] 39 [(0, .ref q1), (1, .ref q12)] [] _
  refine V_aload_n (dX8_apartNow 24 rfl) 40 rfl 0 rfl ?_
  refine V_aload_n (dX8_apartNow 25 rfl) 41 rfl 1 rfl ?_
  refine V_aload_n (dX8_apartNow 26 rfl) 42 rfl 0 rfl ?_
  refine V_get gf_M_27 0 rfl rfl (dX8_apartNow 27 rfl) 45 rfl ?_
  refine V_aload_n (dX8_apartNow 28 rfl) 46 rfl 0 rfl ?_
  refine V_get gf_M_30 0 rfl rfl (dX8_apartNow 29 rfl) 49 rfl ?_
  refine V_callV (M := mX8_apartNow) (wcs := [(q1, .inr (9, [.int i2, .ref q3, v4, .int i5, .int i6, .int i7, .int i8, .int i9, .int i10])), (q12, .inl (E.2.1, 81, .inl f34))]) (wr := [(q3, .inl (E.2.1, 81, .inl f11))]) mf_X8_least tw_1494 tw_1496 tw_54 ⟨Nat.le_of_ble_eq_true rfl, Nat.le_of_ble_eq_true rfl⟩ (dX8_apartNow 30 rfl) 52 rfl (kX8_least hs q1 q12 i2 (.ref q3) v4 i5 i6 i7 i8 i9 i10 f34 i5 i6) rfl [0, 2] [1] (q0 := 0) rfl rfl rfl rfl (by decide) rfl rfl rfl rfl (Nat.le_of_ble_eq_true rfl) 0 0 (show 0 + 0 ≤ 0 from Nat.le_of_ble_eq_true rfl) (show 0 + 0 ≤ 0 from Nat.le_of_ble_eq_true rfl) (fun z35 v w hz => ?_)
  obtain ⟨rfl, rfl⟩ := hz
  show V E K mX8_apartNow (Qm E K mX8_apartNow (zX8_apartNow E q1 q3 i2 v4 i5 i6 i7 i8 i9 i10 f11)) 0 0 [(q3, .inl (E.2.1, 81, .inl f11)), (q1, .inr (9, [.int i2, .ref q3, v4, .int i5, .int i6, .int i7, .int i8, .int i9, .int i10])), (q12, .inl (E.2.1, 81, .inl f34))] 52 [(0, .ref q1), (1, .ref q12)] [.int z35] _
  refine V_world [1, 0] [(q1, .inr (9, [.int i2, .ref q3, v4, .int i5, .int i6, .int i7, .int i8, .int i9, .int i10])), (q3, .inl (E.2.1, 81, .inl f11))] rfl rfl rfl ?_
  exact V_iret rfl (dX8_apartNow 31 rfl) ⟨rfl, rfl⟩)
set_option maxRecDepth 20000 in
theorem kX8_apart {E : EX} {l : Launch} (hl : l.stackTraces = false) (q1 q4 : Nat) (i3 : Int32) (v5 : Value) (i6 i7 i8 i9 i10 i11 : Int32) (f12 : Nat → Int32) (i2 : Int32) : Ct E l mX8_apart [.ref q1, .int i2] [(q1, .inr (9, [.int i3, .ref q4, v5, .int i6, .int i7, .int i8, .int i9, .int i10, .int i11])), (q4, .inl (E.2.1, 81, .inl f12))] (fX8_apart i3 i6 i7 f12 i2) (zX8_apart E q1 q4 i3 v5 i6 i7 i8 i9 i10 f12) := Ct_of hl mf_X8_apart.1 (Nat.le_of_ble_eq_true rfl) (fun K hs => by
  refine V_less 1 81 (Nat.le_refl _) (Nat.le_refl _) ?_
  refine V_pick [0, 1] [(0, .ref q1), (1, .int i2)] rfl ?_
  unfold fX8_apart
  refine V_aload_n (dX8_apart 0 rfl) 1 rfl 0 rfl ?_
  refine V_iload_n (dX8_apart 1 rfl) 2 rfl 1 rfl ?_
  refine V_jn (fun (k13 : Int32 → Option (Int32 × Int32)) => ∀ (i17 : Int32), V E K mX8_apart (Qm E K mX8_apart (zX8_apart E q1 q4 i3 v5 i6 i7 i8 i9 i10 f12)) 1 81 [(q1, .inr (9, [.int i3, .ref q4, v5, .int i6, .int i7, .int i8, .int i9, .int i10, .int i11])), (q4, .inl (E.2.1, 81, .inl f12))] 15 [(0, .ref q1)] [.int i17, .ref q1] (k13 i17)) ?_ ?_
  · intro i17
    show V E K mX8_apart (Qm E K mX8_apart (zX8_apart E q1 q4 i3 v5 i6 i7 i8 i9 i10 f12)) 1 81 [(q1, .inr (9, [.int i3, .ref q4, v5, .int i6, .int i7, .int i8, .int i9, .int i10, .int i11])), (q4, .inl (E.2.1, 81, .inl f12))] 15 [(0, .ref q1)] [.int i17, .ref q1] _
    refine V_callV (M := mX8_apart) (wcs := [(q1, .inr (9, [.int i3, .ref q4, v5, .int i6, .int i7, .int i8, .int i9, .int i10, .int i11]))]) (wr := [(q4, .inl (E.2.1, 81, .inl f12))]) mf_X8_isThrown_ tw_1283 tw_1285 tw_27 ⟨Nat.le_of_ble_eq_true rfl, Nat.le_of_ble_eq_true rfl⟩ (dX8_apart 9 rfl) 18 rfl (kX8_isThrown_ hs q1 i3 (.ref q4) v5 i6 i7 i8 i9 i10 i11 i17) rfl [0] [1] (q0 := 0) rfl rfl rfl rfl (by decide) rfl rfl rfl rfl (Nat.le_of_ble_eq_true rfl) 1 81 (show 1 + 0 ≤ 1 from Nat.le_of_ble_eq_true rfl) (show 81 + 0 ≤ 81 from Nat.le_of_ble_eq_true rfl) (fun z18 v w hz => ?_)
    obtain ⟨rfl, rfl⟩ := hz
    show V E K mX8_apart (Qm E K mX8_apart (zX8_apart E q1 q4 i3 v5 i6 i7 i8 i9 i10 f12)) 1 81 [(q4, .inl (E.2.1, 81, .inl f12)), (q1, .inr (9, [.int i3, .ref q4, v5, .int i6, .int i7, .int i8, .int i9, .int i10, .int z18.2]))] 18 [(0, .ref q1)] [.int z18.1] _
    refine V_if_eq (dX8_apart 10 rfl) 25 (by decide) 21 rfl ?_ ?_
    · refine V_aload_n (dX8_apart 13 rfl) 26 rfl 0 rfl ?_
      refine V_callV (M := mX8_apart) (wcs := [(q1, .inr (9, [.int i3, .ref q4, v5, .int i6, .int i7, .int i8, .int i9, .int i10, .int z18.2])), (q4, .inl (E.2.1, 81, .inl f12))]) (wr := []) mf_X8_apartNow tw_1591 tw_1593 tw_61 ⟨Nat.le_of_ble_eq_true rfl, Nat.le_of_ble_eq_true rfl⟩ (dX8_apart 14 rfl) 29 rfl (kX8_apartNow hs q1 q4 i3 v5 i6 i7 i8 i9 i10 z18.2 f12) rfl [1, 0] [] (q0 := 0) rfl rfl rfl rfl (by decide) rfl rfl rfl rfl (Nat.le_of_ble_eq_true rfl) 0 0 (show 0 + 1 ≤ 1 from Nat.le_of_ble_eq_true rfl) (show 0 + 81 ≤ 81 from Nat.le_of_ble_eq_true rfl) (fun z19 v w hz => ?_)
      obtain ⟨rfl, rfl⟩ := hz
      show V E K mX8_apart (Qm E K mX8_apart (zX8_apart E q1 q4 i3 v5 i6 i7 i8 i9 i10 f12)) 0 0 [(q1, .inr (9, [.int i3, .ref q4, v5, .int i6, .int i7, .int i8, .int i9, .int i10, .int z18.2])), (q4, .inl (E.2.1, 81, .inl f12))] 29 [(0, .ref q1)] [.int z19] _
      exact V_iret rfl (dX8_apart 15 rfl) ⟨rfl, rfl⟩
    · refine V_iconst (0 : Int32) (by decide) (dX8_apart 11 rfl) 22 rfl ?_
      refine V_goto (dX8_apart 12 rfl) 29 (by decide) ?_
      refine V_world [1, 0] [(q1, .inr (9, [.int i3, .ref q4, v5, .int i6, .int i7, .int i8, .int i9, .int i10, .int z18.2])), (q4, .inl (E.2.1, 81, .inl f12))] rfl rfl rfl ?_
      exact V_iret rfl (dX8_apart 15 rfl) ⟨rfl, rfl⟩
  · intro k13 hk14
    refine V_jn (fun (k15 : Unit → Option (Int32 × Int32)) => ∀ (_ : Unit), V E K mX8_apart (Qm E K mX8_apart (zX8_apart E q1 q4 i3 v5 i6 i7 i8 i9 i10 f12)) 1 81 [(q1, .inr (9, [.int i3, .ref q4, v5, .int i6, .int i7, .int i8, .int i9, .int i10, .int i11])), (q4, .inl (E.2.1, 81, .inl f12))] 10 [(0, .ref q1)] [.ref q1] (k15 ())) ?_ ?_
    · intro _
      show V E K mX8_apart (Qm E K mX8_apart (zX8_apart E q1 q4 i3 v5 i6 i7 i8 i9 i10 f12)) 1 81 [(q1, .inr (9, [.int i3, .ref q4, v5, .int i6, .int i7, .int i8, .int i9, .int i10, .int i11])), (q4, .inl (E.2.1, 81, .inl f12))] 10 [(0, .ref q1)] [.ref q1] _
      refine V_iconst (1 : Int32) (by decide) (dX8_apart 6 rfl) 11 rfl ?_
      refine V_goto (dX8_apart 7 rfl) 15 (by decide) ?_
      exact hk14 (1 : Int32)
    · intro k15 hk16
      refine V_if_lt (dX8_apart 2 rfl) 10 (by decide) 5 rfl ?_ ?_
      · refine V_pick [0] [(0, .ref q1)] rfl ?_
        exact hk16 ()
      · refine V_iload_n (dX8_apart 3 rfl) 6 rfl 1 rfl ?_
        refine V_iconst (1 : Int32) (by decide) (dX8_apart 4 rfl) 7 rfl ?_
        refine V_icmp_le (dX8_apart 5 rfl) 14 (by decide) 10 rfl ?_ ?_
        · refine V_iconst (0 : Int32) (by decide) (dX8_apart 8 rfl) 15 rfl ?_
          refine V_pick [0] [(0, .ref q1)] rfl ?_
          exact hk14 (0 : Int32)
        · refine V_pick [0] [(0, .ref q1)] rfl ?_
          exact hk16 ())
set_option maxRecDepth 20000 in
theorem kX8_houseNow {E : EX} {l : Launch} (hl : l.stackTraces = false) (q1 : Nat) (i3 : Int32) (v4 v5 : Value) (i6 i7 i8 i9 i10 i11 i2 : Int32) : Ct E l mX8_houseNow [.ref q1, .int i2] [(q1, .inr (9, [.int i3, v4, v5, .int i6, .int i7, .int i8, .int i9, .int i10, .int i11]))] (fX8_houseNow i8 i9 i10 i2) (zX8_houseNow E q1 i3 v4 v5 i6 i7 i8 i9 i10 i11) := Ct_of hl mf_X8_houseNow.1 (Nat.le_of_ble_eq_true rfl) (fun K hs => by
  refine V_less 0 0 (Nat.le_refl _) (Nat.le_refl _) ?_
  refine V_pick [0, 1] [(0, .ref q1), (1, .int i2)] rfl ?_
  unfold fX8_houseNow
  refine V_iload_n (dX8_houseNow 0 rfl) 1 rfl 1 rfl ?_
  refine V_if_ne (dX8_houseNow 1 rfl) 11 (by decide) 4 rfl ?_ ?_
  · refine V_iload_n (dX8_houseNow 5 rfl) 12 rfl 1 rfl ?_
    refine V_iconst (1 : Int32) (by decide) (dX8_houseNow 6 rfl) 13 rfl ?_
    refine V_icmp_ne (dX8_houseNow 7 rfl) 23 (by decide) 16 rfl ?_ ?_
    · refine V_aload_n (dX8_houseNow 11 rfl) 24 rfl 0 rfl ?_
      refine V_get gf_M_214 0 rfl rfl (dX8_houseNow 12 rfl) 27 rfl ?_
      exact V_iret rfl (dX8_houseNow 13 rfl) ⟨rfl, rfl⟩
    · refine V_aload_n (dX8_houseNow 8 rfl) 17 rfl 0 rfl ?_
      refine V_get gf_M_40 0 rfl rfl (dX8_houseNow 9 rfl) 20 rfl ?_
      refine V_goto (dX8_houseNow 10 rfl) 27 (by decide) ?_
      exact V_iret rfl (dX8_houseNow 13 rfl) ⟨rfl, rfl⟩
  · refine V_aload_n (dX8_houseNow 2 rfl) 5 rfl 0 rfl ?_
    refine V_get gf_M_37 0 rfl rfl (dX8_houseNow 3 rfl) 8 rfl ?_
    refine V_goto (dX8_houseNow 4 rfl) 27 (by decide) ?_
    exact V_iret rfl (dX8_houseNow 13 rfl) ⟨rfl, rfl⟩)
set_option maxRecDepth 20000 in
theorem kX8_house {E : EX} {l : Launch} (hl : l.stackTraces = false) (q1 : Nat) (i3 : Int32) (v4 v5 : Value) (i6 i7 i8 i9 i10 i11 i2 : Int32) : Ct E l mX8_house [.ref q1, .int i2] [(q1, .inr (9, [.int i3, v4, v5, .int i6, .int i7, .int i8, .int i9, .int i10, .int i11]))] (fX8_house i8 i9 i10 i2) (zX8_house E q1 i3 v4 v5 i6 i7 i8 i9 i10) := Ct_of hl mf_X8_house.1 (Nat.le_of_ble_eq_true rfl) (fun K hs => by
  refine V_less 0 0 (Nat.le_refl _) (Nat.le_refl _) ?_
  refine V_pick [0, 1] [(0, .ref q1), (1, .int i2)] rfl ?_
  unfold fX8_house
  refine V_aload_n (dX8_house 0 rfl) 1 rfl 0 rfl ?_
  refine V_iload_n (dX8_house 1 rfl) 2 rfl 1 rfl ?_
  refine V_jn (fun (k12 : Int32 → Option (Int32 × Int32)) => ∀ (i16 : Int32), V E K mX8_house (Qm E K mX8_house (zX8_house E q1 i3 v4 v5 i6 i7 i8 i9 i10)) 0 0 [(q1, .inr (9, [.int i3, v4, v5, .int i6, .int i7, .int i8, .int i9, .int i10, .int i11]))] 15 [(0, .ref q1), (1, .int i2)] [.int i16, .ref q1] (k12 i16)) ?_ ?_
  · intro i16
    show V E K mX8_house (Qm E K mX8_house (zX8_house E q1 i3 v4 v5 i6 i7 i8 i9 i10)) 0 0 [(q1, .inr (9, [.int i3, v4, v5, .int i6, .int i7, .int i8, .int i9, .int i10, .int i11]))] 15 [(0, .ref q1), (1, .int i2)] [.int i16, .ref q1] _
    refine V_callV (M := mX8_house) (wcs := [(q1, .inr (9, [.int i3, v4, v5, .int i6, .int i7, .int i8, .int i9, .int i10, .int i11]))]) (wr := []) mf_X8_isThrown_ tw_1283 tw_1285 tw_27 ⟨Nat.le_of_ble_eq_true rfl, Nat.le_of_ble_eq_true rfl⟩ (dX8_house 9 rfl) 18 rfl (kX8_isThrown_ hs q1 i3 v4 v5 i6 i7 i8 i9 i10 i11 i16) rfl [0] [] (q0 := 0) rfl rfl rfl rfl (by decide) rfl rfl rfl rfl (Nat.le_of_ble_eq_true rfl) 0 0 (show 0 + 0 ≤ 0 from Nat.le_of_ble_eq_true rfl) (show 0 + 0 ≤ 0 from Nat.le_of_ble_eq_true rfl) (fun z17 v w hz => ?_)
    obtain ⟨rfl, rfl⟩ := hz
    show V E K mX8_house (Qm E K mX8_house (zX8_house E q1 i3 v4 v5 i6 i7 i8 i9 i10)) 0 0 [(q1, .inr (9, [.int i3, v4, v5, .int i6, .int i7, .int i8, .int i9, .int i10, .int z17.2]))] 18 [(0, .ref q1), (1, .int i2)] [.int z17.1] _
    refine V_if_eq (dX8_house 10 rfl) 25 (by decide) 21 rfl ?_ ?_
    · refine V_aload_n (dX8_house 13 rfl) 26 rfl 0 rfl ?_
      refine V_iload_n (dX8_house 14 rfl) 27 rfl 1 rfl ?_
      refine V_callV (M := mX8_house) (wcs := [(q1, .inr (9, [.int i3, v4, v5, .int i6, .int i7, .int i8, .int i9, .int i10, .int z17.2]))]) (wr := []) mf_X8_houseNow tw_1599 tw_1601 tw_62 ⟨Nat.le_of_ble_eq_true rfl, Nat.le_of_ble_eq_true rfl⟩ (dX8_house 15 rfl) 30 rfl (kX8_houseNow hs q1 i3 v4 v5 i6 i7 i8 i9 i10 z17.2 i2) rfl [0] [] (q0 := 0) rfl rfl rfl rfl (by decide) rfl rfl rfl rfl (Nat.le_of_ble_eq_true rfl) 0 0 (show 0 + 0 ≤ 0 from Nat.le_of_ble_eq_true rfl) (show 0 + 0 ≤ 0 from Nat.le_of_ble_eq_true rfl) (fun z18 v w hz => ?_)
      obtain ⟨rfl, rfl⟩ := hz
      show V E K mX8_house (Qm E K mX8_house (zX8_house E q1 i3 v4 v5 i6 i7 i8 i9 i10)) 0 0 [(q1, .inr (9, [.int i3, v4, v5, .int i6, .int i7, .int i8, .int i9, .int i10, .int z17.2]))] 30 [(0, .ref q1), (1, .int i2)] [.int z18] _
      exact V_iret rfl (dX8_house 16 rfl) ⟨rfl, rfl⟩
    · refine V_iconst (0 : Int32) (by decide) (dX8_house 11 rfl) 22 rfl ?_
      refine V_goto (dX8_house 12 rfl) 30 (by decide) ?_
      exact V_iret rfl (dX8_house 16 rfl) ⟨rfl, rfl⟩
  · intro k12 hk13
    refine V_jn (fun (k14 : Unit → Option (Int32 × Int32)) => ∀ (_ : Unit), V E K mX8_house (Qm E K mX8_house (zX8_house E q1 i3 v4 v5 i6 i7 i8 i9 i10)) 0 0 [(q1, .inr (9, [.int i3, v4, v5, .int i6, .int i7, .int i8, .int i9, .int i10, .int i11]))] 10 [(0, .ref q1), (1, .int i2)] [.ref q1] (k14 ())) ?_ ?_
    · intro _
      show V E K mX8_house (Qm E K mX8_house (zX8_house E q1 i3 v4 v5 i6 i7 i8 i9 i10)) 0 0 [(q1, .inr (9, [.int i3, v4, v5, .int i6, .int i7, .int i8, .int i9, .int i10, .int i11]))] 10 [(0, .ref q1), (1, .int i2)] [.ref q1] _
      refine V_iconst (1 : Int32) (by decide) (dX8_house 6 rfl) 11 rfl ?_
      refine V_goto (dX8_house 7 rfl) 15 (by decide) ?_
      exact hk13 (1 : Int32)
    · intro k14 hk15
      refine V_if_lt (dX8_house 2 rfl) 10 (by decide) 5 rfl ?_ ?_
      · exact hk15 ()
      · refine V_iload_n (dX8_house 3 rfl) 6 rfl 1 rfl ?_
        refine V_iconst (2 : Int32) (by decide) (dX8_house 4 rfl) 7 rfl ?_
        refine V_icmp_le (dX8_house 5 rfl) 14 (by decide) 10 rfl ?_ ?_
        · refine V_iconst (0 : Int32) (by decide) (dX8_house 8 rfl) 15 rfl ?_
          exact hk13 (0 : Int32)
        · exact hk15 ())
set_option maxRecDepth 20000 in
theorem kX8_knock {E : EX} {l : Launch} (hl : l.stackTraces = false) (q1 : Nat) (i2 : Int32) (v3 v4 : Value) (i5 i6 i7 i8 i9 i10 : Int32) : Ct E l mX8_knock [.ref q1] [(q1, .inr (9, [.int i2, v3, v4, .int i5, .int i6, .int i7, .int i8, .int i9, .int i10]))] (fX8_knock i9) (zX8_knock E q1 i2 v3 v4 i5 i6 i7 i8) := Ct_of hl mf_X8_knock.1 (Nat.le_of_ble_eq_true rfl) (fun K hs => by
  refine V_less 0 0 (Nat.le_refl _) (Nat.le_refl _) ?_
  refine V_pick [0] [(0, .ref q1)] rfl ?_
  unfold fX8_knock
  refine V_aload_n (dX8_knock 0 rfl) 1 rfl 0 rfl ?_
  refine V_iconst (0 : Int32) (by decide) (dX8_knock 1 rfl) 2 rfl ?_
  refine V_put pf_M_13 0 rfl rfl rfl (Nat.le_of_ble_eq_true rfl) (dX8_knock 2 rfl) 5 rfl [(q1, .inr (9, [.int i2, v3, v4, .int i5, .int i6, .int i7, .int i8, .int i9, .int (0 : Int32)]))] rfl ?_
  refine V_aload_n (dX8_knock 3 rfl) 6 rfl 0 rfl ?_
  refine V_dup rfl (dX8_knock 4 rfl) 7 rfl ?_
  refine V_get gf_M_214 0 rfl rfl (dX8_knock 5 rfl) 10 rfl ?_
  refine V_iconst (1 : Int32) (by decide) (dX8_knock 6 rfl) 11 rfl ?_
  refine V_iadd (dX8_knock 7 rfl) 12 rfl ?_
  refine V_put pf_M_214 0 rfl rfl rfl (Nat.le_of_ble_eq_true rfl) (dX8_knock 8 rfl) 15 rfl [(q1, .inr (9, [.int i2, v3, v4, .int i5, .int i6, .int i7, .int i8, .int (i9 + (1 : Int32)), .int (0 : Int32)]))] rfl ?_
  refine V_aload_n (dX8_knock 9 rfl) 16 rfl 0 rfl ?_
  refine V_get gf_M_214 0 rfl rfl (dX8_knock 10 rfl) 19 rfl ?_
  exact V_iret rfl (dX8_knock 11 rfl) ⟨rfl, rfl⟩)
set_option maxRecDepth 20000 in
theorem vBX8_isSoundNow_L50 {E : EX} {K : KX} (hs : K.l.stackTraces = false) (q1 q3 q4 : Nat) (i2 i5 i6 i7 i8 i9 i10 : Int32) (f11 f12 : Nat → Int32) (i69 : Int32) (bc bs : Nat) (i100 i101 : Int32) {rec : Int32 → Int32 → Option (Int32)} {k1 : Int32 → Option (Int32)} (hrec : ∀ (i100 i101 : Int32), V E K mX8_isSoundNow (Qm E K mX8_isSoundNow (zX8_isSoundNow E q1 q3 q4 i2 i5 i6 i7 i8 i9 i10 f11 f12)) (bc) (bs) [(q1, .inr (9, [.int i2, .ref q3, .ref q4, .int i5, .int i6, .int i7, .int i8, .int i9, .int i10])), (q3, .inl (E.2.1, 81, .inl f11)), (q4, .inl (E.2.1, 81, .inl f12))] 50 [(0, .ref q1), (1, .int i100), (2, .int i69), (3, .int i101)] [] (rec i100 i101)) (hk1 : ∀ (i111 : Int32), V E K mX8_isSoundNow (Qm E K mX8_isSoundNow (zX8_isSoundNow E q1 q3 q4 i2 i5 i6 i7 i8 i9 i10 f11 f12)) (bc) (bs) [(q1, .inr (9, [.int i2, .ref q3, .ref q4, .int i5, .int i6, .int i7, .int i8, .int i9, .int i10])), (q3, .inl (E.2.1, 81, .inl f11)), (q4, .inl (E.2.1, 81, .inl f12))] 97 [(0, .ref q1), (1, .int i111), (2, .int i69)] [] (k1 i111)) : V E K mX8_isSoundNow (Qm E K mX8_isSoundNow (zX8_isSoundNow E q1 q3 q4 i2 i5 i6 i7 i8 i9 i10 f11 f12)) (bc) (bs) [(q1, .inr (9, [.int i2, .ref q3, .ref q4, .int i5, .int i6, .int i7, .int i8, .int i9, .int i10])), (q3, .inl (E.2.1, 81, .inl f11)), (q4, .inl (E.2.1, 81, .inl f12))] 50 [(0, .ref q1), (1, .int i100), (2, .int i69), (3, .int i101)] [] (BX8_isSoundNow_L50  i2 f11 f12 i69 i100 i101 rec k1) := by
  unfold BX8_isSoundNow_L50
  refine V_iload_n (dX8_isSoundNow_p0 30 rfl) 51 rfl 3 rfl ?_
  refine V_aload_n (dX8_isSoundNow_p0 31 rfl) 52 rfl 0 rfl ?_
  refine V_get gf_M_17 0 rfl rfl (dX8_isSoundNow_p0 32 rfl) 55 rfl ?_
  refine V_icmp_ge (dX8_isSoundNow_p0 33 rfl) 97 (by decide) 58 rfl ?_ ?_
  · refine V_pick [0, 1, 2] [(0, .ref q1), (1, .int i100), (2, .int i69)] rfl ?_
    exact hk1 i100
  · refine V_iload_n (dX8_isSoundNow_p0 34 rfl) 59 rfl 1 rfl ?_
    refine V_aload_n (dX8_isSoundNow_p0 35 rfl) 60 rfl 0 rfl ?_
    refine V_iload_n (dX8_isSoundNow_p0 36 rfl) 61 rfl 2 rfl ?_
    refine V_iload_n (dX8_isSoundNow_p0 37 rfl) 62 rfl 3 rfl ?_
    refine V_callV (M := mX8_isSoundNow) (wcs := [(q1, .inr (9, [.int i2, .ref q3, .ref q4, .int i5, .int i6, .int i7, .int i8, .int i9, .int i10])), (q3, .inl (E.2.1, 81, .inl f11)), (q4, .inl (E.2.1, 81, .inl f12))]) (wr := []) mf_X8_left tw_1388 tw_1390 tw_42 ⟨Nat.le_of_ble_eq_true rfl, Nat.le_of_ble_eq_true rfl⟩ (dX8_isSoundNow_p0 38 rfl) 65 rfl (kX8_left hs q1 q3 q4 i2 i5 i6 i7 i8 i9 i10 f11 f12 i69 i101) rfl [0, 1, 2] [] (q0 := 0) rfl rfl rfl rfl (by decide) rfl rfl rfl rfl (Nat.le_of_ble_eq_true rfl) (bc) (bs) (show (bc) + 0 ≤ (bc) by omega) (show (bs) + 0 ≤ (bs) by omega) (fun z102 v w hz => ?_)
    obtain ⟨rfl, rfl⟩ := hz
    show V E K mX8_isSoundNow (Qm E K mX8_isSoundNow (zX8_isSoundNow E q1 q3 q4 i2 i5 i6 i7 i8 i9 i10 f11 f12)) (bc) (bs) [(q1, .inr (9, [.int i2, .ref q3, .ref q4, .int i5, .int i6, .int i7, .int i8, .int i9, .int i10])), (q3, .inl (E.2.1, 81, .inl f11)), (q4, .inl (E.2.1, 81, .inl f12))] 65 [(0, .ref q1), (1, .int i100), (2, .int i69), (3, .int i101)] [.int z102, .int i100] _
    refine V_jn (fun (k103 : Int32 → Option (Int32)) => ∀ (i109 : Int32), V E K mX8_isSoundNow (Qm E K mX8_isSoundNow (zX8_isSoundNow E q1 q3 q4 i2 i5 i6 i7 i8 i9 i10 f11 f12)) (bc) (bs) [(q1, .inr (9, [.int i2, .ref q3, .ref q4, .int i5, .int i6, .int i7, .int i8, .int i9, .int i10])), (q3, .inl (E.2.1, 81, .inl f11)), (q4, .inl (E.2.1, 81, .inl f12))] 89 [(0, .ref q1), (2, .int i69), (3, .int i101)] [.int i109, .int i100] (k103 i109)) ?_ ?_
    · intro i109
      show V E K mX8_isSoundNow (Qm E K mX8_isSoundNow (zX8_isSoundNow E q1 q3 q4 i2 i5 i6 i7 i8 i9 i10 f11 f12)) (bc) (bs) [(q1, .inr (9, [.int i2, .ref q3, .ref q4, .int i5, .int i6, .int i7, .int i8, .int i9, .int i10])), (q3, .inl (E.2.1, 81, .inl f11)), (q4, .inl (E.2.1, 81, .inl f12))] 89 [(0, .ref q1), (2, .int i69), (3, .int i101)] [.int i109, .int i100] _
      refine V_iand (dX8_isSoundNow_p0 53 rfl) 90 rfl ?_
      refine V_nmI (fun i110 => ?_)
      refine V_istore_n (dX8_isSoundNow_p0 54 rfl) 91 rfl [(0, .ref q1), (1, .int i110), (2, .int i69), (3, .int i101)] (Nat.le_of_ble_eq_true rfl) rfl ?_
      refine V_iinc (dX8_isSoundNow_p0 55 rfl) 94 rfl 3 rfl (i101 + (1 : Int32)) rfl [(0, .ref q1), (1, .int i110), (2, .int i69), (3, .int (i101 + (1 : Int32)))] (Nat.le_of_ble_eq_true rfl) rfl ?_
      refine V_goto (dX8_isSoundNow_p0 56 rfl) 50 (by decide) ?_
      exact hrec i110 (i101 + (1 : Int32))
    · intro k103 hk104
      refine V_jn (fun (k105 : Unit → Option (Int32)) => ∀ (_ : Unit), V E K mX8_isSoundNow (Qm E K mX8_isSoundNow (zX8_isSoundNow E q1 q3 q4 i2 i5 i6 i7 i8 i9 i10 f11 f12)) (bc) (bs) [(q1, .inr (9, [.int i2, .ref q3, .ref q4, .int i5, .int i6, .int i7, .int i8, .int i9, .int i10])), (q3, .inl (E.2.1, 81, .inl f11)), (q4, .inl (E.2.1, 81, .inl f12))] 88 [(0, .ref q1), (2, .int i69), (3, .int i101)] [.int i100] (k105 ())) ?_ ?_
      · intro _
        show V E K mX8_isSoundNow (Qm E K mX8_isSoundNow (zX8_isSoundNow E q1 q3 q4 i2 i5 i6 i7 i8 i9 i10 f11 f12)) (bc) (bs) [(q1, .inr (9, [.int i2, .ref q3, .ref q4, .int i5, .int i6, .int i7, .int i8, .int i9, .int i10])), (q3, .inl (E.2.1, 81, .inl f11)), (q4, .inl (E.2.1, 81, .inl f12))] 88 [(0, .ref q1), (2, .int i69), (3, .int i101)] [.int i100] _
        refine V_iconst (0 : Int32) (by decide) (dX8_isSoundNow_p0 52 rfl) 89 rfl ?_
        exact hk104 (0 : Int32)
      · intro k105 hk106
        refine V_if_lt (dX8_isSoundNow_p0 39 rfl) 88 (by decide) 68 rfl ?_ ?_
        · refine V_pick [0, 2, 3] [(0, .ref q1), (2, .int i69), (3, .int i101)] rfl ?_
          exact hk106 ()
        · refine V_aload_n (dX8_isSoundNow_p0 40 rfl) 69 rfl 0 rfl ?_
          refine V_iload_n (dX8_isSoundNow_p0 41 rfl) 70 rfl 2 rfl ?_
          refine V_iload_n (dX8_isSoundNow_p0 42 rfl) 71 rfl 3 rfl ?_
          refine V_callV (M := mX8_isSoundNow) (wcs := [(q1, .inr (9, [.int i2, .ref q3, .ref q4, .int i5, .int i6, .int i7, .int i8, .int i9, .int i10])), (q4, .inl (E.2.1, 81, .inl f12))]) (wr := [(q3, .inl (E.2.1, 81, .inl f11))]) mf_X8_flow tw_1322 tw_1324 tw_34 ⟨Nat.le_of_ble_eq_true rfl, Nat.le_of_ble_eq_true rfl⟩ (dX8_isSoundNow_p0 43 rfl) 74 rfl (kX8_flow hs q1 q4 i2 (.ref q3) i5 i6 i7 i8 i9 i10 f12 i69 i101) rfl [0, 2] [1] (q0 := 0) rfl rfl rfl rfl (by decide) rfl rfl rfl rfl (Nat.le_of_ble_eq_true rfl) (bc) (bs) (show (bc) + 0 ≤ (bc) by omega) (show (bs) + 0 ≤ (bs) by omega) (fun z107 v w hz => ?_)
          obtain ⟨rfl, rfl⟩ := hz
          show V E K mX8_isSoundNow (Qm E K mX8_isSoundNow (zX8_isSoundNow E q1 q3 q4 i2 i5 i6 i7 i8 i9 i10 f11 f12)) (bc) (bs) [(q3, .inl (E.2.1, 81, .inl f11)), (q1, .inr (9, [.int i2, .ref q3, .ref q4, .int i5, .int i6, .int i7, .int i8, .int i9, .int i10])), (q4, .inl (E.2.1, 81, .inl f12))] 74 [(0, .ref q1), (1, .int i100), (2, .int i69), (3, .int i101)] [.int z107, .int i100] _
          refine V_aload_n (dX8_isSoundNow_p0 44 rfl) 75 rfl 0 rfl ?_
          refine V_iload_n (dX8_isSoundNow_p0 45 rfl) 76 rfl 3 rfl ?_
          refine V_iload_n (dX8_isSoundNow_p0 46 rfl) 77 rfl 2 rfl ?_
          refine V_callV (M := mX8_isSoundNow) (wcs := [(q1, .inr (9, [.int i2, .ref q3, .ref q4, .int i5, .int i6, .int i7, .int i8, .int i9, .int i10])), (q4, .inl (E.2.1, 81, .inl f12))]) (wr := [(q3, .inl (E.2.1, 81, .inl f11))]) mf_X8_flow tw_1322 tw_1324 tw_34 ⟨Nat.le_of_ble_eq_true rfl, Nat.le_of_ble_eq_true rfl⟩ (dX8_isSoundNow_p0 47 rfl) 80 rfl (kX8_flow hs q1 q4 i2 (.ref q3) i5 i6 i7 i8 i9 i10 f12 i101 i69) rfl [1, 2] [0] (q0 := 0) rfl rfl rfl rfl (by decide) rfl rfl rfl rfl (Nat.le_of_ble_eq_true rfl) (bc) (bs) (show (bc) + 0 ≤ (bc) by omega) (show (bs) + 0 ≤ (bs) by omega) (fun z108 v w hz => ?_)
          obtain ⟨rfl, rfl⟩ := hz
          show V E K mX8_isSoundNow (Qm E K mX8_isSoundNow (zX8_isSoundNow E q1 q3 q4 i2 i5 i6 i7 i8 i9 i10 f11 f12)) (bc) (bs) [(q3, .inl (E.2.1, 81, .inl f11)), (q1, .inr (9, [.int i2, .ref q3, .ref q4, .int i5, .int i6, .int i7, .int i8, .int i9, .int i10])), (q4, .inl (E.2.1, 81, .inl f12))] 80 [(0, .ref q1), (1, .int i100), (2, .int i69), (3, .int i101)] [.int z108, .int z107, .int i100] _
          refine V_ineg (dX8_isSoundNow_p0 48 rfl) 81 rfl ?_
          refine V_icmp_ne (dX8_isSoundNow_p0 49 rfl) 88 (by decide) 84 rfl ?_ ?_
          · refine V_world [1, 0, 2] [(q1, .inr (9, [.int i2, .ref q3, .ref q4, .int i5, .int i6, .int i7, .int i8, .int i9, .int i10])), (q3, .inl (E.2.1, 81, .inl f11)), (q4, .inl (E.2.1, 81, .inl f12))] rfl rfl rfl ?_
            refine V_pick [0, 2, 3] [(0, .ref q1), (2, .int i69), (3, .int i101)] rfl ?_
            exact hk106 ()
          · refine V_iconst (1 : Int32) (by decide) (dX8_isSoundNow_p0 50 rfl) 85 rfl ?_
            refine V_goto (dX8_isSoundNow_p0 51 rfl) 89 (by decide) ?_
            refine V_world [1, 0, 2] [(q1, .inr (9, [.int i2, .ref q3, .ref q4, .int i5, .int i6, .int i7, .int i8, .int i9, .int i10])), (q3, .inl (E.2.1, 81, .inl f11)), (q4, .inl (E.2.1, 81, .inl f12))] rfl rfl rfl ?_
            refine V_pick [0, 2, 3] [(0, .ref q1), (2, .int i69), (3, .int i101)] rfl ?_
            exact hk104 (1 : Int32)
set_option maxRecDepth 20000 in
theorem vLX8_isSoundNow_L50 {E : EX} {K : KX} (hs : K.l.stackTraces = false) (q1 q3 q4 : Nat) (i2 i5 i6 i7 i8 i9 i10 : Int32) (f11 f12 : Nat → Int32) (i69 : Int32) (bc bs : Nat) {k1 : Int32 → Option (Int32)} (hk1 : ∀ (i111 : Int32), V E K mX8_isSoundNow (Qm E K mX8_isSoundNow (zX8_isSoundNow E q1 q3 q4 i2 i5 i6 i7 i8 i9 i10 f11 f12)) (bc) (bs) [(q1, .inr (9, [.int i2, .ref q3, .ref q4, .int i5, .int i6, .int i7, .int i8, .int i9, .int i10])), (q3, .inl (E.2.1, 81, .inl f11)), (q4, .inl (E.2.1, 81, .inl f12))] 97 [(0, .ref q1), (1, .int i111), (2, .int i69)] [] (k1 i111)) : ∀ (n : Nat) (i100 i101 : Int32), V E K mX8_isSoundNow (Qm E K mX8_isSoundNow (zX8_isSoundNow E q1 q3 q4 i2 i5 i6 i7 i8 i9 i10 f11 f12)) (bc) (bs) [(q1, .inr (9, [.int i2, .ref q3, .ref q4, .int i5, .int i6, .int i7, .int i8, .int i9, .int i10])), (q3, .inl (E.2.1, 81, .inl f11)), (q4, .inl (E.2.1, 81, .inl f12))] 50 [(0, .ref q1), (1, .int i100), (2, .int i69), (3, .int i101)] [] (LX8_isSoundNow_L50  i2 f11 f12 i69 n i100 i101 k1)
  | 0, _, _ => V_none
  | n + 1, i100, i101 => vBX8_isSoundNow_L50 hs q1 q3 q4 i2 i5 i6 i7 i8 i9 i10 f11 f12 i69 bc bs i100 i101 (fun i100 i101 => vLX8_isSoundNow_L50 hs q1 q3 q4 i2 i5 i6 i7 i8 i9 i10 f11 f12 i69 bc bs hk1 n i100 i101) hk1
set_option maxRecDepth 20000 in
theorem vBX8_isSoundNow_L4 {E : EX} {K : KX} (hs : K.l.stackTraces = false) (q1 q3 q4 : Nat) (i2 i5 i6 i7 i8 i9 i10 : Int32) (f11 f12 : Nat → Int32) (bc bs : Nat) (i68 i69 : Int32) {rec : Int32 → Int32 → Option (Int32)} {k1 : Int32 → Option (Int32)} (hrec : ∀ (i68 i69 : Int32), V E K mX8_isSoundNow (Qm E K mX8_isSoundNow (zX8_isSoundNow E q1 q3 q4 i2 i5 i6 i7 i8 i9 i10 f11 f12)) (bc) (bs) [(q1, .inr (9, [.int i2, .ref q3, .ref q4, .int i5, .int i6, .int i7, .int i8, .int i9, .int i10])), (q3, .inl (E.2.1, 81, .inl f11)), (q4, .inl (E.2.1, 81, .inl f12))] 4 [(0, .ref q1), (1, .int i68), (2, .int i69)] [] (rec i68 i69)) (hk1 : ∀ (i112 : Int32), V E K mX8_isSoundNow (Qm E K mX8_isSoundNow (zX8_isSoundNow E q1 q3 q4 i2 i5 i6 i7 i8 i9 i10 f11 f12)) (bc) (bs) [(q1, .inr (9, [.int i2, .ref q3, .ref q4, .int i5, .int i6, .int i7, .int i8, .int i9, .int i10])), (q3, .inl (E.2.1, 81, .inl f11)), (q4, .inl (E.2.1, 81, .inl f12))] 103 [(0, .ref q1), (1, .int i112)] [] (k1 i112)) : V E K mX8_isSoundNow (Qm E K mX8_isSoundNow (zX8_isSoundNow E q1 q3 q4 i2 i5 i6 i7 i8 i9 i10 f11 f12)) (bc) (bs) [(q1, .inr (9, [.int i2, .ref q3, .ref q4, .int i5, .int i6, .int i7, .int i8, .int i9, .int i10])), (q3, .inl (E.2.1, 81, .inl f11)), (q4, .inl (E.2.1, 81, .inl f12))] 4 [(0, .ref q1), (1, .int i68), (2, .int i69)] [] (BX8_isSoundNow_L4  i2 i5 i6 f11 f12 i68 i69 rec k1) := by
  unfold BX8_isSoundNow_L4
  refine V_iload_n (dX8_isSoundNow_p0 4 rfl) 5 rfl 2 rfl ?_
  refine V_aload_n (dX8_isSoundNow_p0 5 rfl) 6 rfl 0 rfl ?_
  refine V_get gf_M_17 0 rfl rfl (dX8_isSoundNow_p0 6 rfl) 9 rfl ?_
  refine V_icmp_ge (dX8_isSoundNow_p0 7 rfl) 103 (by decide) 12 rfl ?_ ?_
  · refine V_pick [0, 1] [(0, .ref q1), (1, .int i68)] rfl ?_
    exact hk1 i68
  · refine V_iload_n (dX8_isSoundNow_p0 8 rfl) 13 rfl 1 rfl ?_
    refine V_iload_n (dX8_isSoundNow_p0 9 rfl) 14 rfl 2 rfl ?_
    refine V_aload_n (dX8_isSoundNow_p0 10 rfl) 15 rfl 0 rfl ?_
    refine V_get gf_M_27 0 rfl rfl (dX8_isSoundNow_p0 11 rfl) 18 rfl ?_
    refine V_jn (fun (k70 : Int32 → Option (Int32)) => ∀ (i75 : Int32), V E K mX8_isSoundNow (Qm E K mX8_isSoundNow (zX8_isSoundNow E q1 q3 q4 i2 i5 i6 i7 i8 i9 i10 f11 f12)) (bc) (bs) [(q1, .inr (9, [.int i2, .ref q3, .ref q4, .int i5, .int i6, .int i7, .int i8, .int i9, .int i10])), (q3, .inl (E.2.1, 81, .inl f11)), (q4, .inl (E.2.1, 81, .inl f12))] 46 [(0, .ref q1), (2, .int i69)] [.int i75, .int i68] (k70 i75)) ?_ ?_
    · intro i75
      show V E K mX8_isSoundNow (Qm E K mX8_isSoundNow (zX8_isSoundNow E q1 q3 q4 i2 i5 i6 i7 i8 i9 i10 f11 f12)) (bc) (bs) [(q1, .inr (9, [.int i2, .ref q3, .ref q4, .int i5, .int i6, .int i7, .int i8, .int i9, .int i10])), (q3, .inl (E.2.1, 81, .inl f11)), (q4, .inl (E.2.1, 81, .inl f12))] 46 [(0, .ref q1), (2, .int i69)] [.int i75, .int i68] _
      refine V_iand (dX8_isSoundNow_p0 26 rfl) 47 rfl ?_
      refine V_nmI (fun i76 => ?_)
      refine V_istore_n (dX8_isSoundNow_p0 27 rfl) 48 rfl [(0, .ref q1), (1, .int i76), (2, .int i69)] (Nat.le_of_ble_eq_true rfl) rfl ?_
      refine V_iconst (0 : Int32) (by decide) (dX8_isSoundNow_p0 28 rfl) 49 rfl ?_
      refine V_istore_n (dX8_isSoundNow_p0 29 rfl) 50 rfl [(0, .ref q1), (1, .int i76), (2, .int i69), (3, .int (0 : Int32))] (Nat.le_of_ble_eq_true rfl) rfl ?_
      refine vLX8_isSoundNow_L50 hs q1 q3 q4 i2 i5 i6 i7 i8 i9 i10 f11 f12 i69 (bc) (bs) ?_ 600 i76 (0 : Int32)
      intro i111
      show V E K mX8_isSoundNow (Qm E K mX8_isSoundNow (zX8_isSoundNow E q1 q3 q4 i2 i5 i6 i7 i8 i9 i10 f11 f12)) (bc) (bs) [(q1, .inr (9, [.int i2, .ref q3, .ref q4, .int i5, .int i6, .int i7, .int i8, .int i9, .int i10])), (q3, .inl (E.2.1, 81, .inl f11)), (q4, .inl (E.2.1, 81, .inl f12))] 97 [(0, .ref q1), (1, .int i111), (2, .int i69)] [] _
      refine V_iinc (dX8_isSoundNow_p0 57 rfl) 100 rfl 2 rfl (i69 + (1 : Int32)) rfl [(0, .ref q1), (1, .int i111), (2, .int (i69 + (1 : Int32)))] (Nat.le_of_ble_eq_true rfl) rfl ?_
      refine V_goto (dX8_isSoundNow_p0 58 rfl) 4 (by decide) ?_
      exact hrec i111 (i69 + (1 : Int32))
    · intro k70 hk71
      refine V_jn (fun (k72 : Unit → Option (Int32)) => ∀ (_ : Unit), V E K mX8_isSoundNow (Qm E K mX8_isSoundNow (zX8_isSoundNow E q1 q3 q4 i2 i5 i6 i7 i8 i9 i10 f11 f12)) (bc) (bs) [(q1, .inr (9, [.int i2, .ref q3, .ref q4, .int i5, .int i6, .int i7, .int i8, .int i9, .int i10])), (q3, .inl (E.2.1, 81, .inl f11)), (q4, .inl (E.2.1, 81, .inl f12))] 41 [(0, .ref q1), (2, .int i69)] [.int i68] (k72 ())) ?_ ?_
      · intro _
        show V E K mX8_isSoundNow (Qm E K mX8_isSoundNow (zX8_isSoundNow E q1 q3 q4 i2 i5 i6 i7 i8 i9 i10 f11 f12)) (bc) (bs) [(q1, .inr (9, [.int i2, .ref q3, .ref q4, .int i5, .int i6, .int i7, .int i8, .int i9, .int i10])), (q3, .inl (E.2.1, 81, .inl f11)), (q4, .inl (E.2.1, 81, .inl f12))] 41 [(0, .ref q1), (2, .int i69)] [.int i68] _
        refine V_iconst (1 : Int32) (by decide) (dX8_isSoundNow_p0 23 rfl) 42 rfl ?_
        refine V_goto (dX8_isSoundNow_p0 24 rfl) 46 (by decide) ?_
        exact hk71 (1 : Int32)
      · intro k72 hk73
        refine V_icmp_eq (dX8_isSoundNow_p0 12 rfl) 41 (by decide) 21 rfl ?_ ?_
        · refine V_pick [0, 2] [(0, .ref q1), (2, .int i69)] rfl ?_
          exact hk73 ()
        · refine V_iload_n (dX8_isSoundNow_p0 13 rfl) 22 rfl 2 rfl ?_
          refine V_aload_n (dX8_isSoundNow_p0 14 rfl) 23 rfl 0 rfl ?_
          refine V_get gf_M_30 0 rfl rfl (dX8_isSoundNow_p0 15 rfl) 26 rfl ?_
          refine V_icmp_eq (dX8_isSoundNow_p0 16 rfl) 41 (by decide) 29 rfl ?_ ?_
          · refine V_pick [0, 2] [(0, .ref q1), (2, .int i69)] rfl ?_
            exact hk73 ()
          · refine V_aload_n (dX8_isSoundNow_p0 17 rfl) 30 rfl 0 rfl ?_
            refine V_aload_n (dX8_isSoundNow_p0 18 rfl) 31 rfl 0 rfl ?_
            refine V_get gf_M_24 0 rfl rfl (dX8_isSoundNow_p0 19 rfl) 34 rfl ?_
            refine V_iload_n (dX8_isSoundNow_p0 20 rfl) 35 rfl 2 rfl ?_
            refine V_callV (M := mX8_isSoundNow) (wcs := [(q1, .inr (9, [.int i2, .ref q3, .ref q4, .int i5, .int i6, .int i7, .int i8, .int i9, .int i10])), (q4, .inl (E.2.1, 81, .inl f12))]) (wr := [(q3, .inl (E.2.1, 81, .inl f11))]) mf_X8_fromPlace tw_1307 tw_1309 tw_32 ⟨Nat.le_of_ble_eq_true rfl, Nat.le_of_ble_eq_true rfl⟩ (dX8_isSoundNow_p0 21 rfl) 38 rfl (kX8_fromPlace hs q1 q4 i2 (.ref q3) (.ref q4) i5 i6 i7 i8 i9 i10 f12 i69) rfl [0, 2] [1] (q0 := 0) rfl rfl rfl rfl (by decide) rfl rfl rfl rfl (Nat.le_of_ble_eq_true rfl) (bc) (bs) (show (bc) + 0 ≤ (bc) by omega) (show (bs) + 0 ≤ (bs) by omega) (fun z74 v w hz => ?_)
            obtain ⟨rfl, rfl⟩ := hz
            show V E K mX8_isSoundNow (Qm E K mX8_isSoundNow (zX8_isSoundNow E q1 q3 q4 i2 i5 i6 i7 i8 i9 i10 f11 f12)) (bc) (bs) [(q3, .inl (E.2.1, 81, .inl f11)), (q1, .inr (9, [.int i2, .ref q3, .ref q4, .int i5, .int i6, .int i7, .int i8, .int i9, .int i10])), (q4, .inl (E.2.1, 81, .inl f12))] 38 [(0, .ref q1), (1, .int i68), (2, .int i69)] [.int z74, .int i68] _
            refine V_if_ne (dX8_isSoundNow_p0 22 rfl) 45 (by decide) 41 rfl ?_ ?_
            · refine V_iconst (0 : Int32) (by decide) (dX8_isSoundNow_p0 25 rfl) 46 rfl ?_
              refine V_world [1, 0, 2] [(q1, .inr (9, [.int i2, .ref q3, .ref q4, .int i5, .int i6, .int i7, .int i8, .int i9, .int i10])), (q3, .inl (E.2.1, 81, .inl f11)), (q4, .inl (E.2.1, 81, .inl f12))] rfl rfl rfl ?_
              refine V_pick [0, 2] [(0, .ref q1), (2, .int i69)] rfl ?_
              exact hk71 (0 : Int32)
            · refine V_world [1, 0, 2] [(q1, .inr (9, [.int i2, .ref q3, .ref q4, .int i5, .int i6, .int i7, .int i8, .int i9, .int i10])), (q3, .inl (E.2.1, 81, .inl f11)), (q4, .inl (E.2.1, 81, .inl f12))] rfl rfl rfl ?_
              refine V_pick [0, 2] [(0, .ref q1), (2, .int i69)] rfl ?_
              exact hk73 ()
set_option maxRecDepth 20000 in
theorem vLX8_isSoundNow_L4 {E : EX} {K : KX} (hs : K.l.stackTraces = false) (q1 q3 q4 : Nat) (i2 i5 i6 i7 i8 i9 i10 : Int32) (f11 f12 : Nat → Int32) (bc bs : Nat) {k1 : Int32 → Option (Int32)} (hk1 : ∀ (i112 : Int32), V E K mX8_isSoundNow (Qm E K mX8_isSoundNow (zX8_isSoundNow E q1 q3 q4 i2 i5 i6 i7 i8 i9 i10 f11 f12)) (bc) (bs) [(q1, .inr (9, [.int i2, .ref q3, .ref q4, .int i5, .int i6, .int i7, .int i8, .int i9, .int i10])), (q3, .inl (E.2.1, 81, .inl f11)), (q4, .inl (E.2.1, 81, .inl f12))] 103 [(0, .ref q1), (1, .int i112)] [] (k1 i112)) : ∀ (n : Nat) (i68 i69 : Int32), V E K mX8_isSoundNow (Qm E K mX8_isSoundNow (zX8_isSoundNow E q1 q3 q4 i2 i5 i6 i7 i8 i9 i10 f11 f12)) (bc) (bs) [(q1, .inr (9, [.int i2, .ref q3, .ref q4, .int i5, .int i6, .int i7, .int i8, .int i9, .int i10])), (q3, .inl (E.2.1, 81, .inl f11)), (q4, .inl (E.2.1, 81, .inl f12))] 4 [(0, .ref q1), (1, .int i68), (2, .int i69)] [] (LX8_isSoundNow_L4  i2 i5 i6 f11 f12 n i68 i69 k1)
  | 0, _, _ => V_none
  | n + 1, i68, i69 => vBX8_isSoundNow_L4 hs q1 q3 q4 i2 i5 i6 i7 i8 i9 i10 f11 f12 bc bs i68 i69 (fun i68 i69 => vLX8_isSoundNow_L4 hs q1 q3 q4 i2 i5 i6 i7 i8 i9 i10 f11 f12 bc bs hk1 n i68 i69) hk1
set_option maxRecDepth 20000 in
theorem vBX8_isSoundNow_L158 {E : EX} {K : KX} (hs : K.l.stackTraces = false) (q1 q3 q4 : Nat) (i2 i5 i6 i7 i8 i9 i10 : Int32) (f11 f12 : Nat → Int32) (i154 : Int32) (bc bs : Nat) (i153 i155 : Int32) {rec : Int32 → Int32 → Option (Int32)} {k1 : Int32 → Option (Int32)} (hrec : ∀ (i153 i155 : Int32), V E K mX8_isSoundNow (Qm E K mX8_isSoundNow (zX8_isSoundNow E q1 q3 q4 i2 i5 i6 i7 i8 i9 i10 f11 f12)) (bc) (bs) [(q1, .inr (9, [.int i2, .ref q3, .ref q4, .int i5, .int i6, .int i7, .int i8, .int i9, .int i10])), (q3, .inl (E.2.1, 81, .inl f11)), (q4, .inl (E.2.1, 81, .inl f12))] 158 [(0, .ref q1), (1, .int i153), (2, .int i154), (3, .int i155)] [] (rec i153 i155)) (hk1 : ∀ (i166 : Int32), V E K mX8_isSoundNow (Qm E K mX8_isSoundNow (zX8_isSoundNow E q1 q3 q4 i2 i5 i6 i7 i8 i9 i10 f11 f12)) (bc) (bs) [(q1, .inr (9, [.int i2, .ref q3, .ref q4, .int i5, .int i6, .int i7, .int i8, .int i9, .int i10])), (q3, .inl (E.2.1, 81, .inl f11)), (q4, .inl (E.2.1, 81, .inl f12))] 213 [(0, .ref q1), (1, .int i166), (2, .int i154)] [] (k1 i166)) : V E K mX8_isSoundNow (Qm E K mX8_isSoundNow (zX8_isSoundNow E q1 q3 q4 i2 i5 i6 i7 i8 i9 i10 f11 f12)) (bc) (bs) [(q1, .inr (9, [.int i2, .ref q3, .ref q4, .int i5, .int i6, .int i7, .int i8, .int i9, .int i10])), (q3, .inl (E.2.1, 81, .inl f11)), (q4, .inl (E.2.1, 81, .inl f12))] 158 [(0, .ref q1), (1, .int i153), (2, .int i154), (3, .int i155)] [] (BX8_isSoundNow_L158  i2 i5 i6 f12 i153 i155 rec k1) := by
  unfold BX8_isSoundNow_L158
  refine V_iload_n (dX8_isSoundNow_p1 20 rfl) 159 rfl 3 rfl ?_
  refine V_iconst (1 : Int32) (by decide) (dX8_isSoundNow_p1 21 rfl) 160 rfl ?_
  refine V_aload_n (dX8_isSoundNow_p1 22 rfl) 161 rfl 0 rfl ?_
  refine V_get gf_M_17 0 rfl rfl (dX8_isSoundNow_p1 23 rfl) 164 rfl ?_
  refine V_ishl (dX8_isSoundNow_p1 24 rfl) 165 rfl ?_
  refine V_icmp_ge (dX8_isSoundNow_p1 25 rfl) 213 (by decide) 168 rfl ?_ ?_
  · refine V_pick [0, 1, 2] [(0, .ref q1), (1, .int i153), (2, .int i154)] rfl ?_
    exact hk1 i153
  · refine V_iload_n (dX8_isSoundNow_p1 26 rfl) 169 rfl 3 rfl ?_
    refine V_aload_n (dX8_isSoundNow_p1 27 rfl) 170 rfl 0 rfl ?_
    refine V_get gf_M_27 0 rfl rfl (dX8_isSoundNow_p1 28 rfl) 173 rfl ?_
    refine V_aload_n (dX8_isSoundNow_p1 29 rfl) 174 rfl 0 rfl ?_
    refine V_get gf_M_30 0 rfl rfl (dX8_isSoundNow_p1 30 rfl) 177 rfl ?_
    refine V_callS (M := mX8_isSoundNow) (wcs := []) (wr := [(q1, .inr (9, [.int i2, .ref q3, .ref q4, .int i5, .int i6, .int i7, .int i8, .int i9, .int i10])), (q3, .inl (E.2.1, 81, .inl f11)), (q4, .inl (E.2.1, 81, .inl f12))]) mf_X8_isCut tw_1479 tw_1480 ⟨Nat.le_of_ble_eq_true rfl, Nat.le_of_ble_eq_true rfl⟩ (dX8_isSoundNow_p1 31 rfl) 180 rfl (kX8_isCut hs i155 i5 i6) rfl [] [0, 1, 2] rfl rfl rfl rfl (by decide) rfl (Nat.le_of_ble_eq_true rfl) (bc) (bs) (show (bc) + 0 ≤ (bc) by omega) (show (bs) + 0 ≤ (bs) by omega) (fun z156 v w hz => ?_)
    obtain ⟨rfl, rfl⟩ := hz
    show V E K mX8_isSoundNow (Qm E K mX8_isSoundNow (zX8_isSoundNow E q1 q3 q4 i2 i5 i6 i7 i8 i9 i10 f11 f12)) (bc) (bs) [(q1, .inr (9, [.int i2, .ref q3, .ref q4, .int i5, .int i6, .int i7, .int i8, .int i9, .int i10])), (q3, .inl (E.2.1, 81, .inl f11)), (q4, .inl (E.2.1, 81, .inl f12))] 180 [(0, .ref q1), (1, .int i153), (2, .int i154), (3, .int i155)] [.int z156] _
    refine V_jn (fun (k157 : Int32 → Option (Int32)) => ∀ (i165 : Int32), V E K mX8_isSoundNow (Qm E K mX8_isSoundNow (zX8_isSoundNow E q1 q3 q4 i2 i5 i6 i7 i8 i9 i10 f11 f12)) (bc) (bs) [(q1, .inr (9, [.int i2, .ref q3, .ref q4, .int i5, .int i6, .int i7, .int i8, .int i9, .int i10])), (q3, .inl (E.2.1, 81, .inl f11)), (q4, .inl (E.2.1, 81, .inl f12))] 207 [(0, .ref q1), (1, .int i165), (2, .int i154), (3, .int i155)] [] (k157 i165)) ?_ ?_
    · intro i165
      show V E K mX8_isSoundNow (Qm E K mX8_isSoundNow (zX8_isSoundNow E q1 q3 q4 i2 i5 i6 i7 i8 i9 i10 f11 f12)) (bc) (bs) [(q1, .inr (9, [.int i2, .ref q3, .ref q4, .int i5, .int i6, .int i7, .int i8, .int i9, .int i10])), (q3, .inl (E.2.1, 81, .inl f11)), (q4, .inl (E.2.1, 81, .inl f12))] 207 [(0, .ref q1), (1, .int i165), (2, .int i154), (3, .int i155)] [] _
      refine V_iinc (dX8_isSoundNow_p1 47 rfl) 210 rfl 3 rfl (i155 + (1 : Int32)) rfl [(0, .ref q1), (1, .int i165), (2, .int i154), (3, .int (i155 + (1 : Int32)))] (Nat.le_of_ble_eq_true rfl) rfl ?_
      refine V_goto (dX8_isSoundNow_p1 48 rfl) 158 (by decide) ?_
      exact hrec i165 (i155 + (1 : Int32))
    · intro k157 hk158
      refine V_if_eq (dX8_isSoundNow_p1 32 rfl) 207 (by decide) 183 rfl ?_ ?_
      · exact hk158 i153
      · refine V_iload_n (dX8_isSoundNow_p1 33 rfl) 184 rfl 1 rfl ?_
        refine V_aload_n (dX8_isSoundNow_p1 34 rfl) 185 rfl 0 rfl ?_
        refine V_aload_n (dX8_isSoundNow_p1 35 rfl) 186 rfl 0 rfl ?_
        refine V_get gf_M_24 0 rfl rfl (dX8_isSoundNow_p1 36 rfl) 189 rfl ?_
        refine V_iload_n (dX8_isSoundNow_p1 37 rfl) 190 rfl 3 rfl ?_
        refine V_callV (M := mX8_isSoundNow) (wcs := [(q1, .inr (9, [.int i2, .ref q3, .ref q4, .int i5, .int i6, .int i7, .int i8, .int i9, .int i10])), (q4, .inl (E.2.1, 81, .inl f12))]) (wr := [(q3, .inl (E.2.1, 81, .inl f11))]) mf_X8_through tw_1482 tw_1484 tw_52 ⟨Nat.le_of_ble_eq_true rfl, Nat.le_of_ble_eq_true rfl⟩ (dX8_isSoundNow_p1 38 rfl) 193 rfl (kX8_through hs q1 q4 i2 (.ref q3) (.ref q4) i5 i6 i7 i8 i9 i10 f12 i155) rfl [0, 2] [1] (q0 := 0) rfl rfl rfl rfl (by decide) rfl rfl rfl rfl (Nat.le_of_ble_eq_true rfl) (bc) (bs) (show (bc) + 0 ≤ (bc) by omega) (show (bs) + 0 ≤ (bs) by omega) (fun z159 v w hz => ?_)
        obtain ⟨rfl, rfl⟩ := hz
        show V E K mX8_isSoundNow (Qm E K mX8_isSoundNow (zX8_isSoundNow E q1 q3 q4 i2 i5 i6 i7 i8 i9 i10 f11 f12)) (bc) (bs) [(q3, .inl (E.2.1, 81, .inl f11)), (q1, .inr (9, [.int i2, .ref q3, .ref q4, .int i5, .int i6, .int i7, .int i8, .int i9, .int i10])), (q4, .inl (E.2.1, 81, .inl f12))] 193 [(0, .ref q1), (1, .int i153), (2, .int i154), (3, .int i155)] [.int z159, .int i153] _
        refine V_aload_n (dX8_isSoundNow_p1 39 rfl) 194 rfl 0 rfl ?_
        refine V_callV (M := mX8_isSoundNow) (wcs := [(q1, .inr (9, [.int i2, .ref q3, .ref q4, .int i5, .int i6, .int i7, .int i8, .int i9, .int i10])), (q4, .inl (E.2.1, 81, .inl f12))]) (wr := [(q3, .inl (E.2.1, 81, .inl f11))]) mf_X8_valueNow tw_1303 tw_1305 tw_31 ⟨Nat.le_of_ble_eq_true rfl, Nat.le_of_ble_eq_true rfl⟩ (dX8_isSoundNow_p1 40 rfl) 197 rfl (kX8_valueNow hs q1 q4 i2 (.ref q3) i5 i6 i7 i8 i9 i10 f12) rfl [1, 2] [0] (q0 := 0) rfl rfl rfl rfl (by decide) rfl rfl rfl rfl (Nat.le_of_ble_eq_true rfl) (bc) (bs) (show (bc) + 0 ≤ (bc) by omega) (show (bs) + 0 ≤ (bs) by omega) (fun z160 v w hz => ?_)
        obtain ⟨rfl, rfl⟩ := hz
        show V E K mX8_isSoundNow (Qm E K mX8_isSoundNow (zX8_isSoundNow E q1 q3 q4 i2 i5 i6 i7 i8 i9 i10 f11 f12)) (bc) (bs) [(q3, .inl (E.2.1, 81, .inl f11)), (q1, .inr (9, [.int i2, .ref q3, .ref q4, .int i5, .int i6, .int i7, .int i8, .int i9, .int i10])), (q4, .inl (E.2.1, 81, .inl f12))] 197 [(0, .ref q1), (1, .int i153), (2, .int i154), (3, .int i155)] [.int z160, .int z159, .int i153] _
        refine V_jn (fun (k161 : Int32 → Option (Int32)) => ∀ (i163 : Int32), V E K mX8_isSoundNow (Qm E K mX8_isSoundNow (zX8_isSoundNow E q1 q3 q4 i2 i5 i6 i7 i8 i9 i10 f11 f12)) (bc) (bs) [(q1, .inr (9, [.int i2, .ref q3, .ref q4, .int i5, .int i6, .int i7, .int i8, .int i9, .int i10])), (q3, .inl (E.2.1, 81, .inl f11)), (q4, .inl (E.2.1, 81, .inl f12))] 205 [(0, .ref q1), (2, .int i154), (3, .int i155)] [.int i163, .int i153] (k161 i163)) ?_ ?_
        · intro i163
          show V E K mX8_isSoundNow (Qm E K mX8_isSoundNow (zX8_isSoundNow E q1 q3 q4 i2 i5 i6 i7 i8 i9 i10 f11 f12)) (bc) (bs) [(q1, .inr (9, [.int i2, .ref q3, .ref q4, .int i5, .int i6, .int i7, .int i8, .int i9, .int i10])), (q3, .inl (E.2.1, 81, .inl f11)), (q4, .inl (E.2.1, 81, .inl f12))] 205 [(0, .ref q1), (2, .int i154), (3, .int i155)] [.int i163, .int i153] _
          refine V_iand (dX8_isSoundNow_p1 45 rfl) 206 rfl ?_
          refine V_nmI (fun i164 => ?_)
          refine V_istore_n (dX8_isSoundNow_p1 46 rfl) 207 rfl [(0, .ref q1), (1, .int i164), (2, .int i154), (3, .int i155)] (Nat.le_of_ble_eq_true rfl) rfl ?_
          exact hk158 i164
        · intro k161 hk162
          refine V_icmp_ne (dX8_isSoundNow_p1 41 rfl) 204 (by decide) 200 rfl ?_ ?_
          · refine V_iconst (0 : Int32) (by decide) (dX8_isSoundNow_p1 44 rfl) 205 rfl ?_
            refine V_world [1, 0, 2] [(q1, .inr (9, [.int i2, .ref q3, .ref q4, .int i5, .int i6, .int i7, .int i8, .int i9, .int i10])), (q3, .inl (E.2.1, 81, .inl f11)), (q4, .inl (E.2.1, 81, .inl f12))] rfl rfl rfl ?_
            refine V_pick [0, 2, 3] [(0, .ref q1), (2, .int i154), (3, .int i155)] rfl ?_
            exact hk162 (0 : Int32)
          · refine V_iconst (1 : Int32) (by decide) (dX8_isSoundNow_p1 42 rfl) 201 rfl ?_
            refine V_goto (dX8_isSoundNow_p1 43 rfl) 205 (by decide) ?_
            refine V_world [1, 0, 2] [(q1, .inr (9, [.int i2, .ref q3, .ref q4, .int i5, .int i6, .int i7, .int i8, .int i9, .int i10])), (q3, .inl (E.2.1, 81, .inl f11)), (q4, .inl (E.2.1, 81, .inl f12))] rfl rfl rfl ?_
            refine V_pick [0, 2, 3] [(0, .ref q1), (2, .int i154), (3, .int i155)] rfl ?_
            exact hk162 (1 : Int32)
set_option maxRecDepth 20000 in
theorem vLX8_isSoundNow_L158 {E : EX} {K : KX} (hs : K.l.stackTraces = false) (q1 q3 q4 : Nat) (i2 i5 i6 i7 i8 i9 i10 : Int32) (f11 f12 : Nat → Int32) (i154 : Int32) (bc bs : Nat) {k1 : Int32 → Option (Int32)} (hk1 : ∀ (i166 : Int32), V E K mX8_isSoundNow (Qm E K mX8_isSoundNow (zX8_isSoundNow E q1 q3 q4 i2 i5 i6 i7 i8 i9 i10 f11 f12)) (bc) (bs) [(q1, .inr (9, [.int i2, .ref q3, .ref q4, .int i5, .int i6, .int i7, .int i8, .int i9, .int i10])), (q3, .inl (E.2.1, 81, .inl f11)), (q4, .inl (E.2.1, 81, .inl f12))] 213 [(0, .ref q1), (1, .int i166), (2, .int i154)] [] (k1 i166)) : ∀ (n : Nat) (i153 i155 : Int32), V E K mX8_isSoundNow (Qm E K mX8_isSoundNow (zX8_isSoundNow E q1 q3 q4 i2 i5 i6 i7 i8 i9 i10 f11 f12)) (bc) (bs) [(q1, .inr (9, [.int i2, .ref q3, .ref q4, .int i5, .int i6, .int i7, .int i8, .int i9, .int i10])), (q3, .inl (E.2.1, 81, .inl f11)), (q4, .inl (E.2.1, 81, .inl f12))] 158 [(0, .ref q1), (1, .int i153), (2, .int i154), (3, .int i155)] [] (LX8_isSoundNow_L158  i2 i5 i6 f12 n i153 i155 k1)
  | 0, _, _ => V_none
  | n + 1, i153, i155 => vBX8_isSoundNow_L158 hs q1 q3 q4 i2 i5 i6 i7 i8 i9 i10 f11 f12 i154 bc bs i153 i155 (fun i153 i155 => vLX8_isSoundNow_L158 hs q1 q3 q4 i2 i5 i6 i7 i8 i9 i10 f11 f12 i154 bc bs hk1 n i153 i155) hk1
set_option maxRecDepth 20000 in
theorem kX8_isSoundNow {E : EX} {l : Launch} (hl : l.stackTraces = false) (q1 q3 q4 : Nat) (i2 i5 i6 i7 i8 i9 i10 : Int32) (f11 f12 : Nat → Int32) : Ct E l mX8_isSoundNow [.ref q1] [(q1, .inr (9, [.int i2, .ref q3, .ref q4, .int i5, .int i6, .int i7, .int i8, .int i9, .int i10])), (q3, .inl (E.2.1, 81, .inl f11)), (q4, .inl (E.2.1, 81, .inl f12))] (fX8_isSoundNow i2 i5 i6 f11 f12) (zX8_isSoundNow E q1 q3 q4 i2 i5 i6 i7 i8 i9 i10 f11 f12) := Ct_of hl mf_X8_isSoundNow.1 (Nat.le_of_ble_eq_true rfl) (fun K hs => by
  refine V_less 131 2161 (Nat.le_refl _) (Nat.le_refl _) ?_
  refine V_pick [0] [(0, .ref q1)] rfl ?_
  unfold fX8_isSoundNow
  refine V_iconst (1 : Int32) (by decide) (dX8_isSoundNow_p0 0 rfl) 1 rfl ?_
  refine V_istore_n (dX8_isSoundNow_p0 1 rfl) 2 rfl [(0, .ref q1), (1, .int (1 : Int32))] (Nat.le_of_ble_eq_true rfl) rfl ?_
  refine V_iconst (0 : Int32) (by decide) (dX8_isSoundNow_p0 2 rfl) 3 rfl ?_
  refine V_istore_n (dX8_isSoundNow_p0 3 rfl) 4 rfl [(0, .ref q1), (1, .int (1 : Int32)), (2, .int (0 : Int32))] (Nat.le_of_ble_eq_true rfl) rfl ?_
  refine vLX8_isSoundNow_L4 hs q1 q3 q4 i2 i5 i6 i7 i8 i9 i10 f11 f12 131 2161 ?_ 600 (1 : Int32) (0 : Int32)
  intro i112
  show V E K mX8_isSoundNow (Qm E K mX8_isSoundNow (zX8_isSoundNow E q1 q3 q4 i2 i5 i6 i7 i8 i9 i10 f11 f12)) 131 2161 [(q1, .inr (9, [.int i2, .ref q3, .ref q4, .int i5, .int i6, .int i7, .int i8, .int i9, .int i10])), (q3, .inl (E.2.1, 81, .inl f11)), (q4, .inl (E.2.1, 81, .inl f12))] 103 [(0, .ref q1), (1, .int i112)] [] _
  refine V_aload_n (dX8_isSoundNow_p0 59 rfl) 104 rfl 0 rfl ?_
  refine V_callV (M := mX8_isSoundNow) (wcs := [(q1, .inr (9, [.int i2, .ref q3, .ref q4, .int i5, .int i6, .int i7, .int i8, .int i9, .int i10])), (q3, .inl (E.2.1, 81, .inl f11))]) (wr := [(q4, .inl (E.2.1, 81, .inl f12))]) mf_X8_leastNow tw_1490 tw_1492 tw_53 ⟨Nat.le_of_ble_eq_true rfl, Nat.le_of_ble_eq_true rfl⟩ (dX8_isSoundNow_p0 60 rfl) 107 rfl (kX8_leastNow hs q1 q3 i2 (.ref q4) i5 i6 i7 i8 i9 i10 f11) rfl [0, 1] [2] (q0 := 0) rfl rfl rfl rfl (by decide) rfl rfl rfl rfl (Nat.le_of_ble_eq_true rfl) 131 2161 (show 131 + 0 ≤ 131 from Nat.le_of_ble_eq_true rfl) (show 2161 + 0 ≤ 2161 from Nat.le_of_ble_eq_true rfl) (fun z113 v w hz => ?_)
  obtain ⟨rfl, rfl⟩ := hz
  show V E K mX8_isSoundNow (Qm E K mX8_isSoundNow (zX8_isSoundNow E q1 q3 q4 i2 i5 i6 i7 i8 i9 i10 f11 f12)) 131 2161 [(q4, .inl (E.2.1, 81, .inl f12)), (q1, .inr (9, [.int i2, .ref q3, .ref q4, .int i5, .int i6, .int i7, .int i8, .int i9, .int i10])), (q3, .inl (E.2.1, 81, .inl f11))] 107 [(0, .ref q1), (1, .int i112)] [.int z113] _
  refine V_istore_n (dX8_isSoundNow_p0 61 rfl) 108 rfl [(0, .ref q1), (1, .int i112), (2, .int z113)] (Nat.le_of_ble_eq_true rfl) rfl ?_
  refine V_iload_n (dX8_isSoundNow_p0 62 rfl) 109 rfl 1 rfl ?_
  refine V_aload_n (dX8_isSoundNow_p0 63 rfl) 110 rfl 0 rfl ?_
  refine V_callV (M := mX8_isSoundNow) (wcs := [(q1, .inr (9, [.int i2, .ref q3, .ref q4, .int i5, .int i6, .int i7, .int i8, .int i9, .int i10])), (q4, .inl (E.2.1, 81, .inl f12))]) (wr := [(q3, .inl (E.2.1, 81, .inl f11))]) mf_X8_valueNow tw_1303 tw_1305 tw_31 ⟨Nat.le_of_ble_eq_true rfl, Nat.le_of_ble_eq_true rfl⟩ (dX8_isSoundNow_p0 64 rfl) 113 rfl (kX8_valueNow hs q1 q4 i2 (.ref q3) i5 i6 i7 i8 i9 i10 f12) rfl [1, 0] [2] (q0 := 0) rfl rfl rfl rfl (by decide) rfl rfl rfl rfl (Nat.le_of_ble_eq_true rfl) 131 2161 (show 131 + 0 ≤ 131 from Nat.le_of_ble_eq_true rfl) (show 2161 + 0 ≤ 2161 from Nat.le_of_ble_eq_true rfl) (fun z114 v w hz => ?_)
  obtain ⟨rfl, rfl⟩ := hz
  show V E K mX8_isSoundNow (Qm E K mX8_isSoundNow (zX8_isSoundNow E q1 q3 q4 i2 i5 i6 i7 i8 i9 i10 f11 f12)) 131 2161 [(q3, .inl (E.2.1, 81, .inl f11)), (q1, .inr (9, [.int i2, .ref q3, .ref q4, .int i5, .int i6, .int i7, .int i8, .int i9, .int i10])), (q4, .inl (E.2.1, 81, .inl f12))] 113 [(0, .ref q1), (1, .int i112), (2, .int z113)] [.int z114, .int i112] _
  refine V_iload_n (dX8_isSoundNow_p0 65 rfl) 114 rfl 2 rfl ?_
  refine V_jn (fun (k115 : Int32 → Option (Int32)) => ∀ (i127 : Int32), V E K mX8_isSoundNow (Qm E K mX8_isSoundNow (zX8_isSoundNow E q1 q3 q4 i2 i5 i6 i7 i8 i9 i10 f11 f12)) 131 2161 [(q1, .inr (9, [.int i2, .ref q3, .ref q4, .int i5, .int i6, .int i7, .int i8, .int i9, .int i10])), (q3, .inl (E.2.1, 81, .inl f11)), (q4, .inl (E.2.1, 81, .inl f12))] 154 [(0, .ref q1), (2, .int z113)] [.int i127, .int i112] (k115 i127)) ?_ ?_
  · intro i127
    show V E K mX8_isSoundNow (Qm E K mX8_isSoundNow (zX8_isSoundNow E q1 q3 q4 i2 i5 i6 i7 i8 i9 i10 f11 f12)) 131 2161 [(q1, .inr (9, [.int i2, .ref q3, .ref q4, .int i5, .int i6, .int i7, .int i8, .int i9, .int i10])), (q3, .inl (E.2.1, 81, .inl f11)), (q4, .inl (E.2.1, 81, .inl f12))] 154 [(0, .ref q1), (2, .int z113)] [.int i127, .int i112] _
    refine V_iand (dX8_isSoundNow_p1 16 rfl) 155 rfl ?_
    refine V_nmI (fun i128 => ?_)
    refine V_istore_n (dX8_isSoundNow_p1 17 rfl) 156 rfl [(0, .ref q1), (1, .int i128), (2, .int z113)] (Nat.le_of_ble_eq_true rfl) rfl ?_
    refine V_iconst (0 : Int32) (by decide) (dX8_isSoundNow_p1 18 rfl) 157 rfl ?_
    refine V_istore_n (dX8_isSoundNow_p1 19 rfl) 158 rfl [(0, .ref q1), (1, .int i128), (2, .int z113), (3, .int (0 : Int32))] (Nat.le_of_ble_eq_true rfl) rfl ?_
    refine vLX8_isSoundNow_L158 hs q1 q3 q4 i2 i5 i6 i7 i8 i9 i10 f11 f12 z113 131 2161 ?_ 600 i128 (0 : Int32)
    intro i166
    show V E K mX8_isSoundNow (Qm E K mX8_isSoundNow (zX8_isSoundNow E q1 q3 q4 i2 i5 i6 i7 i8 i9 i10 f11 f12)) 131 2161 [(q1, .inr (9, [.int i2, .ref q3, .ref q4, .int i5, .int i6, .int i7, .int i8, .int i9, .int i10])), (q3, .inl (E.2.1, 81, .inl f11)), (q4, .inl (E.2.1, 81, .inl f12))] 213 [(0, .ref q1), (1, .int i166), (2, .int z113)] [] _
    refine V_iload_n (dX8_isSoundNow_p1 49 rfl) 214 rfl 1 rfl ?_
    refine V_if_eq (dX8_isSoundNow_p1 50 rfl) 267 (by decide) 217 rfl ?_ ?_
    · refine V_iconst (0 : Int32) (by decide) (dX8_isSoundNow_p2 7 rfl) 268 rfl ?_
      exact V_zret rfl (by decide) (dX8_isSoundNow_p2 8 rfl) ⟨rfl, rfl⟩
    · refine V_aload_n (dX8_isSoundNow_p1 51 rfl) 218 rfl 0 rfl ?_
      refine V_aload_n (dX8_isSoundNow_p1 52 rfl) 219 rfl 0 rfl ?_
      refine V_get gf_M_20 0 rfl rfl (dX8_isSoundNow_p1 53 rfl) 222 rfl ?_
      refine V_aload_n (dX8_isSoundNow_p1 54 rfl) 223 rfl 0 rfl ?_
      refine V_iconst (0 : Int32) (by decide) (dX8_isSoundNow_p1 55 rfl) 224 rfl ?_
      refine V_callV (M := mX8_isSoundNow) (wcs := [(q1, .inr (9, [.int i2, .ref q3, .ref q4, .int i5, .int i6, .int i7, .int i8, .int i9, .int i10])), (q3, .inl (E.2.1, 81, .inl f11))]) (wr := [(q4, .inl (E.2.1, 81, .inl f12))]) mf_X8_endNow tw_1518 tw_1520 tw_56 ⟨Nat.le_of_ble_eq_true rfl, Nat.le_of_ble_eq_true rfl⟩ (dX8_isSoundNow_p1 56 rfl) 227 rfl (kX8_endNow hs q1 q3 i2 (.ref q4) i5 i6 i7 i8 i9 i10 f11 (0 : Int32)) rfl [0, 1] [2] (q0 := 0) rfl rfl rfl rfl (by decide) rfl rfl rfl rfl (Nat.le_of_ble_eq_true rfl) 131 2161 (show 131 + 0 ≤ 131 from Nat.le_of_ble_eq_true rfl) (show 2161 + 0 ≤ 2161 from Nat.le_of_ble_eq_true rfl) (fun z167 v w hz => ?_)
      obtain ⟨rfl, rfl⟩ := hz
      show V E K mX8_isSoundNow (Qm E K mX8_isSoundNow (zX8_isSoundNow E q1 q3 q4 i2 i5 i6 i7 i8 i9 i10 f11 f12)) 131 2161 [(q4, .inl (E.2.1, 81, .inl f12)), (q1, .inr (9, [.int i2, .ref q3, .ref q4, .int i5, .int i6, .int i7, .int i8, .int i9, .int i10])), (q3, .inl (E.2.1, 81, .inl f11))] 227 [(0, .ref q1), (1, .int i166), (2, .int z113)] [.int z167, .ref q3, .ref q1] _
      refine V_callV (M := mX8_isSoundNow) (wcs := [(q1, .inr (9, [.int i2, .ref q3, .ref q4, .int i5, .int i6, .int i7, .int i8, .int i9, .int i10])), (q3, .inl (E.2.1, 81, .inl f11))]) (wr := [(q4, .inl (E.2.1, 81, .inl f12))]) mf_X8_through tw_1482 tw_1484 tw_52 ⟨Nat.le_of_ble_eq_true rfl, Nat.le_of_ble_eq_true rfl⟩ (dX8_isSoundNow_p1 57 rfl) 230 rfl (kX8_through hs q1 q3 i2 (.ref q3) (.ref q4) i5 i6 i7 i8 i9 i10 f11 z167) rfl [1, 2] [0] (q0 := 0) rfl rfl rfl rfl (by decide) rfl rfl rfl rfl (Nat.le_of_ble_eq_true rfl) 131 2161 (show 131 + 0 ≤ 131 from Nat.le_of_ble_eq_true rfl) (show 2161 + 0 ≤ 2161 from Nat.le_of_ble_eq_true rfl) (fun z168 v w hz => ?_)
      obtain ⟨rfl, rfl⟩ := hz
      show V E K mX8_isSoundNow (Qm E K mX8_isSoundNow (zX8_isSoundNow E q1 q3 q4 i2 i5 i6 i7 i8 i9 i10 f11 f12)) 131 2161 [(q4, .inl (E.2.1, 81, .inl f12)), (q1, .inr (9, [.int i2, .ref q3, .ref q4, .int i5, .int i6, .int i7, .int i8, .int i9, .int i10])), (q3, .inl (E.2.1, 81, .inl f11))] 230 [(0, .ref q1), (1, .int i166), (2, .int z113)] [.int z168] _
      refine V_iload_n (dX8_isSoundNow_p1 58 rfl) 231 rfl 2 rfl ?_
      refine V_icmp_ne (dX8_isSoundNow_p1 59 rfl) 267 (by decide) 234 rfl ?_ ?_
      · refine V_iconst (0 : Int32) (by decide) (dX8_isSoundNow_p2 7 rfl) 268 rfl ?_
        refine V_world [1, 2, 0] [(q1, .inr (9, [.int i2, .ref q3, .ref q4, .int i5, .int i6, .int i7, .int i8, .int i9, .int i10])), (q3, .inl (E.2.1, 81, .inl f11)), (q4, .inl (E.2.1, 81, .inl f12))] rfl rfl rfl ?_
        exact V_zret rfl (by decide) (dX8_isSoundNow_p2 8 rfl) ⟨rfl, rfl⟩
      · refine V_aload_n (dX8_isSoundNow_p1 60 rfl) 235 rfl 0 rfl ?_
        refine V_aload_n (dX8_isSoundNow_p1 61 rfl) 236 rfl 0 rfl ?_
        refine V_get gf_M_20 1 rfl rfl (dX8_isSoundNow_p1 62 rfl) 239 rfl ?_
        refine V_aload_n (dX8_isSoundNow_p1 63 rfl) 240 rfl 0 rfl ?_
        refine V_iconst (1 : Int32) (by decide) (dX8_isSoundNow_p1 64 rfl) 241 rfl ?_
        refine V_callV (M := mX8_isSoundNow) (wcs := [(q1, .inr (9, [.int i2, .ref q3, .ref q4, .int i5, .int i6, .int i7, .int i8, .int i9, .int i10])), (q3, .inl (E.2.1, 81, .inl f11))]) (wr := [(q4, .inl (E.2.1, 81, .inl f12))]) mf_X8_endNow tw_1518 tw_1520 tw_56 ⟨Nat.le_of_ble_eq_true rfl, Nat.le_of_ble_eq_true rfl⟩ (dX8_isSoundNow_p1 65 rfl) 244 rfl (kX8_endNow hs q1 q3 i2 (.ref q4) i5 i6 i7 i8 i9 i10 f11 (1 : Int32)) rfl [1, 2] [0] (q0 := 0) rfl rfl rfl rfl (by decide) rfl rfl rfl rfl (Nat.le_of_ble_eq_true rfl) 131 2161 (show 131 + 0 ≤ 131 from Nat.le_of_ble_eq_true rfl) (show 2161 + 0 ≤ 2161 from Nat.le_of_ble_eq_true rfl) (fun z169 v w hz => ?_)
        obtain ⟨rfl, rfl⟩ := hz
        show V E K mX8_isSoundNow (Qm E K mX8_isSoundNow (zX8_isSoundNow E q1 q3 q4 i2 i5 i6 i7 i8 i9 i10 f11 f12)) 131 2161 [(q4, .inl (E.2.1, 81, .inl f12)), (q1, .inr (9, [.int i2, .ref q3, .ref q4, .int i5, .int i6, .int i7, .int i8, .int i9, .int i10])), (q3, .inl (E.2.1, 81, .inl f11))] 244 [(0, .ref q1), (1, .int i166), (2, .int z113)] [.int z169, .ref q3, .ref q1] _
        refine V_callV (M := mX8_isSoundNow) (wcs := [(q1, .inr (9, [.int i2, .ref q3, .ref q4, .int i5, .int i6, .int i7, .int i8, .int i9, .int i10])), (q3, .inl (E.2.1, 81, .inl f11))]) (wr := [(q4, .inl (E.2.1, 81, .inl f12))]) mf_X8_through tw_1482 tw_1484 tw_52 ⟨Nat.le_of_ble_eq_true rfl, Nat.le_of_ble_eq_true rfl⟩ (dX8_isSoundNow_p1 66 rfl) 247 rfl (kX8_through hs q1 q3 i2 (.ref q3) (.ref q4) i5 i6 i7 i8 i9 i10 f11 z169) rfl [1, 2] [0] (q0 := 0) rfl rfl rfl rfl (by decide) rfl rfl rfl rfl (Nat.le_of_ble_eq_true rfl) 131 2161 (show 131 + 0 ≤ 131 from Nat.le_of_ble_eq_true rfl) (show 2161 + 0 ≤ 2161 from Nat.le_of_ble_eq_true rfl) (fun z170 v w hz => ?_)
        obtain ⟨rfl, rfl⟩ := hz
        show V E K mX8_isSoundNow (Qm E K mX8_isSoundNow (zX8_isSoundNow E q1 q3 q4 i2 i5 i6 i7 i8 i9 i10 f11 f12)) 131 2161 [(q4, .inl (E.2.1, 81, .inl f12)), (q1, .inr (9, [.int i2, .ref q3, .ref q4, .int i5, .int i6, .int i7, .int i8, .int i9, .int i10])), (q3, .inl (E.2.1, 81, .inl f11))] 247 [(0, .ref q1), (1, .int i166), (2, .int z113)] [.int z170] _
        refine V_iload_n (dX8_isSoundNow_p1 67 rfl) 248 rfl 2 rfl ?_
        refine V_icmp_ne (dX8_isSoundNow_p1 68 rfl) 267 (by decide) 251 rfl ?_ ?_
        · refine V_iconst (0 : Int32) (by decide) (dX8_isSoundNow_p2 7 rfl) 268 rfl ?_
          refine V_world [1, 2, 0] [(q1, .inr (9, [.int i2, .ref q3, .ref q4, .int i5, .int i6, .int i7, .int i8, .int i9, .int i10])), (q3, .inl (E.2.1, 81, .inl f11)), (q4, .inl (E.2.1, 81, .inl f12))] rfl rfl rfl ?_
          exact V_zret rfl (by decide) (dX8_isSoundNow_p2 8 rfl) ⟨rfl, rfl⟩
        · refine V_aload_n (dX8_isSoundNow_p1 69 rfl) 252 rfl 0 rfl ?_
          refine V_iconst (2 : Int32) (by decide) (dX8_isSoundNow_p2 0 rfl) 253 rfl ?_
          refine V_callV (M := mX8_isSoundNow) (wcs := [(q1, .inr (9, [.int i2, .ref q3, .ref q4, .int i5, .int i6, .int i7, .int i8, .int i9, .int i10])), (q4, .inl (E.2.1, 81, .inl f12))]) (wr := [(q3, .inl (E.2.1, 81, .inl f11))]) mf_X8_partsNow tw_1555 tw_1557 tw_58 ⟨Nat.le_of_ble_eq_true rfl, Nat.le_of_ble_eq_true rfl⟩ (dX8_isSoundNow_p2 1 rfl) 256 rfl (kX8_partsNow hs q1 q4 i2 (.ref q3) i5 i6 i7 i8 i9 i10 f12 (2 : Int32)) rfl [1, 0] [2] (q0 := 0) rfl rfl rfl rfl (by decide) rfl rfl rfl rfl (Nat.le_of_ble_eq_true rfl) 0 0 (show 0 + 131 ≤ 131 from Nat.le_of_ble_eq_true rfl) (show 0 + 2161 ≤ 2161 from Nat.le_of_ble_eq_true rfl) (fun z171 v w hz => ?_)
          obtain ⟨rfl, rfl⟩ := hz
          show V E K mX8_isSoundNow (Qm E K mX8_isSoundNow (zX8_isSoundNow E q1 q3 q4 i2 i5 i6 i7 i8 i9 i10 f11 f12)) 0 0 [(q3, .inl (E.2.1, 81, .inl f11)), (q1, .inr (9, [.int i2, .ref q3, .ref q4, .int i5, .int i6, .int i7, .int i8, .int i9, .int i10])), (q4, .inl (E.2.1, 81, .inl f12))] 256 [(0, .ref q1), (1, .int i166), (2, .int z113)] [.int z171] _
          refine V_aload_n (dX8_isSoundNow_p2 2 rfl) 257 rfl 0 rfl ?_
          refine V_callV (M := mX8_isSoundNow) (wcs := [(q1, .inr (9, [.int i2, .ref q3, .ref q4, .int i5, .int i6, .int i7, .int i8, .int i9, .int i10])), (q4, .inl (E.2.1, 81, .inl f12))]) (wr := [(q3, .inl (E.2.1, 81, .inl f11))]) mf_X8_valueNow tw_1303 tw_1305 tw_31 ⟨Nat.le_of_ble_eq_true rfl, Nat.le_of_ble_eq_true rfl⟩ (dX8_isSoundNow_p2 3 rfl) 260 rfl (kX8_valueNow hs q1 q4 i2 (.ref q3) i5 i6 i7 i8 i9 i10 f12) rfl [1, 2] [0] (q0 := 0) rfl rfl rfl rfl (by decide) rfl rfl rfl rfl (Nat.le_of_ble_eq_true rfl) 0 0 (show 0 + 0 ≤ 0 from Nat.le_of_ble_eq_true rfl) (show 0 + 0 ≤ 0 from Nat.le_of_ble_eq_true rfl) (fun z172 v w hz => ?_)
          obtain ⟨rfl, rfl⟩ := hz
          show V E K mX8_isSoundNow (Qm E K mX8_isSoundNow (zX8_isSoundNow E q1 q3 q4 i2 i5 i6 i7 i8 i9 i10 f11 f12)) 0 0 [(q3, .inl (E.2.1, 81, .inl f11)), (q1, .inr (9, [.int i2, .ref q3, .ref q4, .int i5, .int i6, .int i7, .int i8, .int i9, .int i10])), (q4, .inl (E.2.1, 81, .inl f12))] 260 [(0, .ref q1), (1, .int i166), (2, .int z113)] [.int z172, .int z171] _
          refine V_icmp_ne (dX8_isSoundNow_p2 4 rfl) 267 (by decide) 263 rfl ?_ ?_
          · refine V_iconst (0 : Int32) (by decide) (dX8_isSoundNow_p2 7 rfl) 268 rfl ?_
            refine V_world [1, 0, 2] [(q1, .inr (9, [.int i2, .ref q3, .ref q4, .int i5, .int i6, .int i7, .int i8, .int i9, .int i10])), (q3, .inl (E.2.1, 81, .inl f11)), (q4, .inl (E.2.1, 81, .inl f12))] rfl rfl rfl ?_
            exact V_zret rfl (by decide) (dX8_isSoundNow_p2 8 rfl) ⟨rfl, rfl⟩
          · refine V_iconst (1 : Int32) (by decide) (dX8_isSoundNow_p2 5 rfl) 264 rfl ?_
            refine V_goto (dX8_isSoundNow_p2 6 rfl) 268 (by decide) ?_
            refine V_world [1, 0, 2] [(q1, .inr (9, [.int i2, .ref q3, .ref q4, .int i5, .int i6, .int i7, .int i8, .int i9, .int i10])), (q3, .inl (E.2.1, 81, .inl f11)), (q4, .inl (E.2.1, 81, .inl f12))] rfl rfl rfl ?_
            exact V_zret rfl (by decide) (dX8_isSoundNow_p2 8 rfl) ⟨rfl, rfl⟩
  · intro k115 hk116
    refine V_jn (fun (k117 : Unit → Option (Int32)) => ∀ (_ : Unit), V E K mX8_isSoundNow (Qm E K mX8_isSoundNow (zX8_isSoundNow E q1 q3 q4 i2 i5 i6 i7 i8 i9 i10 f11 f12)) 131 2161 [(q1, .inr (9, [.int i2, .ref q3, .ref q4, .int i5, .int i6, .int i7, .int i8, .int i9, .int i10])), (q3, .inl (E.2.1, 81, .inl f11)), (q4, .inl (E.2.1, 81, .inl f12))] 153 [(0, .ref q1), (2, .int z113)] [.int i112] (k117 ())) ?_ ?_
    · intro _
      show V E K mX8_isSoundNow (Qm E K mX8_isSoundNow (zX8_isSoundNow E q1 q3 q4 i2 i5 i6 i7 i8 i9 i10 f11 f12)) 131 2161 [(q1, .inr (9, [.int i2, .ref q3, .ref q4, .int i5, .int i6, .int i7, .int i8, .int i9, .int i10])), (q3, .inl (E.2.1, 81, .inl f11)), (q4, .inl (E.2.1, 81, .inl f12))] 153 [(0, .ref q1), (2, .int z113)] [.int i112] _
      refine V_iconst (0 : Int32) (by decide) (dX8_isSoundNow_p1 15 rfl) 154 rfl ?_
      exact hk116 (0 : Int32)
    · intro k117 hk118
      refine V_icmp_gt (dX8_isSoundNow_p0 66 rfl) 153 (by decide) 117 rfl ?_ ?_
      · refine V_world [1, 0, 2] [(q1, .inr (9, [.int i2, .ref q3, .ref q4, .int i5, .int i6, .int i7, .int i8, .int i9, .int i10])), (q3, .inl (E.2.1, 81, .inl f11)), (q4, .inl (E.2.1, 81, .inl f12))] rfl rfl rfl ?_
        refine V_pick [0, 2] [(0, .ref q1), (2, .int z113)] rfl ?_
        exact hk118 ()
      · refine V_aload_n (dX8_isSoundNow_p0 67 rfl) 118 rfl 0 rfl ?_
        refine V_callV (M := mX8_isSoundNow) (wcs := [(q1, .inr (9, [.int i2, .ref q3, .ref q4, .int i5, .int i6, .int i7, .int i8, .int i9, .int i10])), (q4, .inl (E.2.1, 81, .inl f12))]) (wr := [(q3, .inl (E.2.1, 81, .inl f11))]) mf_X8_valueNow tw_1303 tw_1305 tw_31 ⟨Nat.le_of_ble_eq_true rfl, Nat.le_of_ble_eq_true rfl⟩ (dX8_isSoundNow_p0 68 rfl) 121 rfl (kX8_valueNow hs q1 q4 i2 (.ref q3) i5 i6 i7 i8 i9 i10 f12) rfl [1, 2] [0] (q0 := 0) rfl rfl rfl rfl (by decide) rfl rfl rfl rfl (Nat.le_of_ble_eq_true rfl) 131 2161 (show 131 + 0 ≤ 131 from Nat.le_of_ble_eq_true rfl) (show 2161 + 0 ≤ 2161 from Nat.le_of_ble_eq_true rfl) (fun z119 v w hz => ?_)
        obtain ⟨rfl, rfl⟩ := hz
        show V E K mX8_isSoundNow (Qm E K mX8_isSoundNow (zX8_isSoundNow E q1 q3 q4 i2 i5 i6 i7 i8 i9 i10 f11 f12)) 131 2161 [(q3, .inl (E.2.1, 81, .inl f11)), (q1, .inr (9, [.int i2, .ref q3, .ref q4, .int i5, .int i6, .int i7, .int i8, .int i9, .int i10])), (q4, .inl (E.2.1, 81, .inl f12))] 121 [(0, .ref q1), (1, .int i112), (2, .int z113)] [.int z119, .int i112] _
        refine V_iload_n (dX8_isSoundNow_p0 69 rfl) 122 rfl 2 rfl ?_
        refine V_jn (fun (k120 : Int32 → Option (Int32)) => ∀ (i122 : Int32), V E K mX8_isSoundNow (Qm E K mX8_isSoundNow (zX8_isSoundNow E q1 q3 q4 i2 i5 i6 i7 i8 i9 i10 f11 f12)) 131 2161 [(q1, .inr (9, [.int i2, .ref q3, .ref q4, .int i5, .int i6, .int i7, .int i8, .int i9, .int i10])), (q3, .inl (E.2.1, 81, .inl f11)), (q4, .inl (E.2.1, 81, .inl f12))] 130 [(0, .ref q1), (2, .int z113)] [.int i122, .int i112] (k120 i122)) ?_ ?_
        · intro i122
          show V E K mX8_isSoundNow (Qm E K mX8_isSoundNow (zX8_isSoundNow E q1 q3 q4 i2 i5 i6 i7 i8 i9 i10 f11 f12)) 131 2161 [(q1, .inr (9, [.int i2, .ref q3, .ref q4, .int i5, .int i6, .int i7, .int i8, .int i9, .int i10])), (q3, .inl (E.2.1, 81, .inl f11)), (q4, .inl (E.2.1, 81, .inl f12))] 130 [(0, .ref q1), (2, .int z113)] [.int i122, .int i112] _
          refine V_aload_n (dX8_isSoundNow_p1 4 rfl) 131 rfl 0 rfl ?_
          refine V_aload_n (dX8_isSoundNow_p1 5 rfl) 132 rfl 0 rfl ?_
          refine V_get gf_M_30 0 rfl rfl (dX8_isSoundNow_p1 6 rfl) 135 rfl ?_
          refine V_callV (M := mX8_isSoundNow) (wcs := [(q1, .inr (9, [.int i2, .ref q3, .ref q4, .int i5, .int i6, .int i7, .int i8, .int i9, .int i10])), (q3, .inl (E.2.1, 81, .inl f11)), (q4, .inl (E.2.1, 81, .inl f12))]) (wr := []) mf_X8_layerNow tw_1543 tw_1545 tw_57 ⟨Nat.le_of_ble_eq_true rfl, Nat.le_of_ble_eq_true rfl⟩ (dX8_isSoundNow_p1 7 rfl) 138 rfl (kX8_layerNow hs q1 q3 q4 i2 i5 i6 i7 i8 i9 i10 f11 f12 i6) rfl [0, 1, 2] [] (q0 := 0) rfl rfl rfl rfl (by decide) rfl rfl rfl rfl (Nat.le_of_ble_eq_true rfl) 131 2161 (show 131 + 0 ≤ 131 from Nat.le_of_ble_eq_true rfl) (show 2161 + 0 ≤ 2161 from Nat.le_of_ble_eq_true rfl) (fun z123 v w hz => ?_)
          obtain ⟨rfl, rfl⟩ := hz
          show V E K mX8_isSoundNow (Qm E K mX8_isSoundNow (zX8_isSoundNow E q1 q3 q4 i2 i5 i6 i7 i8 i9 i10 f11 f12)) 131 2161 [(q1, .inr (9, [.int i2, .ref q3, .ref q4, .int i5, .int i6, .int i7, .int i8, .int i9, .int i10])), (q3, .inl (E.2.1, 81, .inl f11)), (q4, .inl (E.2.1, 81, .inl f12))] 138 [(0, .ref q1), (2, .int z113)] [.int z123, .int i122, .int i112] _
          refine V_jn (fun (k124 : Int32 → Option (Int32)) => ∀ (i126 : Int32), V E K mX8_isSoundNow (Qm E K mX8_isSoundNow (zX8_isSoundNow E q1 q3 q4 i2 i5 i6 i7 i8 i9 i10 f11 f12)) 131 2161 [(q1, .inr (9, [.int i2, .ref q3, .ref q4, .int i5, .int i6, .int i7, .int i8, .int i9, .int i10])), (q3, .inl (E.2.1, 81, .inl f11)), (q4, .inl (E.2.1, 81, .inl f12))] 146 [(0, .ref q1), (2, .int z113)] [.int i126, .int i122, .int i112] (k124 i126)) ?_ ?_
          · intro i126
            show V E K mX8_isSoundNow (Qm E K mX8_isSoundNow (zX8_isSoundNow E q1 q3 q4 i2 i5 i6 i7 i8 i9 i10 f11 f12)) 131 2161 [(q1, .inr (9, [.int i2, .ref q3, .ref q4, .int i5, .int i6, .int i7, .int i8, .int i9, .int i10])), (q3, .inl (E.2.1, 81, .inl f11)), (q4, .inl (E.2.1, 81, .inl f12))] 146 [(0, .ref q1), (2, .int z113)] [.int i126, .int i122, .int i112] _
            refine V_icmp_ne (dX8_isSoundNow_p1 12 rfl) 153 (by decide) 149 rfl ?_ ?_
            · exact hk118 ()
            · refine V_iconst (1 : Int32) (by decide) (dX8_isSoundNow_p1 13 rfl) 150 rfl ?_
              refine V_goto (dX8_isSoundNow_p1 14 rfl) 154 (by decide) ?_
              exact hk116 (1 : Int32)
          · intro k124 hk125
            refine V_if_ge (dX8_isSoundNow_p1 8 rfl) 145 (by decide) 141 rfl ?_ ?_
            · refine V_iconst (0 : Int32) (by decide) (dX8_isSoundNow_p1 11 rfl) 146 rfl ?_
              exact hk125 (0 : Int32)
            · refine V_iconst (1 : Int32) (by decide) (dX8_isSoundNow_p1 9 rfl) 142 rfl ?_
              refine V_goto (dX8_isSoundNow_p1 10 rfl) 146 (by decide) ?_
              exact hk125 (1 : Int32)
        · intro k120 hk121
          refine V_icmp_ne (dX8_isSoundNow_p1 0 rfl) 129 (by decide) 125 rfl ?_ ?_
          · refine V_iconst (0 : Int32) (by decide) (dX8_isSoundNow_p1 3 rfl) 130 rfl ?_
            refine V_world [1, 0, 2] [(q1, .inr (9, [.int i2, .ref q3, .ref q4, .int i5, .int i6, .int i7, .int i8, .int i9, .int i10])), (q3, .inl (E.2.1, 81, .inl f11)), (q4, .inl (E.2.1, 81, .inl f12))] rfl rfl rfl ?_
            refine V_pick [0, 2] [(0, .ref q1), (2, .int z113)] rfl ?_
            exact hk121 (0 : Int32)
          · refine V_iconst (1 : Int32) (by decide) (dX8_isSoundNow_p1 1 rfl) 126 rfl ?_
            refine V_goto (dX8_isSoundNow_p1 2 rfl) 130 (by decide) ?_
            refine V_world [1, 0, 2] [(q1, .inr (9, [.int i2, .ref q3, .ref q4, .int i5, .int i6, .int i7, .int i8, .int i9, .int i10])), (q3, .inl (E.2.1, 81, .inl f11)), (q4, .inl (E.2.1, 81, .inl f12))] rfl rfl rfl ?_
            refine V_pick [0, 2] [(0, .ref q1), (2, .int z113)] rfl ?_
            exact hk121 (1 : Int32))
set_option maxRecDepth 20000 in
theorem kX8_isSound {E : EX} {l : Launch} (hl : l.stackTraces = false) (q1 q3 q4 : Nat) (i2 i5 i6 i7 i8 i9 i10 : Int32) (f11 f12 : Nat → Int32) : Ct E l mX8_isSound [.ref q1] [(q1, .inr (9, [.int i2, .ref q3, .ref q4, .int i5, .int i6, .int i7, .int i8, .int i9, .int i10])), (q3, .inl (E.2.1, 81, .inl f11)), (q4, .inl (E.2.1, 81, .inl f12))] (fX8_isSound i2 i5 i6 f11 f12) (zX8_isSound E q1 q3 q4 i2 i5 i6 i7 i8 i9 f11 f12) := Ct_of hl mf_X8_isSound.1 (Nat.le_of_ble_eq_true rfl) (fun K hs => by
  refine V_less 131 2161 (Nat.le_refl _) (Nat.le_refl _) ?_
  refine V_pick [0] [(0, .ref q1)] rfl ?_
  unfold fX8_isSound
  refine V_aload_n (dX8_isSound 0 rfl) 1 rfl 0 rfl ?_
  refine V_iconst (0 : Int32) (by decide) (dX8_isSound 1 rfl) 2 rfl ?_
  refine V_put pf_M_13 0 rfl rfl rfl (Nat.le_of_ble_eq_true rfl) (dX8_isSound 2 rfl) 5 rfl [(q1, .inr (9, [.int i2, .ref q3, .ref q4, .int i5, .int i6, .int i7, .int i8, .int i9, .int (0 : Int32)])), (q3, .inl (E.2.1, 81, .inl f11)), (q4, .inl (E.2.1, 81, .inl f12))] rfl ?_
  refine V_aload_n (dX8_isSound 3 rfl) 6 rfl 0 rfl ?_
  refine V_callV (M := mX8_isSound) (wcs := [(q1, .inr (9, [.int i2, .ref q3, .ref q4, .int i5, .int i6, .int i7, .int i8, .int i9, .int (0 : Int32)])), (q3, .inl (E.2.1, 81, .inl f11)), (q4, .inl (E.2.1, 81, .inl f12))]) (wr := []) mf_X8_isSoundNow tw_1611 tw_1613 tw_63 ⟨Nat.le_of_ble_eq_true rfl, Nat.le_of_ble_eq_true rfl⟩ (dX8_isSound 4 rfl) 9 rfl (kX8_isSoundNow hs q1 q3 q4 i2 i5 i6 i7 i8 i9 (0 : Int32) f11 f12) rfl [0, 1, 2] [] (q0 := 0) rfl rfl rfl rfl (by decide) rfl rfl rfl rfl (Nat.le_of_ble_eq_true rfl) 0 0 (show 0 + 131 ≤ 131 from Nat.le_of_ble_eq_true rfl) (show 0 + 2161 ≤ 2161 from Nat.le_of_ble_eq_true rfl) (fun z13 v w hz => ?_)
  obtain ⟨rfl, rfl⟩ := hz
  show V E K mX8_isSound (Qm E K mX8_isSound (zX8_isSound E q1 q3 q4 i2 i5 i6 i7 i8 i9 f11 f12)) 0 0 [(q1, .inr (9, [.int i2, .ref q3, .ref q4, .int i5, .int i6, .int i7, .int i8, .int i9, .int (0 : Int32)])), (q3, .inl (E.2.1, 81, .inl f11)), (q4, .inl (E.2.1, 81, .inl f12))] 9 [(0, .ref q1)] [.int z13] _
  refine V_bz (fun hb => ?_)
  exact V_zret rfl (bz_n hb) (dX8_isSound 5 rfl) ⟨rfl, rfl⟩)
set_option maxRecDepth 20000 in
theorem vBX8_digest_L11 {E : EX} {K : KX} (hs : K.l.stackTraces = false) (q1 q3 q4 : Nat) (i2 i5 i6 i7 i8 i9 : Int32) (f11 f12 : Nat → Int32) (bc bs : Nat) (l28 : Int64) (i29 : Int32) {rec : Int64 → Int32 → Option (Int64)} {k1 : Int64 → Option (Int64)} (hrec : ∀ (l28 : Int64) (i29 : Int32), V E K mX8_digest (Qm E K mX8_digest (zX8_digest E q1 q3 q4 i2 i5 i6 i7 i8 i9 f11 f12)) (bc) (bs) [(q1, .inr (9, [.int i2, .ref q3, .ref q4, .int i5, .int i6, .int i7, .int i8, .int i9, .int (0 : Int32)])), (q3, .inl (E.2.1, 81, .inl f11)), (q4, .inl (E.2.1, 81, .inl f12))] 11 [(0, .ref q1), (1, .long l28), (3, .int i29)] [] (rec l28 i29)) (hk1 : ∀ (l32 : Int64), V E K mX8_digest (Qm E K mX8_digest (zX8_digest E q1 q3 q4 i2 i5 i6 i7 i8 i9 f11 f12)) (bc) (bs) [(q1, .inr (9, [.int i2, .ref q3, .ref q4, .int i5, .int i6, .int i7, .int i8, .int i9, .int (0 : Int32)])), (q3, .inl (E.2.1, 81, .inl f11)), (q4, .inl (E.2.1, 81, .inl f12))] 35 [(0, .ref q1), (1, .long l32)] [] (k1 l32)) : V E K mX8_digest (Qm E K mX8_digest (zX8_digest E q1 q3 q4 i2 i5 i6 i7 i8 i9 f11 f12)) (bc) (bs) [(q1, .inr (9, [.int i2, .ref q3, .ref q4, .int i5, .int i6, .int i7, .int i8, .int i9, .int (0 : Int32)])), (q3, .inl (E.2.1, 81, .inl f11)), (q4, .inl (E.2.1, 81, .inl f12))] 11 [(0, .ref q1), (1, .long l28), (3, .int i29)] [] (BX8_digest_L11  i2 i5 i6 f11 l28 i29 rec k1) := by
  unfold BX8_digest_L11
  refine V_iload_n (dX8_digest_p0 7 rfl) 12 rfl 2 rfl ?_
  refine V_iconst (5 : Int32) (by decide) (dX8_digest_p0 8 rfl) 13 rfl ?_
  refine V_icmp_ge (dX8_digest_p0 9 rfl) 35 (by decide) 16 rfl ?_ ?_
  · refine V_pick [0, 1] [(0, .ref q1), (1, .long l28)] rfl ?_
    exact hk1 l28
  · refine V_lload_n (dX8_digest_p0 10 rfl) 17 rfl 1 rfl ?_
    refine V_ldc2 (M := mX8_digest) (v := (31 : Int64)) tw_1620 (dX8_digest_p0 11 rfl) 20 rfl ?_
    refine V_lmul (dX8_digest_p0 12 rfl) 21 rfl ?_
    refine V_aload_n (dX8_digest_p0 13 rfl) 22 rfl 0 rfl ?_
    refine V_iload_n (dX8_digest_p0 14 rfl) 23 rfl 2 rfl ?_
    refine V_callV (M := mX8_digest) (wcs := [(q1, .inr (9, [.int i2, .ref q3, .ref q4, .int i5, .int i6, .int i7, .int i8, .int i9, .int (0 : Int32)])), (q3, .inl (E.2.1, 81, .inl f11))]) (wr := [(q4, .inl (E.2.1, 81, .inl f12))]) mf_X8_toldNow tw_1434 tw_1436 tw_47 ⟨Nat.le_of_ble_eq_true rfl, Nat.le_of_ble_eq_true rfl⟩ (dX8_digest_p0 15 rfl) 26 rfl (kX8_toldNow hs q1 q3 i2 (.ref q4) i5 i6 i7 i8 i9 (0 : Int32) f11 i29) rfl [0, 1] [2] (q0 := 0) rfl rfl rfl rfl (by decide) rfl rfl rfl rfl (Nat.le_of_ble_eq_true rfl) (bc) (bs) (show (bc) + 0 ≤ (bc) by omega) (show (bs) + 0 ≤ (bs) by omega) (fun z30 v w hz => ?_)
    obtain ⟨rfl, rfl⟩ := hz
    show V E K mX8_digest (Qm E K mX8_digest (zX8_digest E q1 q3 q4 i2 i5 i6 i7 i8 i9 f11 f12)) (bc) (bs) [(q4, .inl (E.2.1, 81, .inl f12)), (q1, .inr (9, [.int i2, .ref q3, .ref q4, .int i5, .int i6, .int i7, .int i8, .int i9, .int (0 : Int32)])), (q3, .inl (E.2.1, 81, .inl f11))] 26 [(0, .ref q1), (1, .long l28), (3, .int i29)] [.int z30, .long (l28 * (31 : Int64))] _
    refine V_i2l (dX8_digest_p0 16 rfl) 27 rfl ?_
    refine V_ladd (dX8_digest_p0 17 rfl) 28 rfl ?_
    refine V_nmL (fun l31 => ?_)
    refine V_lstore_n (dX8_digest_p0 18 rfl) 29 rfl [(0, .ref q1), (1, .long l31), (3, .int i29)] (Nat.le_of_ble_eq_true rfl) rfl ?_
    refine V_iinc (dX8_digest_p0 19 rfl) 32 rfl 2 rfl (i29 + (1 : Int32)) rfl [(0, .ref q1), (1, .long l31), (3, .int (i29 + (1 : Int32)))] (Nat.le_of_ble_eq_true rfl) rfl ?_
    refine V_goto (dX8_digest_p0 20 rfl) 11 (by decide) ?_
    refine V_world [1, 2, 0] [(q1, .inr (9, [.int i2, .ref q3, .ref q4, .int i5, .int i6, .int i7, .int i8, .int i9, .int (0 : Int32)])), (q3, .inl (E.2.1, 81, .inl f11)), (q4, .inl (E.2.1, 81, .inl f12))] rfl rfl rfl ?_
    exact hrec l31 (i29 + (1 : Int32))
set_option maxRecDepth 20000 in
theorem vLX8_digest_L11 {E : EX} {K : KX} (hs : K.l.stackTraces = false) (q1 q3 q4 : Nat) (i2 i5 i6 i7 i8 i9 : Int32) (f11 f12 : Nat → Int32) (bc bs : Nat) {k1 : Int64 → Option (Int64)} (hk1 : ∀ (l32 : Int64), V E K mX8_digest (Qm E K mX8_digest (zX8_digest E q1 q3 q4 i2 i5 i6 i7 i8 i9 f11 f12)) (bc) (bs) [(q1, .inr (9, [.int i2, .ref q3, .ref q4, .int i5, .int i6, .int i7, .int i8, .int i9, .int (0 : Int32)])), (q3, .inl (E.2.1, 81, .inl f11)), (q4, .inl (E.2.1, 81, .inl f12))] 35 [(0, .ref q1), (1, .long l32)] [] (k1 l32)) : ∀ (n : Nat) (l28 : Int64) (i29 : Int32), V E K mX8_digest (Qm E K mX8_digest (zX8_digest E q1 q3 q4 i2 i5 i6 i7 i8 i9 f11 f12)) (bc) (bs) [(q1, .inr (9, [.int i2, .ref q3, .ref q4, .int i5, .int i6, .int i7, .int i8, .int i9, .int (0 : Int32)])), (q3, .inl (E.2.1, 81, .inl f11)), (q4, .inl (E.2.1, 81, .inl f12))] 11 [(0, .ref q1), (1, .long l28), (3, .int i29)] [] (LX8_digest_L11  i2 i5 i6 f11 n l28 i29 k1)
  | 0, _, _ => V_none
  | n + 1, l28, i29 => vBX8_digest_L11 hs q1 q3 q4 i2 i5 i6 i7 i8 i9 f11 f12 bc bs l28 i29 (fun l28 i29 => vLX8_digest_L11 hs q1 q3 q4 i2 i5 i6 i7 i8 i9 f11 f12 bc bs hk1 n l28 i29) hk1
set_option maxRecDepth 20000 in
theorem vBX8_digest_L48 {E : EX} {K : KX} (hs : K.l.stackTraces = false) (q1 q3 q4 : Nat) (i2 i5 i6 i7 i8 i9 : Int32) (f11 f12 : Nat → Int32) (i93 : Int32) (bc bs : Nat) (l110 : Int64) (i111 : Int32) {rec : Int64 → Int32 → Option (Int64)} {k1 : Int64 → Option (Int64)} (hrec : ∀ (l110 : Int64) (i111 : Int32), V E K mX8_digest (Qm E K mX8_digest (zX8_digest E q1 q3 q4 i2 i5 i6 i7 i8 i9 f11 f12)) (bc) (bs) [(q1, .inr (9, [.int i2, .ref q3, .ref q4, .int i5, .int i6, .int i7, .int i8, .int i9, .int (0 : Int32)])), (q3, .inl (E.2.1, 81, .inl f11)), (q4, .inl (E.2.1, 81, .inl f12))] 48 [(0, .ref q1), (1, .long l110), (3, .int i93), (4, .int i111)] [] (rec l110 i111)) (hk1 : ∀ (l114 : Int64), V E K mX8_digest (Qm E K mX8_digest (zX8_digest E q1 q3 q4 i2 i5 i6 i7 i8 i9 f11 f12)) (bc) (bs) [(q1, .inr (9, [.int i2, .ref q3, .ref q4, .int i5, .int i6, .int i7, .int i8, .int i9, .int (0 : Int32)])), (q3, .inl (E.2.1, 81, .inl f11)), (q4, .inl (E.2.1, 81, .inl f12))] 75 [(0, .ref q1), (1, .long l114), (3, .int i93)] [] (k1 l114)) : V E K mX8_digest (Qm E K mX8_digest (zX8_digest E q1 q3 q4 i2 i5 i6 i7 i8 i9 f11 f12)) (bc) (bs) [(q1, .inr (9, [.int i2, .ref q3, .ref q4, .int i5, .int i6, .int i7, .int i8, .int i9, .int (0 : Int32)])), (q3, .inl (E.2.1, 81, .inl f11)), (q4, .inl (E.2.1, 81, .inl f12))] 48 [(0, .ref q1), (1, .long l110), (3, .int i93), (4, .int i111)] [] (BX8_digest_L48  i2 f11 f12 i93 l110 i111 rec k1) := by
  unfold BX8_digest_L48
  refine V_iload (dX8_digest_p0 29 rfl) 50 rfl 3 rfl ?_
  refine V_iconst (4 : Int32) (by decide) (dX8_digest_p0 30 rfl) 51 rfl ?_
  refine V_icmp_ge (dX8_digest_p0 31 rfl) 75 (by decide) 54 rfl ?_ ?_
  · refine V_pick [0, 1, 2] [(0, .ref q1), (1, .long l110), (3, .int i93)] rfl ?_
    exact hk1 l110
  · refine V_lload_n (dX8_digest_p0 32 rfl) 55 rfl 1 rfl ?_
    refine V_ldc2 (M := mX8_digest) (v := (31 : Int64)) tw_1620 (dX8_digest_p0 33 rfl) 58 rfl ?_
    refine V_lmul (dX8_digest_p0 34 rfl) 59 rfl ?_
    refine V_aload_n (dX8_digest_p0 35 rfl) 60 rfl 0 rfl ?_
    refine V_iload_n (dX8_digest_p0 36 rfl) 61 rfl 2 rfl ?_
    refine V_iload (dX8_digest_p0 37 rfl) 63 rfl 3 rfl ?_
    refine V_callV (M := mX8_digest) (wcs := [(q1, .inr (9, [.int i2, .ref q3, .ref q4, .int i5, .int i6, .int i7, .int i8, .int i9, .int (0 : Int32)])), (q3, .inl (E.2.1, 81, .inl f11)), (q4, .inl (E.2.1, 81, .inl f12))]) (wr := []) mf_X8_ofPlaceNow tw_1450 tw_1452 tw_49 ⟨Nat.le_of_ble_eq_true rfl, Nat.le_of_ble_eq_true rfl⟩ (dX8_digest_p0 38 rfl) 66 rfl (kX8_ofPlaceNow hs q1 q3 q4 i2 i5 i6 i7 i8 i9 (0 : Int32) f11 f12 i93 i111) rfl [0, 1, 2] [] (q0 := 0) rfl rfl rfl rfl (by decide) rfl rfl rfl rfl (Nat.le_of_ble_eq_true rfl) (bc) (bs) (show (bc) + 0 ≤ (bc) by omega) (show (bs) + 0 ≤ (bs) by omega) (fun z112 v w hz => ?_)
    obtain ⟨rfl, rfl⟩ := hz
    show V E K mX8_digest (Qm E K mX8_digest (zX8_digest E q1 q3 q4 i2 i5 i6 i7 i8 i9 f11 f12)) (bc) (bs) [(q1, .inr (9, [.int i2, .ref q3, .ref q4, .int i5, .int i6, .int i7, .int i8, .int i9, .int (0 : Int32)])), (q3, .inl (E.2.1, 81, .inl f11)), (q4, .inl (E.2.1, 81, .inl f12))] 66 [(0, .ref q1), (1, .long l110), (3, .int i93), (4, .int i111)] [.int z112, .long (l110 * (31 : Int64))] _
    refine V_i2l (dX8_digest_p0 39 rfl) 67 rfl ?_
    refine V_ladd (dX8_digest_p0 40 rfl) 68 rfl ?_
    refine V_nmL (fun l113 => ?_)
    refine V_lstore_n (dX8_digest_p0 41 rfl) 69 rfl [(0, .ref q1), (1, .long l113), (3, .int i93), (4, .int i111)] (Nat.le_of_ble_eq_true rfl) rfl ?_
    refine V_iinc (dX8_digest_p0 42 rfl) 72 rfl 3 rfl (i111 + (1 : Int32)) rfl [(0, .ref q1), (1, .long l113), (3, .int i93), (4, .int (i111 + (1 : Int32)))] (Nat.le_of_ble_eq_true rfl) rfl ?_
    refine V_goto (dX8_digest_p0 43 rfl) 48 (by decide) ?_
    exact hrec l113 (i111 + (1 : Int32))
set_option maxRecDepth 20000 in
theorem vLX8_digest_L48 {E : EX} {K : KX} (hs : K.l.stackTraces = false) (q1 q3 q4 : Nat) (i2 i5 i6 i7 i8 i9 : Int32) (f11 f12 : Nat → Int32) (i93 : Int32) (bc bs : Nat) {k1 : Int64 → Option (Int64)} (hk1 : ∀ (l114 : Int64), V E K mX8_digest (Qm E K mX8_digest (zX8_digest E q1 q3 q4 i2 i5 i6 i7 i8 i9 f11 f12)) (bc) (bs) [(q1, .inr (9, [.int i2, .ref q3, .ref q4, .int i5, .int i6, .int i7, .int i8, .int i9, .int (0 : Int32)])), (q3, .inl (E.2.1, 81, .inl f11)), (q4, .inl (E.2.1, 81, .inl f12))] 75 [(0, .ref q1), (1, .long l114), (3, .int i93)] [] (k1 l114)) : ∀ (n : Nat) (l110 : Int64) (i111 : Int32), V E K mX8_digest (Qm E K mX8_digest (zX8_digest E q1 q3 q4 i2 i5 i6 i7 i8 i9 f11 f12)) (bc) (bs) [(q1, .inr (9, [.int i2, .ref q3, .ref q4, .int i5, .int i6, .int i7, .int i8, .int i9, .int (0 : Int32)])), (q3, .inl (E.2.1, 81, .inl f11)), (q4, .inl (E.2.1, 81, .inl f12))] 48 [(0, .ref q1), (1, .long l110), (3, .int i93), (4, .int i111)] [] (LX8_digest_L48  i2 f11 f12 i93 n l110 i111 k1)
  | 0, _, _ => V_none
  | n + 1, l110, i111 => vBX8_digest_L48 hs q1 q3 q4 i2 i5 i6 i7 i8 i9 f11 f12 i93 bc bs l110 i111 (fun l110 i111 => vLX8_digest_L48 hs q1 q3 q4 i2 i5 i6 i7 i8 i9 f11 f12 i93 bc bs hk1 n l110 i111) hk1
set_option maxRecDepth 20000 in
theorem vBX8_digest_L91 {E : EX} {K : KX} (hs : K.l.stackTraces = false) (q1 q3 q4 : Nat) (i2 i5 i6 i7 i8 i9 : Int32) (f11 f12 : Nat → Int32) (i93 : Int32) (bc bs : Nat) (l134 : Int64) (i135 : Int32) {rec : Int64 → Int32 → Option (Int64)} {k1 : Int64 → Option (Int64)} (hrec : ∀ (l134 : Int64) (i135 : Int32), V E K mX8_digest (Qm E K mX8_digest (zX8_digest E q1 q3 q4 i2 i5 i6 i7 i8 i9 f11 f12)) (bc) (bs) [(q1, .inr (9, [.int i2, .ref q3, .ref q4, .int i5, .int i6, .int i7, .int i8, .int i9, .int (0 : Int32)])), (q3, .inl (E.2.1, 81, .inl f11)), (q4, .inl (E.2.1, 81, .inl f12))] 91 [(0, .ref q1), (1, .long l134), (3, .int i93), (4, .int i135)] [] (rec l134 i135)) (hk1 : ∀ (l139 : Int64), V E K mX8_digest (Qm E K mX8_digest (zX8_digest E q1 q3 q4 i2 i5 i6 i7 i8 i9 f11 f12)) (bc) (bs) [(q1, .inr (9, [.int i2, .ref q3, .ref q4, .int i5, .int i6, .int i7, .int i8, .int i9, .int (0 : Int32)])), (q3, .inl (E.2.1, 81, .inl f11)), (q4, .inl (E.2.1, 81, .inl f12))] 136 [(0, .ref q1), (1, .long l139), (3, .int i93)] [] (k1 l139)) : V E K mX8_digest (Qm E K mX8_digest (zX8_digest E q1 q3 q4 i2 i5 i6 i7 i8 i9 f11 f12)) (bc) (bs) [(q1, .inr (9, [.int i2, .ref q3, .ref q4, .int i5, .int i6, .int i7, .int i8, .int i9, .int (0 : Int32)])), (q3, .inl (E.2.1, 81, .inl f11)), (q4, .inl (E.2.1, 81, .inl f12))] 91 [(0, .ref q1), (1, .long l134), (3, .int i93), (4, .int i135)] [] (BX8_digest_L91  i2 f11 f12 i93 l134 i135 rec k1) := by
  unfold BX8_digest_L91
  refine V_iload (dX8_digest_p0 55 rfl) 93 rfl 3 rfl ?_
  refine V_aload_n (dX8_digest_p0 56 rfl) 94 rfl 0 rfl ?_
  refine V_get gf_M_17 0 rfl rfl (dX8_digest_p0 57 rfl) 97 rfl ?_
  refine V_icmp_ge (dX8_digest_p0 58 rfl) 136 (by decide) 100 rfl ?_ ?_
  · refine V_pick [0, 1, 2] [(0, .ref q1), (1, .long l134), (3, .int i93)] rfl ?_
    exact hk1 l134
  · refine V_lload_n (dX8_digest_p0 59 rfl) 101 rfl 1 rfl ?_
    refine V_ldc2 (M := mX8_digest) (v := (31 : Int64)) tw_1620 (dX8_digest_p0 60 rfl) 104 rfl ?_
    refine V_lmul (dX8_digest_p0 61 rfl) 105 rfl ?_
    refine V_aload_n (dX8_digest_p0 62 rfl) 106 rfl 0 rfl ?_
    refine V_iload_n (dX8_digest_p0 63 rfl) 107 rfl 2 rfl ?_
    refine V_iload (dX8_digest_p0 64 rfl) 109 rfl 3 rfl ?_
    refine V_iconst (0 : Int32) (by decide) (dX8_digest_p0 65 rfl) 110 rfl ?_
    refine V_callV (M := mX8_digest) (wcs := [(q1, .inr (9, [.int i2, .ref q3, .ref q4, .int i5, .int i6, .int i7, .int i8, .int i9, .int (0 : Int32)])), (q3, .inl (E.2.1, 81, .inl f11)), (q4, .inl (E.2.1, 81, .inl f12))]) (wr := []) mf_X8_pairNow tw_1442 tw_1444 tw_48 ⟨Nat.le_of_ble_eq_true rfl, Nat.le_of_ble_eq_true rfl⟩ (dX8_digest_p0 66 rfl) 113 rfl (kX8_pairNow hs q1 q3 q4 i2 i5 i6 i7 i8 i9 (0 : Int32) f11 f12 i93 i135 (0 : Int32)) rfl [0, 1, 2] [] (q0 := 0) rfl rfl rfl rfl (by decide) rfl rfl rfl rfl (Nat.le_of_ble_eq_true rfl) (bc) (bs) (show (bc) + 0 ≤ (bc) by omega) (show (bs) + 0 ≤ (bs) by omega) (fun z136 v w hz => ?_)
    obtain ⟨rfl, rfl⟩ := hz
    show V E K mX8_digest (Qm E K mX8_digest (zX8_digest E q1 q3 q4 i2 i5 i6 i7 i8 i9 f11 f12)) (bc) (bs) [(q1, .inr (9, [.int i2, .ref q3, .ref q4, .int i5, .int i6, .int i7, .int i8, .int i9, .int (0 : Int32)])), (q3, .inl (E.2.1, 81, .inl f11)), (q4, .inl (E.2.1, 81, .inl f12))] 113 [(0, .ref q1), (1, .long l134), (3, .int i93), (4, .int i135)] [.int z136, .long (l134 * (31 : Int64))] _
    refine V_i2l (dX8_digest_p0 67 rfl) 114 rfl ?_
    refine V_ladd (dX8_digest_p0 68 rfl) 115 rfl ?_
    refine V_ldc2 (M := mX8_digest) (v := (31 : Int64)) tw_1620 (dX8_digest_p0 69 rfl) 118 rfl ?_
    refine V_lmul (dX8_digest_p1 0 rfl) 119 rfl ?_
    refine V_aload_n (dX8_digest_p1 1 rfl) 120 rfl 0 rfl ?_
    refine V_iload_n (dX8_digest_p1 2 rfl) 121 rfl 2 rfl ?_
    refine V_iload (dX8_digest_p1 3 rfl) 123 rfl 3 rfl ?_
    refine V_iconst (1 : Int32) (by decide) (dX8_digest_p1 4 rfl) 124 rfl ?_
    refine V_callV (M := mX8_digest) (wcs := [(q1, .inr (9, [.int i2, .ref q3, .ref q4, .int i5, .int i6, .int i7, .int i8, .int i9, .int (0 : Int32)])), (q3, .inl (E.2.1, 81, .inl f11)), (q4, .inl (E.2.1, 81, .inl f12))]) (wr := []) mf_X8_pairNow tw_1442 tw_1444 tw_48 ⟨Nat.le_of_ble_eq_true rfl, Nat.le_of_ble_eq_true rfl⟩ (dX8_digest_p1 5 rfl) 127 rfl (kX8_pairNow hs q1 q3 q4 i2 i5 i6 i7 i8 i9 (0 : Int32) f11 f12 i93 i135 (1 : Int32)) rfl [0, 1, 2] [] (q0 := 0) rfl rfl rfl rfl (by decide) rfl rfl rfl rfl (Nat.le_of_ble_eq_true rfl) (bc) (bs) (show (bc) + 0 ≤ (bc) by omega) (show (bs) + 0 ≤ (bs) by omega) (fun z137 v w hz => ?_)
    obtain ⟨rfl, rfl⟩ := hz
    show V E K mX8_digest (Qm E K mX8_digest (zX8_digest E q1 q3 q4 i2 i5 i6 i7 i8 i9 f11 f12)) (bc) (bs) [(q1, .inr (9, [.int i2, .ref q3, .ref q4, .int i5, .int i6, .int i7, .int i8, .int i9, .int (0 : Int32)])), (q3, .inl (E.2.1, 81, .inl f11)), (q4, .inl (E.2.1, 81, .inl f12))] 127 [(0, .ref q1), (1, .long l134), (3, .int i93), (4, .int i135)] [.int z137, .long (((l134 * (31 : Int64)) + z136.toInt64) * (31 : Int64))] _
    refine V_i2l (dX8_digest_p1 6 rfl) 128 rfl ?_
    refine V_ladd (dX8_digest_p1 7 rfl) 129 rfl ?_
    refine V_nmL (fun l138 => ?_)
    refine V_lstore_n (dX8_digest_p1 8 rfl) 130 rfl [(0, .ref q1), (1, .long l138), (3, .int i93), (4, .int i135)] (Nat.le_of_ble_eq_true rfl) rfl ?_
    refine V_iinc (dX8_digest_p1 9 rfl) 133 rfl 3 rfl (i135 + (1 : Int32)) rfl [(0, .ref q1), (1, .long l138), (3, .int i93), (4, .int (i135 + (1 : Int32)))] (Nat.le_of_ble_eq_true rfl) rfl ?_
    refine V_goto (dX8_digest_p1 10 rfl) 91 (by decide) ?_
    exact hrec l138 (i135 + (1 : Int32))
set_option maxRecDepth 20000 in
theorem vLX8_digest_L91 {E : EX} {K : KX} (hs : K.l.stackTraces = false) (q1 q3 q4 : Nat) (i2 i5 i6 i7 i8 i9 : Int32) (f11 f12 : Nat → Int32) (i93 : Int32) (bc bs : Nat) {k1 : Int64 → Option (Int64)} (hk1 : ∀ (l139 : Int64), V E K mX8_digest (Qm E K mX8_digest (zX8_digest E q1 q3 q4 i2 i5 i6 i7 i8 i9 f11 f12)) (bc) (bs) [(q1, .inr (9, [.int i2, .ref q3, .ref q4, .int i5, .int i6, .int i7, .int i8, .int i9, .int (0 : Int32)])), (q3, .inl (E.2.1, 81, .inl f11)), (q4, .inl (E.2.1, 81, .inl f12))] 136 [(0, .ref q1), (1, .long l139), (3, .int i93)] [] (k1 l139)) : ∀ (n : Nat) (l134 : Int64) (i135 : Int32), V E K mX8_digest (Qm E K mX8_digest (zX8_digest E q1 q3 q4 i2 i5 i6 i7 i8 i9 f11 f12)) (bc) (bs) [(q1, .inr (9, [.int i2, .ref q3, .ref q4, .int i5, .int i6, .int i7, .int i8, .int i9, .int (0 : Int32)])), (q3, .inl (E.2.1, 81, .inl f11)), (q4, .inl (E.2.1, 81, .inl f12))] 91 [(0, .ref q1), (1, .long l134), (3, .int i93), (4, .int i135)] [] (LX8_digest_L91  i2 f11 f12 i93 n l134 i135 k1)
  | 0, _, _ => V_none
  | n + 1, l134, i135 => vBX8_digest_L91 hs q1 q3 q4 i2 i5 i6 i7 i8 i9 f11 f12 i93 bc bs l134 i135 (fun l134 i135 => vLX8_digest_L91 hs q1 q3 q4 i2 i5 i6 i7 i8 i9 f11 f12 i93 bc bs hk1 n l134 i135) hk1
set_option maxRecDepth 20000 in
theorem vBX8_digest_L37 {E : EX} {K : KX} (hs : K.l.stackTraces = false) (q1 q3 q4 : Nat) (i2 i5 i6 i7 i8 i9 : Int32) (f11 f12 : Nat → Int32) (bc bs : Nat) (l92 : Int64) (i93 : Int32) {rec : Int64 → Int32 → Option (Int64)} {k1 : Int64 → Option (Int64)} (hrec : ∀ (l92 : Int64) (i93 : Int32), V E K mX8_digest (Qm E K mX8_digest (zX8_digest E q1 q3 q4 i2 i5 i6 i7 i8 i9 f11 f12)) (bc) (bs) [(q1, .inr (9, [.int i2, .ref q3, .ref q4, .int i5, .int i6, .int i7, .int i8, .int i9, .int (0 : Int32)])), (q3, .inl (E.2.1, 81, .inl f11)), (q4, .inl (E.2.1, 81, .inl f12))] 37 [(0, .ref q1), (1, .long l92), (3, .int i93)] [] (rec l92 i93)) (hk1 : ∀ (l140 : Int64), V E K mX8_digest (Qm E K mX8_digest (zX8_digest E q1 q3 q4 i2 i5 i6 i7 i8 i9 f11 f12)) (bc) (bs) [(q1, .inr (9, [.int i2, .ref q3, .ref q4, .int i5, .int i6, .int i7, .int i8, .int i9, .int (0 : Int32)])), (q3, .inl (E.2.1, 81, .inl f11)), (q4, .inl (E.2.1, 81, .inl f12))] 142 [(0, .ref q1), (1, .long l140)] [] (k1 l140)) : V E K mX8_digest (Qm E K mX8_digest (zX8_digest E q1 q3 q4 i2 i5 i6 i7 i8 i9 f11 f12)) (bc) (bs) [(q1, .inr (9, [.int i2, .ref q3, .ref q4, .int i5, .int i6, .int i7, .int i8, .int i9, .int (0 : Int32)])), (q3, .inl (E.2.1, 81, .inl f11)), (q4, .inl (E.2.1, 81, .inl f12))] 37 [(0, .ref q1), (1, .long l92), (3, .int i93)] [] (BX8_digest_L37  i2 i5 f11 f12 l92 i93 rec k1) := by
  unfold BX8_digest_L37
  refine V_iload_n (dX8_digest_p0 23 rfl) 38 rfl 2 rfl ?_
  refine V_aload_n (dX8_digest_p0 24 rfl) 39 rfl 0 rfl ?_
  refine V_get gf_M_17 0 rfl rfl (dX8_digest_p0 25 rfl) 42 rfl ?_
  refine V_icmp_ge (dX8_digest_p0 26 rfl) 142 (by decide) 45 rfl ?_ ?_
  · refine V_pick [0, 1] [(0, .ref q1), (1, .long l92)] rfl ?_
    exact hk1 l92
  · refine V_iconst (0 : Int32) (by decide) (dX8_digest_p0 27 rfl) 46 rfl ?_
    refine V_istore (dX8_digest_p0 28 rfl) 48 rfl [(0, .ref q1), (1, .long l92), (3, .int i93), (4, .int (0 : Int32))] (Nat.le_of_ble_eq_true rfl) rfl ?_
    refine vLX8_digest_L48 hs q1 q3 q4 i2 i5 i6 i7 i8 i9 f11 f12 i93 (bc) (bs) ?_ 600 l92 (0 : Int32)
    intro l114
    show V E K mX8_digest (Qm E K mX8_digest (zX8_digest E q1 q3 q4 i2 i5 i6 i7 i8 i9 f11 f12)) (bc) (bs) [(q1, .inr (9, [.int i2, .ref q3, .ref q4, .int i5, .int i6, .int i7, .int i8, .int i9, .int (0 : Int32)])), (q3, .inl (E.2.1, 81, .inl f11)), (q4, .inl (E.2.1, 81, .inl f12))] 75 [(0, .ref q1), (1, .long l114), (3, .int i93)] [] _
    refine V_lload_n (dX8_digest_p0 44 rfl) 76 rfl 1 rfl ?_
    refine V_ldc2 (M := mX8_digest) (v := (31 : Int64)) tw_1620 (dX8_digest_p0 45 rfl) 79 rfl ?_
    refine V_lmul (dX8_digest_p0 46 rfl) 80 rfl ?_
    refine V_aload_n (dX8_digest_p0 47 rfl) 81 rfl 0 rfl ?_
    refine V_iload_n (dX8_digest_p0 48 rfl) 82 rfl 2 rfl ?_
    refine V_callV (M := mX8_digest) (wcs := [(q1, .inr (9, [.int i2, .ref q3, .ref q4, .int i5, .int i6, .int i7, .int i8, .int i9, .int (0 : Int32)])), (q3, .inl (E.2.1, 81, .inl f11)), (q4, .inl (E.2.1, 81, .inl f12))]) (wr := []) mf_X8_layerNow tw_1543 tw_1545 tw_57 ⟨Nat.le_of_ble_eq_true rfl, Nat.le_of_ble_eq_true rfl⟩ (dX8_digest_p0 49 rfl) 85 rfl (kX8_layerNow hs q1 q3 q4 i2 i5 i6 i7 i8 i9 (0 : Int32) f11 f12 i93) rfl [0, 1, 2] [] (q0 := 0) rfl rfl rfl rfl (by decide) rfl rfl rfl rfl (Nat.le_of_ble_eq_true rfl) (bc) (bs) (show (bc) + 0 ≤ (bc) by omega) (show (bs) + 0 ≤ (bs) by omega) (fun z115 v w hz => ?_)
    obtain ⟨rfl, rfl⟩ := hz
    show V E K mX8_digest (Qm E K mX8_digest (zX8_digest E q1 q3 q4 i2 i5 i6 i7 i8 i9 f11 f12)) (bc) (bs) [(q1, .inr (9, [.int i2, .ref q3, .ref q4, .int i5, .int i6, .int i7, .int i8, .int i9, .int (0 : Int32)])), (q3, .inl (E.2.1, 81, .inl f11)), (q4, .inl (E.2.1, 81, .inl f12))] 85 [(0, .ref q1), (1, .long l114), (3, .int i93)] [.int z115, .long (l114 * (31 : Int64))] _
    refine V_i2l (dX8_digest_p0 50 rfl) 86 rfl ?_
    refine V_ladd (dX8_digest_p0 51 rfl) 87 rfl ?_
    refine V_nmL (fun l116 => ?_)
    refine V_lstore_n (dX8_digest_p0 52 rfl) 88 rfl [(0, .ref q1), (1, .long l116), (3, .int i93)] (Nat.le_of_ble_eq_true rfl) rfl ?_
    refine V_iconst (0 : Int32) (by decide) (dX8_digest_p0 53 rfl) 89 rfl ?_
    refine V_istore (dX8_digest_p0 54 rfl) 91 rfl [(0, .ref q1), (1, .long l116), (3, .int i93), (4, .int (0 : Int32))] (Nat.le_of_ble_eq_true rfl) rfl ?_
    refine vLX8_digest_L91 hs q1 q3 q4 i2 i5 i6 i7 i8 i9 f11 f12 i93 (bc) (bs) ?_ 600 l116 (0 : Int32)
    intro l139
    show V E K mX8_digest (Qm E K mX8_digest (zX8_digest E q1 q3 q4 i2 i5 i6 i7 i8 i9 f11 f12)) (bc) (bs) [(q1, .inr (9, [.int i2, .ref q3, .ref q4, .int i5, .int i6, .int i7, .int i8, .int i9, .int (0 : Int32)])), (q3, .inl (E.2.1, 81, .inl f11)), (q4, .inl (E.2.1, 81, .inl f12))] 136 [(0, .ref q1), (1, .long l139), (3, .int i93)] [] _
    refine V_iinc (dX8_digest_p1 11 rfl) 139 rfl 2 rfl (i93 + (1 : Int32)) rfl [(0, .ref q1), (1, .long l139), (3, .int (i93 + (1 : Int32)))] (Nat.le_of_ble_eq_true rfl) rfl ?_
    refine V_goto (dX8_digest_p1 12 rfl) 37 (by decide) ?_
    exact hrec l139 (i93 + (1 : Int32))
set_option maxRecDepth 20000 in
theorem vLX8_digest_L37 {E : EX} {K : KX} (hs : K.l.stackTraces = false) (q1 q3 q4 : Nat) (i2 i5 i6 i7 i8 i9 : Int32) (f11 f12 : Nat → Int32) (bc bs : Nat) {k1 : Int64 → Option (Int64)} (hk1 : ∀ (l140 : Int64), V E K mX8_digest (Qm E K mX8_digest (zX8_digest E q1 q3 q4 i2 i5 i6 i7 i8 i9 f11 f12)) (bc) (bs) [(q1, .inr (9, [.int i2, .ref q3, .ref q4, .int i5, .int i6, .int i7, .int i8, .int i9, .int (0 : Int32)])), (q3, .inl (E.2.1, 81, .inl f11)), (q4, .inl (E.2.1, 81, .inl f12))] 142 [(0, .ref q1), (1, .long l140)] [] (k1 l140)) : ∀ (n : Nat) (l92 : Int64) (i93 : Int32), V E K mX8_digest (Qm E K mX8_digest (zX8_digest E q1 q3 q4 i2 i5 i6 i7 i8 i9 f11 f12)) (bc) (bs) [(q1, .inr (9, [.int i2, .ref q3, .ref q4, .int i5, .int i6, .int i7, .int i8, .int i9, .int (0 : Int32)])), (q3, .inl (E.2.1, 81, .inl f11)), (q4, .inl (E.2.1, 81, .inl f12))] 37 [(0, .ref q1), (1, .long l92), (3, .int i93)] [] (LX8_digest_L37  i2 i5 f11 f12 n l92 i93 k1)
  | 0, _, _ => V_none
  | n + 1, l92, i93 => vBX8_digest_L37 hs q1 q3 q4 i2 i5 i6 i7 i8 i9 f11 f12 bc bs l92 i93 (fun l92 i93 => vLX8_digest_L37 hs q1 q3 q4 i2 i5 i6 i7 i8 i9 f11 f12 bc bs hk1 n l92 i93) hk1
set_option maxRecDepth 20000 in
theorem vBX8_digest_L247 {E : EX} {K : KX} (hs : K.l.stackTraces = false) (q1 q3 q4 : Nat) (i2 i5 i6 i7 i8 i9 : Int32) (f11 f12 : Nat → Int32) (bc bs : Nat) (l171 : Int64) (i172 : Int32) {rec : Int64 → Int32 → Option (Int64)} {k1 : Int64 → Option (Int64)} (hrec : ∀ (l171 : Int64) (i172 : Int32), V E K mX8_digest (Qm E K mX8_digest (zX8_digest E q1 q3 q4 i2 i5 i6 i7 i8 i9 f11 f12)) (bc) (bs) [(q1, .inr (9, [.int i2, .ref q3, .ref q4, .int i5, .int i6, .int i7, .int i8, .int i9, .int (0 : Int32)])), (q3, .inl (E.2.1, 81, .inl f11)), (q4, .inl (E.2.1, 81, .inl f12))] 247 [(0, .ref q1), (1, .long l171), (3, .int i172)] [] (rec l171 i172)) (hk1 : ∀ (l175 : Int64), V E K mX8_digest (Qm E K mX8_digest (zX8_digest E q1 q3 q4 i2 i5 i6 i7 i8 i9 f11 f12)) (bc) (bs) [(q1, .inr (9, [.int i2, .ref q3, .ref q4, .int i5, .int i6, .int i7, .int i8, .int i9, .int (0 : Int32)])), (q3, .inl (E.2.1, 81, .inl f11)), (q4, .inl (E.2.1, 81, .inl f12))] 271 [(0, .ref q1), (1, .long l175)] [] (k1 l175)) : V E K mX8_digest (Qm E K mX8_digest (zX8_digest E q1 q3 q4 i2 i5 i6 i7 i8 i9 f11 f12)) (bc) (bs) [(q1, .inr (9, [.int i2, .ref q3, .ref q4, .int i5, .int i6, .int i7, .int i8, .int i9, .int (0 : Int32)])), (q3, .inl (E.2.1, 81, .inl f11)), (q4, .inl (E.2.1, 81, .inl f12))] 247 [(0, .ref q1), (1, .long l171), (3, .int i172)] [] (BX8_digest_L247  i7 i8 i9 l171 i172 rec k1) := by
  unfold BX8_digest_L247
  refine V_iload_n (dX8_digest_p2 10 rfl) 248 rfl 2 rfl ?_
  refine V_iconst (3 : Int32) (by decide) (dX8_digest_p2 11 rfl) 249 rfl ?_
  refine V_icmp_ge (dX8_digest_p2 12 rfl) 271 (by decide) 252 rfl ?_ ?_
  · refine V_pick [0, 1] [(0, .ref q1), (1, .long l171)] rfl ?_
    exact hk1 l171
  · refine V_lload_n (dX8_digest_p2 13 rfl) 253 rfl 1 rfl ?_
    refine V_ldc2 (M := mX8_digest) (v := (31 : Int64)) tw_1620 (dX8_digest_p2 14 rfl) 256 rfl ?_
    refine V_lmul (dX8_digest_p2 15 rfl) 257 rfl ?_
    refine V_aload_n (dX8_digest_p2 16 rfl) 258 rfl 0 rfl ?_
    refine V_iload_n (dX8_digest_p2 17 rfl) 259 rfl 2 rfl ?_
    refine V_callV (M := mX8_digest) (wcs := [(q1, .inr (9, [.int i2, .ref q3, .ref q4, .int i5, .int i6, .int i7, .int i8, .int i9, .int (0 : Int32)]))]) (wr := [(q3, .inl (E.2.1, 81, .inl f11)), (q4, .inl (E.2.1, 81, .inl f12))]) mf_X8_houseNow tw_1599 tw_1601 tw_62 ⟨Nat.le_of_ble_eq_true rfl, Nat.le_of_ble_eq_true rfl⟩ (dX8_digest_p2 18 rfl) 262 rfl (kX8_houseNow hs q1 i2 (.ref q3) (.ref q4) i5 i6 i7 i8 i9 (0 : Int32) i172) rfl [0] [1, 2] (q0 := 0) rfl rfl rfl rfl (by decide) rfl rfl rfl rfl (Nat.le_of_ble_eq_true rfl) (bc) (bs) (show (bc) + 0 ≤ (bc) by omega) (show (bs) + 0 ≤ (bs) by omega) (fun z173 v w hz => ?_)
    obtain ⟨rfl, rfl⟩ := hz
    show V E K mX8_digest (Qm E K mX8_digest (zX8_digest E q1 q3 q4 i2 i5 i6 i7 i8 i9 f11 f12)) (bc) (bs) [(q3, .inl (E.2.1, 81, .inl f11)), (q4, .inl (E.2.1, 81, .inl f12)), (q1, .inr (9, [.int i2, .ref q3, .ref q4, .int i5, .int i6, .int i7, .int i8, .int i9, .int (0 : Int32)]))] 262 [(0, .ref q1), (1, .long l171), (3, .int i172)] [.int z173, .long (l171 * (31 : Int64))] _
    refine V_i2l (dX8_digest_p2 19 rfl) 263 rfl ?_
    refine V_ladd (dX8_digest_p2 20 rfl) 264 rfl ?_
    refine V_nmL (fun l174 => ?_)
    refine V_lstore_n (dX8_digest_p2 21 rfl) 265 rfl [(0, .ref q1), (1, .long l174), (3, .int i172)] (Nat.le_of_ble_eq_true rfl) rfl ?_
    refine V_iinc (dX8_digest_p2 22 rfl) 268 rfl 2 rfl (i172 + (1 : Int32)) rfl [(0, .ref q1), (1, .long l174), (3, .int (i172 + (1 : Int32)))] (Nat.le_of_ble_eq_true rfl) rfl ?_
    refine V_goto (dX8_digest_p2 23 rfl) 247 (by decide) ?_
    refine V_world [2, 0, 1] [(q1, .inr (9, [.int i2, .ref q3, .ref q4, .int i5, .int i6, .int i7, .int i8, .int i9, .int (0 : Int32)])), (q3, .inl (E.2.1, 81, .inl f11)), (q4, .inl (E.2.1, 81, .inl f12))] rfl rfl rfl ?_
    exact hrec l174 (i172 + (1 : Int32))
set_option maxRecDepth 20000 in
theorem vLX8_digest_L247 {E : EX} {K : KX} (hs : K.l.stackTraces = false) (q1 q3 q4 : Nat) (i2 i5 i6 i7 i8 i9 : Int32) (f11 f12 : Nat → Int32) (bc bs : Nat) {k1 : Int64 → Option (Int64)} (hk1 : ∀ (l175 : Int64), V E K mX8_digest (Qm E K mX8_digest (zX8_digest E q1 q3 q4 i2 i5 i6 i7 i8 i9 f11 f12)) (bc) (bs) [(q1, .inr (9, [.int i2, .ref q3, .ref q4, .int i5, .int i6, .int i7, .int i8, .int i9, .int (0 : Int32)])), (q3, .inl (E.2.1, 81, .inl f11)), (q4, .inl (E.2.1, 81, .inl f12))] 271 [(0, .ref q1), (1, .long l175)] [] (k1 l175)) : ∀ (n : Nat) (l171 : Int64) (i172 : Int32), V E K mX8_digest (Qm E K mX8_digest (zX8_digest E q1 q3 q4 i2 i5 i6 i7 i8 i9 f11 f12)) (bc) (bs) [(q1, .inr (9, [.int i2, .ref q3, .ref q4, .int i5, .int i6, .int i7, .int i8, .int i9, .int (0 : Int32)])), (q3, .inl (E.2.1, 81, .inl f11)), (q4, .inl (E.2.1, 81, .inl f12))] 247 [(0, .ref q1), (1, .long l171), (3, .int i172)] [] (LX8_digest_L247  i7 i8 i9 n l171 i172 k1)
  | 0, _, _ => V_none
  | n + 1, l171, i172 => vBX8_digest_L247 hs q1 q3 q4 i2 i5 i6 i7 i8 i9 f11 f12 bc bs l171 i172 (fun l171 i172 => vLX8_digest_L247 hs q1 q3 q4 i2 i5 i6 i7 i8 i9 f11 f12 bc bs hk1 n l171 i172) hk1
set_option maxRecDepth 20000 in
theorem kX8_digest {E : EX} {l : Launch} (hl : l.stackTraces = false) (q1 q3 q4 : Nat) (i2 i5 i6 i7 i8 i9 i10 : Int32) (f11 f12 : Nat → Int32) : Ct E l mX8_digest [.ref q1] [(q1, .inr (9, [.int i2, .ref q3, .ref q4, .int i5, .int i6, .int i7, .int i8, .int i9, .int i10])), (q3, .inl (E.2.1, 81, .inl f11)), (q4, .inl (E.2.1, 81, .inl f12))] (fX8_digest i2 i5 i6 i7 i8 i9 f11 f12) (zX8_digest E q1 q3 q4 i2 i5 i6 i7 i8 i9 f11 f12) := Ct_of hl mf_X8_digest.1 (Nat.le_of_ble_eq_true rfl) (fun K hs => by
  refine V_less 679 26949 (Nat.le_refl _) (Nat.le_refl _) ?_
  refine V_pick [0] [(0, .ref q1)] rfl ?_
  unfold fX8_digest
  refine V_aload_n (dX8_digest_p0 0 rfl) 1 rfl 0 rfl ?_
  refine V_iconst (0 : Int32) (by decide) (dX8_digest_p0 1 rfl) 2 rfl ?_
  refine V_put pf_M_13 0 rfl rfl rfl (Nat.le_of_ble_eq_true rfl) (dX8_digest_p0 2 rfl) 5 rfl [(q1, .inr (9, [.int i2, .ref q3, .ref q4, .int i5, .int i6, .int i7, .int i8, .int i9, .int (0 : Int32)])), (q3, .inl (E.2.1, 81, .inl f11)), (q4, .inl (E.2.1, 81, .inl f12))] rfl ?_
  refine V_ldc2 (M := mX8_digest) (v := (8026 : Int64)) tw_1619 (dX8_digest_p0 3 rfl) 8 rfl ?_
  refine V_lstore_n (dX8_digest_p0 4 rfl) 9 rfl [(0, .ref q1), (1, .long (8026 : Int64))] (Nat.le_of_ble_eq_true rfl) rfl ?_
  refine V_iconst (0 : Int32) (by decide) (dX8_digest_p0 5 rfl) 10 rfl ?_
  refine V_istore_n (dX8_digest_p0 6 rfl) 11 rfl [(0, .ref q1), (1, .long (8026 : Int64)), (3, .int (0 : Int32))] (Nat.le_of_ble_eq_true rfl) rfl ?_
  refine vLX8_digest_L11 hs q1 q3 q4 i2 i5 i6 i7 i8 i9 f11 f12 679 26949 ?_ 600 (8026 : Int64) (0 : Int32)
  intro l32
  show V E K mX8_digest (Qm E K mX8_digest (zX8_digest E q1 q3 q4 i2 i5 i6 i7 i8 i9 f11 f12)) 679 26949 [(q1, .inr (9, [.int i2, .ref q3, .ref q4, .int i5, .int i6, .int i7, .int i8, .int i9, .int (0 : Int32)])), (q3, .inl (E.2.1, 81, .inl f11)), (q4, .inl (E.2.1, 81, .inl f12))] 35 [(0, .ref q1), (1, .long l32)] [] _
  refine V_iconst (0 : Int32) (by decide) (dX8_digest_p0 21 rfl) 36 rfl ?_
  refine V_istore_n (dX8_digest_p0 22 rfl) 37 rfl [(0, .ref q1), (1, .long l32), (3, .int (0 : Int32))] (Nat.le_of_ble_eq_true rfl) rfl ?_
  refine vLX8_digest_L37 hs q1 q3 q4 i2 i5 i6 i7 i8 i9 f11 f12 679 26949 ?_ 600 l32 (0 : Int32)
  intro l140
  show V E K mX8_digest (Qm E K mX8_digest (zX8_digest E q1 q3 q4 i2 i5 i6 i7 i8 i9 f11 f12)) 679 26949 [(q1, .inr (9, [.int i2, .ref q3, .ref q4, .int i5, .int i6, .int i7, .int i8, .int i9, .int (0 : Int32)])), (q3, .inl (E.2.1, 81, .inl f11)), (q4, .inl (E.2.1, 81, .inl f12))] 142 [(0, .ref q1), (1, .long l140)] [] _
  refine V_lload_n (dX8_digest_p1 13 rfl) 143 rfl 1 rfl ?_
  refine V_ldc2 (M := mX8_digest) (v := (31 : Int64)) tw_1620 (dX8_digest_p1 14 rfl) 146 rfl ?_
  refine V_lmul (dX8_digest_p1 15 rfl) 147 rfl ?_
  refine V_aload_n (dX8_digest_p1 16 rfl) 148 rfl 0 rfl ?_
  refine V_callV (M := mX8_digest) (wcs := [(q1, .inr (9, [.int i2, .ref q3, .ref q4, .int i5, .int i6, .int i7, .int i8, .int i9, .int (0 : Int32)])), (q4, .inl (E.2.1, 81, .inl f12))]) (wr := [(q3, .inl (E.2.1, 81, .inl f11))]) mf_X8_valueNow tw_1303 tw_1305 tw_31 ⟨Nat.le_of_ble_eq_true rfl, Nat.le_of_ble_eq_true rfl⟩ (dX8_digest_p1 17 rfl) 151 rfl (kX8_valueNow hs q1 q4 i2 (.ref q3) i5 i6 i7 i8 i9 (0 : Int32) f12) rfl [0, 2] [1] (q0 := 0) rfl rfl rfl rfl (by decide) rfl rfl rfl rfl (Nat.le_of_ble_eq_true rfl) 679 26949 (show 679 + 0 ≤ 679 from Nat.le_of_ble_eq_true rfl) (show 26949 + 0 ≤ 26949 from Nat.le_of_ble_eq_true rfl) (fun z141 v w hz => ?_)
  obtain ⟨rfl, rfl⟩ := hz
  show V E K mX8_digest (Qm E K mX8_digest (zX8_digest E q1 q3 q4 i2 i5 i6 i7 i8 i9 f11 f12)) 679 26949 [(q3, .inl (E.2.1, 81, .inl f11)), (q1, .inr (9, [.int i2, .ref q3, .ref q4, .int i5, .int i6, .int i7, .int i8, .int i9, .int (0 : Int32)])), (q4, .inl (E.2.1, 81, .inl f12))] 151 [(0, .ref q1), (1, .long l140)] [.int z141, .long (l140 * (31 : Int64))] _
  refine V_i2l (dX8_digest_p1 18 rfl) 152 rfl ?_
  refine V_ladd (dX8_digest_p1 19 rfl) 153 rfl ?_
  refine V_ldc2 (M := mX8_digest) (v := (31 : Int64)) tw_1620 (dX8_digest_p1 20 rfl) 156 rfl ?_
  refine V_lmul (dX8_digest_p1 21 rfl) 157 rfl ?_
  refine V_aload_n (dX8_digest_p1 22 rfl) 158 rfl 0 rfl ?_
  refine V_callV (M := mX8_digest) (wcs := [(q1, .inr (9, [.int i2, .ref q3, .ref q4, .int i5, .int i6, .int i7, .int i8, .int i9, .int (0 : Int32)])), (q3, .inl (E.2.1, 81, .inl f11))]) (wr := [(q4, .inl (E.2.1, 81, .inl f12))]) mf_X8_leastNow tw_1490 tw_1492 tw_53 ⟨Nat.le_of_ble_eq_true rfl, Nat.le_of_ble_eq_true rfl⟩ (dX8_digest_p1 23 rfl) 161 rfl (kX8_leastNow hs q1 q3 i2 (.ref q4) i5 i6 i7 i8 i9 (0 : Int32) f11) rfl [1, 0] [2] (q0 := 0) rfl rfl rfl rfl (by decide) rfl rfl rfl rfl (Nat.le_of_ble_eq_true rfl) 679 26949 (show 679 + 0 ≤ 679 from Nat.le_of_ble_eq_true rfl) (show 26949 + 0 ≤ 26949 from Nat.le_of_ble_eq_true rfl) (fun z142 v w hz => ?_)
  obtain ⟨rfl, rfl⟩ := hz
  show V E K mX8_digest (Qm E K mX8_digest (zX8_digest E q1 q3 q4 i2 i5 i6 i7 i8 i9 f11 f12)) 679 26949 [(q4, .inl (E.2.1, 81, .inl f12)), (q1, .inr (9, [.int i2, .ref q3, .ref q4, .int i5, .int i6, .int i7, .int i8, .int i9, .int (0 : Int32)])), (q3, .inl (E.2.1, 81, .inl f11))] 161 [(0, .ref q1), (1, .long l140)] [.int z142, .long (((l140 * (31 : Int64)) + z141.toInt64) * (31 : Int64))] _
  refine V_i2l (dX8_digest_p1 24 rfl) 162 rfl ?_
  refine V_ladd (dX8_digest_p1 25 rfl) 163 rfl ?_
  refine V_ldc2 (M := mX8_digest) (v := (31 : Int64)) tw_1620 (dX8_digest_p1 26 rfl) 166 rfl ?_
  refine V_lmul (dX8_digest_p1 27 rfl) 167 rfl ?_
  refine V_aload_n (dX8_digest_p1 28 rfl) 168 rfl 0 rfl ?_
  refine V_callV (M := mX8_digest) (wcs := [(q1, .inr (9, [.int i2, .ref q3, .ref q4, .int i5, .int i6, .int i7, .int i8, .int i9, .int (0 : Int32)])), (q3, .inl (E.2.1, 81, .inl f11))]) (wr := [(q4, .inl (E.2.1, 81, .inl f12))]) mf_X8_leastsNow tw_1506 tw_1508 tw_55 ⟨Nat.le_of_ble_eq_true rfl, Nat.le_of_ble_eq_true rfl⟩ (dX8_digest_p1 29 rfl) 171 rfl (kX8_leastsNow hs q1 q3 i2 (.ref q4) i5 i6 i7 i8 i9 (0 : Int32) f11) rfl [1, 2] [0] (q0 := 0) rfl rfl rfl rfl (by decide) rfl rfl rfl rfl (Nat.le_of_ble_eq_true rfl) 679 26949 (show 679 + 0 ≤ 679 from Nat.le_of_ble_eq_true rfl) (show 26949 + 0 ≤ 26949 from Nat.le_of_ble_eq_true rfl) (fun z143 v w hz => ?_)
  obtain ⟨rfl, rfl⟩ := hz
  show V E K mX8_digest (Qm E K mX8_digest (zX8_digest E q1 q3 q4 i2 i5 i6 i7 i8 i9 f11 f12)) 679 26949 [(q4, .inl (E.2.1, 81, .inl f12)), (q1, .inr (9, [.int i2, .ref q3, .ref q4, .int i5, .int i6, .int i7, .int i8, .int i9, .int (0 : Int32)])), (q3, .inl (E.2.1, 81, .inl f11))] 171 [(0, .ref q1), (1, .long l140)] [.int z143, .long (((((l140 * (31 : Int64)) + z141.toInt64) * (31 : Int64)) + z142.toInt64) * (31 : Int64))] _
  refine V_i2l (dX8_digest_p1 30 rfl) 172 rfl ?_
  refine V_ladd (dX8_digest_p1 31 rfl) 173 rfl ?_
  refine V_nmL (fun l144 => ?_)
  refine V_lstore_n (dX8_digest_p1 32 rfl) 174 rfl [(0, .ref q1), (1, .long l144)] (Nat.le_of_ble_eq_true rfl) rfl ?_
  refine V_lload_n (dX8_digest_p1 33 rfl) 175 rfl 1 rfl ?_
  refine V_ldc2 (M := mX8_digest) (v := (31 : Int64)) tw_1620 (dX8_digest_p1 34 rfl) 178 rfl ?_
  refine V_lmul (dX8_digest_p1 35 rfl) 179 rfl ?_
  refine V_aload_n (dX8_digest_p1 36 rfl) 180 rfl 0 rfl ?_
  refine V_iconst (0 : Int32) (by decide) (dX8_digest_p1 37 rfl) 181 rfl ?_
  refine V_callV (M := mX8_digest) (wcs := [(q1, .inr (9, [.int i2, .ref q3, .ref q4, .int i5, .int i6, .int i7, .int i8, .int i9, .int (0 : Int32)])), (q3, .inl (E.2.1, 81, .inl f11))]) (wr := [(q4, .inl (E.2.1, 81, .inl f12))]) mf_X8_endNow tw_1518 tw_1520 tw_56 ⟨Nat.le_of_ble_eq_true rfl, Nat.le_of_ble_eq_true rfl⟩ (dX8_digest_p1 38 rfl) 184 rfl (kX8_endNow hs q1 q3 i2 (.ref q4) i5 i6 i7 i8 i9 (0 : Int32) f11 (0 : Int32)) rfl [1, 2] [0] (q0 := 0) rfl rfl rfl rfl (by decide) rfl rfl rfl rfl (Nat.le_of_ble_eq_true rfl) 679 26949 (show 679 + 0 ≤ 679 from Nat.le_of_ble_eq_true rfl) (show 26949 + 0 ≤ 26949 from Nat.le_of_ble_eq_true rfl) (fun z145 v w hz => ?_)
  obtain ⟨rfl, rfl⟩ := hz
  show V E K mX8_digest (Qm E K mX8_digest (zX8_digest E q1 q3 q4 i2 i5 i6 i7 i8 i9 f11 f12)) 679 26949 [(q4, .inl (E.2.1, 81, .inl f12)), (q1, .inr (9, [.int i2, .ref q3, .ref q4, .int i5, .int i6, .int i7, .int i8, .int i9, .int (0 : Int32)])), (q3, .inl (E.2.1, 81, .inl f11))] 184 [(0, .ref q1), (1, .long l144)] [.int z145, .long (l144 * (31 : Int64))] _
  refine V_i2l (dX8_digest_p1 39 rfl) 185 rfl ?_
  refine V_ladd (dX8_digest_p1 40 rfl) 186 rfl ?_
  refine V_ldc2 (M := mX8_digest) (v := (31 : Int64)) tw_1620 (dX8_digest_p1 41 rfl) 189 rfl ?_
  refine V_lmul (dX8_digest_p1 42 rfl) 190 rfl ?_
  refine V_aload_n (dX8_digest_p1 43 rfl) 191 rfl 0 rfl ?_
  refine V_iconst (1 : Int32) (by decide) (dX8_digest_p1 44 rfl) 192 rfl ?_
  refine V_callV (M := mX8_digest) (wcs := [(q1, .inr (9, [.int i2, .ref q3, .ref q4, .int i5, .int i6, .int i7, .int i8, .int i9, .int (0 : Int32)])), (q3, .inl (E.2.1, 81, .inl f11))]) (wr := [(q4, .inl (E.2.1, 81, .inl f12))]) mf_X8_endNow tw_1518 tw_1520 tw_56 ⟨Nat.le_of_ble_eq_true rfl, Nat.le_of_ble_eq_true rfl⟩ (dX8_digest_p1 45 rfl) 195 rfl (kX8_endNow hs q1 q3 i2 (.ref q4) i5 i6 i7 i8 i9 (0 : Int32) f11 (1 : Int32)) rfl [1, 2] [0] (q0 := 0) rfl rfl rfl rfl (by decide) rfl rfl rfl rfl (Nat.le_of_ble_eq_true rfl) 679 26949 (show 679 + 0 ≤ 679 from Nat.le_of_ble_eq_true rfl) (show 26949 + 0 ≤ 26949 from Nat.le_of_ble_eq_true rfl) (fun z146 v w hz => ?_)
  obtain ⟨rfl, rfl⟩ := hz
  show V E K mX8_digest (Qm E K mX8_digest (zX8_digest E q1 q3 q4 i2 i5 i6 i7 i8 i9 f11 f12)) 679 26949 [(q4, .inl (E.2.1, 81, .inl f12)), (q1, .inr (9, [.int i2, .ref q3, .ref q4, .int i5, .int i6, .int i7, .int i8, .int i9, .int (0 : Int32)])), (q3, .inl (E.2.1, 81, .inl f11))] 195 [(0, .ref q1), (1, .long l144)] [.int z146, .long (((l144 * (31 : Int64)) + z145.toInt64) * (31 : Int64))] _
  refine V_i2l (dX8_digest_p1 46 rfl) 196 rfl ?_
  refine V_ladd (dX8_digest_p1 47 rfl) 197 rfl ?_
  refine V_ldc2 (M := mX8_digest) (v := (31 : Int64)) tw_1620 (dX8_digest_p1 48 rfl) 200 rfl ?_
  refine V_lmul (dX8_digest_p1 49 rfl) 201 rfl ?_
  refine V_aload_n (dX8_digest_p1 50 rfl) 202 rfl 0 rfl ?_
  refine V_iconst (1 : Int32) (by decide) (dX8_digest_p1 51 rfl) 203 rfl ?_
  refine V_callV (M := mX8_digest) (wcs := [(q1, .inr (9, [.int i2, .ref q3, .ref q4, .int i5, .int i6, .int i7, .int i8, .int i9, .int (0 : Int32)])), (q4, .inl (E.2.1, 81, .inl f12))]) (wr := [(q3, .inl (E.2.1, 81, .inl f11))]) mf_X8_partsNow tw_1555 tw_1557 tw_58 ⟨Nat.le_of_ble_eq_true rfl, Nat.le_of_ble_eq_true rfl⟩ (dX8_digest_p1 52 rfl) 206 rfl (kX8_partsNow hs q1 q4 i2 (.ref q3) i5 i6 i7 i8 i9 (0 : Int32) f12 (1 : Int32)) rfl [1, 0] [2] (q0 := 0) rfl rfl rfl rfl (by decide) rfl rfl rfl rfl (Nat.le_of_ble_eq_true rfl) 548 24788 (show 548 + 131 ≤ 679 from Nat.le_of_ble_eq_true rfl) (show 24788 + 2161 ≤ 26949 from Nat.le_of_ble_eq_true rfl) (fun z147 v w hz => ?_)
  obtain ⟨rfl, rfl⟩ := hz
  show V E K mX8_digest (Qm E K mX8_digest (zX8_digest E q1 q3 q4 i2 i5 i6 i7 i8 i9 f11 f12)) 548 24788 [(q3, .inl (E.2.1, 81, .inl f11)), (q1, .inr (9, [.int i2, .ref q3, .ref q4, .int i5, .int i6, .int i7, .int i8, .int i9, .int (0 : Int32)])), (q4, .inl (E.2.1, 81, .inl f12))] 206 [(0, .ref q1), (1, .long l144)] [.int z147, .long (((((l144 * (31 : Int64)) + z145.toInt64) * (31 : Int64)) + z146.toInt64) * (31 : Int64))] _
  refine V_i2l (dX8_digest_p1 53 rfl) 207 rfl ?_
  refine V_ladd (dX8_digest_p1 54 rfl) 208 rfl ?_
  refine V_nmL (fun l148 => ?_)
  refine V_lstore_n (dX8_digest_p1 55 rfl) 209 rfl [(0, .ref q1), (1, .long l148)] (Nat.le_of_ble_eq_true rfl) rfl ?_
  refine V_lload_n (dX8_digest_p1 56 rfl) 210 rfl 1 rfl ?_
  refine V_ldc2 (M := mX8_digest) (v := (31 : Int64)) tw_1620 (dX8_digest_p1 57 rfl) 213 rfl ?_
  refine V_lmul (dX8_digest_p1 58 rfl) 214 rfl ?_
  refine V_aload_n (dX8_digest_p1 59 rfl) 215 rfl 0 rfl ?_
  refine V_iconst (0 : Int32) (by decide) (dX8_digest_p1 60 rfl) 216 rfl ?_
  refine V_callV (M := mX8_digest) (wcs := [(q1, .inr (9, [.int i2, .ref q3, .ref q4, .int i5, .int i6, .int i7, .int i8, .int i9, .int (0 : Int32)])), (q4, .inl (E.2.1, 81, .inl f12))]) (wr := [(q3, .inl (E.2.1, 81, .inl f11))]) mf_X8_partsNow tw_1555 tw_1557 tw_58 ⟨Nat.le_of_ble_eq_true rfl, Nat.le_of_ble_eq_true rfl⟩ (dX8_digest_p1 61 rfl) 219 rfl (kX8_partsNow hs q1 q4 i2 (.ref q3) i5 i6 i7 i8 i9 (0 : Int32) f12 (0 : Int32)) rfl [1, 2] [0] (q0 := 0) rfl rfl rfl rfl (by decide) rfl rfl rfl rfl (Nat.le_of_ble_eq_true rfl) 417 22627 (show 417 + 131 ≤ 548 from Nat.le_of_ble_eq_true rfl) (show 22627 + 2161 ≤ 24788 from Nat.le_of_ble_eq_true rfl) (fun z149 v w hz => ?_)
  obtain ⟨rfl, rfl⟩ := hz
  show V E K mX8_digest (Qm E K mX8_digest (zX8_digest E q1 q3 q4 i2 i5 i6 i7 i8 i9 f11 f12)) 417 22627 [(q3, .inl (E.2.1, 81, .inl f11)), (q1, .inr (9, [.int i2, .ref q3, .ref q4, .int i5, .int i6, .int i7, .int i8, .int i9, .int (0 : Int32)])), (q4, .inl (E.2.1, 81, .inl f12))] 219 [(0, .ref q1), (1, .long l148)] [.int z149, .long (l148 * (31 : Int64))] _
  refine V_i2l (dX8_digest_p1 62 rfl) 220 rfl ?_
  refine V_ladd (dX8_digest_p1 63 rfl) 221 rfl ?_
  refine V_ldc2 (M := mX8_digest) (v := (31 : Int64)) tw_1620 (dX8_digest_p1 64 rfl) 224 rfl ?_
  refine V_lmul (dX8_digest_p1 65 rfl) 225 rfl ?_
  refine V_aload_n (dX8_digest_p1 66 rfl) 226 rfl 0 rfl ?_
  refine V_callV (M := mX8_digest) (wcs := [(q1, .inr (9, [.int i2, .ref q3, .ref q4, .int i5, .int i6, .int i7, .int i8, .int i9, .int (0 : Int32)])), (q4, .inl (E.2.1, 81, .inl f12))]) (wr := [(q3, .inl (E.2.1, 81, .inl f11))]) mf_X8_partsNowText tw_1567 tw_1569 tw_60 ⟨Nat.le_of_ble_eq_true rfl, Nat.le_of_ble_eq_true rfl⟩ (dX8_digest_p1 67 rfl) 229 rfl (kX8_partsNowText hs q1 q4 i2 (.ref q3) i5 i6 i7 i8 i9 (0 : Int32) f12) rfl [1, 2] [0] (q0 := 0) rfl rfl rfl rfl (by decide) rfl rfl rfl rfl (Nat.le_of_ble_eq_true rfl) 132 2242 (show 132 + 285 ≤ 417 from Nat.le_of_ble_eq_true rfl) (show 2242 + 20385 ≤ 22627 from Nat.le_of_ble_eq_true rfl) (fun z150 v w hz => ?_)
  obtain ⟨q151, q152, rfl, rfl⟩ := hz
  show V E K mX8_digest (Qm E K mX8_digest (zX8_digest E q1 q3 q4 i2 i5 i6 i7 i8 i9 f11 f12)) 132 2242 [(q3, .inl (E.2.1, 81, .inl f11)), (q1, .inr (9, [.int i2, .ref q3, .ref q4, .int i5, .int i6, .int i7, .int i8, .int i9, .int (0 : Int32)])), (q4, .inl (E.2.1, 81, .inl f12)), (q151, .inr (7, [.ref q152, .int cZ, .int (0 : Int32), .int (0 : Int32)])), (q152, .inl (E.2.2.1, z150.1, .inl z150.2))] 229 [(0, .ref q1), (1, .long l148)] [.ref q151, .long (((l148 * (31 : Int64)) + z149.toInt64) * (31 : Int64))] _
  refine V_callV (M := mX8_digest) (wcs := [(q151, .inr (7, [.ref q152, .int cZ, .int (0 : Int32), .int (0 : Int32)])), (q152, .inl (E.2.2.1, z150.1, .inl z150.2))]) (wr := [(q3, .inl (E.2.1, 81, .inl f11)), (q1, .inr (9, [.int i2, .ref q3, .ref q4, .int i5, .int i6, .int i7, .int i8, .int i9, .int (0 : Int32)])), (q4, .inl (E.2.1, 81, .inl f12))]) mf_J0_lengthO tw_1621 tw_665 tw_666 ⟨Nat.le_of_ble_eq_true rfl, Nat.le_of_ble_eq_true rfl⟩ (dX8_digest_p1 68 rfl) 232 rfl (kJ0_lengthO hs q151 q152 (0 : Int32) (0 : Int32) z150.1 z150.2) rfl [3, 4] [0, 1, 2] (q0 := 0) rfl rfl rfl rfl (by decide) rfl rfl rfl rfl (Nat.le_of_ble_eq_true rfl) 132 2242 (show 132 + 0 ≤ 132 from Nat.le_of_ble_eq_true rfl) (show 2242 + 0 ≤ 2242 from Nat.le_of_ble_eq_true rfl) (fun z153 v w hz => ?_)
  obtain ⟨rfl, rfl⟩ := hz
  show V E K mX8_digest (Qm E K mX8_digest (zX8_digest E q1 q3 q4 i2 i5 i6 i7 i8 i9 f11 f12)) 132 2242 [(q3, .inl (E.2.1, 81, .inl f11)), (q1, .inr (9, [.int i2, .ref q3, .ref q4, .int i5, .int i6, .int i7, .int i8, .int i9, .int (0 : Int32)])), (q4, .inl (E.2.1, 81, .inl f12)), (q151, .inr (7, [.ref q152, .int cZ, .int (0 : Int32), .int (0 : Int32)])), (q152, .inl (E.2.2.1, z150.1, .inl z150.2))] 232 [(0, .ref q1), (1, .long l148)] [.int z153, .long (((l148 * (31 : Int64)) + z149.toInt64) * (31 : Int64))] _
  refine V_i2l (dX8_digest_p1 69 rfl) 233 rfl ?_
  refine V_ladd (dX8_digest_p2 0 rfl) 234 rfl ?_
  refine V_ldc2 (M := mX8_digest) (v := (31 : Int64)) tw_1620 (dX8_digest_p2 1 rfl) 237 rfl ?_
  refine V_lmul (dX8_digest_p2 2 rfl) 238 rfl ?_
  refine V_aload_n (dX8_digest_p2 3 rfl) 239 rfl 0 rfl ?_
  refine V_callV (M := mX8_digest) (wcs := [(q1, .inr (9, [.int i2, .ref q3, .ref q4, .int i5, .int i6, .int i7, .int i8, .int i9, .int (0 : Int32)])), (q3, .inl (E.2.1, 81, .inl f11))]) (wr := [(q4, .inl (E.2.1, 81, .inl f12)), (q151, .inr (7, [.ref q152, .int cZ, .int (0 : Int32), .int (0 : Int32)])), (q152, .inl (E.2.2.1, z150.1, .inl z150.2))]) mf_X8_apartNow tw_1591 tw_1593 tw_61 ⟨Nat.le_of_ble_eq_true rfl, Nat.le_of_ble_eq_true rfl⟩ (dX8_digest_p2 4 rfl) 242 rfl (kX8_apartNow hs q1 q3 i2 (.ref q4) i5 i6 i7 i8 i9 (0 : Int32) f11) rfl [1, 0] [2, 3, 4] (q0 := 0) rfl rfl rfl rfl (by decide) rfl rfl rfl rfl (Nat.le_of_ble_eq_true rfl) 131 2161 (show 131 + 1 ≤ 132 from Nat.le_of_ble_eq_true rfl) (show 2161 + 81 ≤ 2242 from Nat.le_of_ble_eq_true rfl) (fun z154 v w hz => ?_)
  obtain ⟨rfl, rfl⟩ := hz
  show V E K mX8_digest (Qm E K mX8_digest (zX8_digest E q1 q3 q4 i2 i5 i6 i7 i8 i9 f11 f12)) 131 2161 [(q4, .inl (E.2.1, 81, .inl f12)), (q151, .inr (7, [.ref q152, .int cZ, .int (0 : Int32), .int (0 : Int32)])), (q152, .inl (E.2.2.1, z150.1, .inl z150.2)), (q1, .inr (9, [.int i2, .ref q3, .ref q4, .int i5, .int i6, .int i7, .int i8, .int i9, .int (0 : Int32)])), (q3, .inl (E.2.1, 81, .inl f11))] 242 [(0, .ref q1), (1, .long l148)] [.int z154, .long (((((l148 * (31 : Int64)) + z149.toInt64) * (31 : Int64)) + z153.toInt64) * (31 : Int64))] _
  refine V_i2l (dX8_digest_p2 5 rfl) 243 rfl ?_
  refine V_ladd (dX8_digest_p2 6 rfl) 244 rfl ?_
  refine V_nmL (fun l155 => ?_)
  refine V_lstore_n (dX8_digest_p2 7 rfl) 245 rfl [(0, .ref q1), (1, .long l155)] (Nat.le_of_ble_eq_true rfl) rfl ?_
  refine V_iconst (0 : Int32) (by decide) (dX8_digest_p2 8 rfl) 246 rfl ?_
  refine V_istore_n (dX8_digest_p2 9 rfl) 247 rfl [(0, .ref q1), (1, .long l155), (3, .int (0 : Int32))] (Nat.le_of_ble_eq_true rfl) rfl ?_
  refine V_world [3, 4, 0] [(q1, .inr (9, [.int i2, .ref q3, .ref q4, .int i5, .int i6, .int i7, .int i8, .int i9, .int (0 : Int32)])), (q3, .inl (E.2.1, 81, .inl f11)), (q4, .inl (E.2.1, 81, .inl f12))] rfl rfl rfl ?_
  refine vLX8_digest_L247 hs q1 q3 q4 i2 i5 i6 i7 i8 i9 f11 f12 131 2161 ?_ 600 l155 (0 : Int32)
  intro l175
  show V E K mX8_digest (Qm E K mX8_digest (zX8_digest E q1 q3 q4 i2 i5 i6 i7 i8 i9 f11 f12)) 131 2161 [(q1, .inr (9, [.int i2, .ref q3, .ref q4, .int i5, .int i6, .int i7, .int i8, .int i9, .int (0 : Int32)])), (q3, .inl (E.2.1, 81, .inl f11)), (q4, .inl (E.2.1, 81, .inl f12))] 271 [(0, .ref q1), (1, .long l175)] [] _
  refine V_lload_n (dX8_digest_p2 24 rfl) 272 rfl 1 rfl ?_
  refine V_ldc2 (M := mX8_digest) (v := (31 : Int64)) tw_1620 (dX8_digest_p2 25 rfl) 275 rfl ?_
  refine V_lmul (dX8_digest_p2 26 rfl) 276 rfl ?_
  refine V_aload_n (dX8_digest_p2 27 rfl) 277 rfl 0 rfl ?_
  refine V_callV (M := mX8_digest) (wcs := [(q1, .inr (9, [.int i2, .ref q3, .ref q4, .int i5, .int i6, .int i7, .int i8, .int i9, .int (0 : Int32)])), (q3, .inl (E.2.1, 81, .inl f11)), (q4, .inl (E.2.1, 81, .inl f12))]) (wr := []) mf_X8_isSoundNow tw_1611 tw_1613 tw_63 ⟨Nat.le_of_ble_eq_true rfl, Nat.le_of_ble_eq_true rfl⟩ (dX8_digest_p2 28 rfl) 280 rfl (kX8_isSoundNow hs q1 q3 q4 i2 i5 i6 i7 i8 i9 (0 : Int32) f11 f12) rfl [0, 1, 2] [] (q0 := 0) rfl rfl rfl rfl (by decide) rfl rfl rfl rfl (Nat.le_of_ble_eq_true rfl) 0 0 (show 0 + 131 ≤ 131 from Nat.le_of_ble_eq_true rfl) (show 0 + 2161 ≤ 2161 from Nat.le_of_ble_eq_true rfl) (fun z176 v w hz => ?_)
  obtain ⟨rfl, rfl⟩ := hz
  show V E K mX8_digest (Qm E K mX8_digest (zX8_digest E q1 q3 q4 i2 i5 i6 i7 i8 i9 f11 f12)) 0 0 [(q1, .inr (9, [.int i2, .ref q3, .ref q4, .int i5, .int i6, .int i7, .int i8, .int i9, .int (0 : Int32)])), (q3, .inl (E.2.1, 81, .inl f11)), (q4, .inl (E.2.1, 81, .inl f12))] 280 [(0, .ref q1), (1, .long l175)] [.int z176, .long (l175 * (31 : Int64))] _
  refine V_if_eq (dX8_digest_p2 29 rfl) 287 (by decide) 283 rfl ?_ ?_
  · refine V_iconst (0 : Int32) (by decide) (dX8_digest_p2 32 rfl) 288 rfl ?_
    refine V_i2l (dX8_digest_p2 33 rfl) 289 rfl ?_
    refine V_ladd (dX8_digest_p2 34 rfl) 290 rfl ?_
    exact V_lret rfl (dX8_digest_p2 35 rfl) ⟨rfl, rfl⟩
  · refine V_iconst (1 : Int32) (by decide) (dX8_digest_p2 30 rfl) 284 rfl ?_
    refine V_goto (dX8_digest_p2 31 rfl) 288 (by decide) ?_
    refine V_i2l (dX8_digest_p2 33 rfl) 289 rfl ?_
    refine V_ladd (dX8_digest_p2 34 rfl) 290 rfl ?_
    exact V_lret rfl (dX8_digest_p2 35 rfl) ⟨rfl, rfl⟩)
