/-! by program: 40.model -/
abbrev mX7_init : MX := (yX7_init, cX7_init, 1, (Option.none : Option FieldType), { frames := 1, cells := 0, slots := 0, locals := 24 })
abbrev zX7_init (E : EX) (q1 : Nat) (l2 : Int64) : (Unit) → Option Value → va_W → Prop := fun z v w => ∃ v4 : Value, v = none ∧ w = [(q1, .inr (8, [.long l2, v4]))]
abbrev mX8_begin : MX := (yX8_begin, cX8_begin, 2, (Option.none : Option FieldType), { frames := 0, cells := 2, slots := 162, locals := 0 })
abbrev zX8_begin (E : EX) (q1 : Nat) (i2 : Int32) (i8 : Int32) (i9 : Int32) (i10 : Int32) (i11 : Int32) : (Int32) → Option Value → va_W → Prop := fun z v w => ∃ q14 : Nat, ∃ q15 : Nat, v = none ∧ w = [(q1, .inr (9, [.int i2, .ref q14, .ref q15, .int (0 : Int32), .int z, .int i8, .int i9, .int i10, .int i11])), (q14, .inl (E.2.1, 81, .inl (fun _ => 0))), (q15, .inl (E.2.1, 81, .inl (fun _ => 0)))]
abbrev mX8_init : MX := (yX8_init, cX8_init, 1, (Option.none : Option FieldType), { frames := 1, cells := 2, slots := 162, locals := 24 })
abbrev zX8_init (E : EX) (q1 : Nat) (i7 : Int32) (i8 : Int32) (i9 : Int32) (i10 : Int32) : (Int32) → Option Value → va_W → Prop := fun z v w => ∃ q14 : Nat, ∃ q15 : Nat, v = none ∧ w = [(q1, .inr (9, [.int (6 : Int32), .ref q14, .ref q15, .int (0 : Int32), .int z, .int i7, .int i8, .int i9, .int i10])), (q14, .inl (E.2.1, 81, .inl (fun _ => 0))), (q15, .inl (E.2.1, 81, .inl (fun _ => 0)))]
abbrev mX8_thrown : MX := (yX8_thrown, cX8_thrown, 1, (some FieldType.int), { frames := 0, cells := 0, slots := 0, locals := 0 })
abbrev zX8_thrown (E : EX) (q1 : Nat) (i2 : Int32) (v3 : Value) (v4 : Value) (i5 : Int32) (i6 : Int32) (i7 : Int32) (i8 : Int32) (i9 : Int32) (i10 : Int32) : (Int32) → Option Value → va_W → Prop := fun z v w => v = some (.int z) ∧ w = [(q1, .inr (9, [.int i2, v3, v4, .int i5, .int i6, .int i7, .int i8, .int i9, .int i10]))]
abbrev mX8_isThrown : MX := (yX8_isThrown, cX8_isThrown, 3, (some FieldType.boolean), { frames := 0, cells := 0, slots := 0, locals := 0 })
abbrev zX8_isThrown (E : EX) (q1 : Nat) (i4 : Int32) (v5 : Value) (v6 : Value) (i7 : Int32) (i8 : Int32) (i9 : Int32) (i10 : Int32) (i11 : Int32) : (Int32 × Int32) → Option Value → va_W → Prop := fun z v w => v = some (.int z.1) ∧ w = [(q1, .inr (9, [.int i4, v5, v6, .int i7, .int i8, .int i9, .int i10, .int i11, .int z.2]))]
abbrev mX8_isThrown_ : MX := (yX8_isThrown_, cX8_isThrown_, 2, (some FieldType.boolean), { frames := 1, cells := 0, slots := 0, locals := 22 })
abbrev zX8_isThrown_ (E : EX) (q1 : Nat) (i3 : Int32) (v4 : Value) (v5 : Value) (i6 : Int32) (i7 : Int32) (i8 : Int32) (i9 : Int32) (i10 : Int32) : (Int32 × Int32) → Option Value → va_W → Prop := fun z v w => v = some (.int z.1) ∧ w = [(q1, .inr (9, [.int i3, v4, v5, .int i6, .int i7, .int i8, .int i9, .int i10, .int z.2]))]
abbrev mX8_isPlace : MX := (yX8_isPlace, cX8_isPlace, 2, (some FieldType.boolean), { frames := 0, cells := 0, slots := 0, locals := 0 })
abbrev zX8_isPlace (E : EX) (q1 : Nat) (i3 : Int32) (v4 : Value) (v5 : Value) (i6 : Int32) (i7 : Int32) (i8 : Int32) (i9 : Int32) (i10 : Int32) (i11 : Int32) : (Int32) → Option Value → va_W → Prop := fun z v w => v = some (.int z) ∧ w = [(q1, .inr (9, [.int i3, v4, v5, .int i6, .int i7, .int i8, .int i9, .int i10, .int i11]))]
abbrev mX8_isRoom : MX := (yX8_isRoom, cX8_isRoom, 1, (some FieldType.boolean), { frames := 0, cells := 0, slots := 0, locals := 0 })
abbrev zX8_isRoom (E : EX)  : (Int32) → Option Value → va_W → Prop := fun z v w => v = some (.int z) ∧ w = []
abbrev mX8_isRule : MX := (yX8_isRule, cX8_isRule, 1, (some FieldType.boolean), { frames := 0, cells := 0, slots := 0, locals := 0 })
abbrev zX8_isRule (E : EX)  : (Int32) → Option Value → va_W → Prop := fun z v w => v = some (.int z) ∧ w = []
abbrev mX8_isSet : MX := (yX8_isSet, cX8_isSet, 2, (some FieldType.boolean), { frames := 0, cells := 0, slots := 0, locals := 0 })
abbrev zX8_isSet (E : EX) (q1 : Nat) (i3 : Int32) (v4 : Value) (v5 : Value) (i6 : Int32) (i7 : Int32) (i8 : Int32) (i9 : Int32) (i10 : Int32) (i11 : Int32) : (Int32) → Option Value → va_W → Prop := fun z v w => v = some (.int z) ∧ w = [(q1, .inr (9, [.int i3, v4, v5, .int i6, .int i7, .int i8, .int i9, .int i10, .int i11]))]
abbrev mX8_did : MX := (yX8_did, cX8_did, 2, (some FieldType.int), { frames := 0, cells := 0, slots := 0, locals := 0 })
abbrev zX8_did (E : EX) (q1 : Nat) (i3 : Int32) (v4 : Value) (v5 : Value) (i6 : Int32) (i7 : Int32) (i9 : Int32) (i10 : Int32) (i11 : Int32) : (Int32 × Int32) → Option Value → va_W → Prop := fun z v w => v = some (.int z.1) ∧ w = [(q1, .inr (9, [.int i3, v4, v5, .int i6, .int i7, .int z.2, .int i9, .int i10, .int i11]))]
abbrev mX8_no : MX := (yX8_no, cX8_no, 1, (some FieldType.int), { frames := 0, cells := 0, slots := 0, locals := 0 })
abbrev zX8_no (E : EX) (q1 : Nat) (i2 : Int32) (v3 : Value) (v4 : Value) (i5 : Int32) (i6 : Int32) (i7 : Int32) (i9 : Int32) (i10 : Int32) : (Int32) → Option Value → va_W → Prop := fun z v w => v = some (.int (-9 : Int32)) ∧ w = [(q1, .inr (9, [.int i2, v3, v4, .int i5, .int i6, .int i7, .int z, .int i9, .int i10]))]
abbrev mX8_room : MX := (yX8_room, cX8_room, 3, (some FieldType.int), { frames := 0, cells := 0, slots := 0, locals := 0 })
abbrev zX8_room (E : EX) (q1 : Nat) (q5 : Nat) (i4 : Int32) (v6 : Value) (i7 : Int32) (i8 : Int32) (i9 : Int32) (i10 : Int32) (i11 : Int32) (i12 : Int32) (f13 : Nat → Int32) : (Int32) → Option Value → va_W → Prop := fun z v w => v = some (.int z) ∧ w = [(q1, .inr (9, [.int i4, .ref q5, v6, .int i7, .int i8, .int i9, .int i10, .int i11, .int i12])), (q5, .inl (E.2.1, 81, .inl f13))]
abbrev mX8_flow : MX := (yX8_flow, cX8_flow, 3, (some FieldType.int), { frames := 0, cells := 0, slots := 0, locals := 0 })
abbrev zX8_flow (E : EX) (q1 : Nat) (q6 : Nat) (i4 : Int32) (v5 : Value) (i7 : Int32) (i8 : Int32) (i9 : Int32) (i10 : Int32) (i11 : Int32) (i12 : Int32) (f13 : Nat → Int32) : (Int32) → Option Value → va_W → Prop := fun z v w => v = some (.int z) ∧ w = [(q1, .inr (9, [.int i4, v5, .ref q6, .int i7, .int i8, .int i9, .int i10, .int i11, .int i12])), (q6, .inl (E.2.1, 81, .inl f13))]
abbrev mX8_left : MX := (yX8_left, cX8_left, 3, (some FieldType.int), { frames := 1, cells := 0, slots := 0, locals := 22 })
abbrev zX8_left (E : EX) (q1 : Nat) (q5 : Nat) (q6 : Nat) (i4 : Int32) (i7 : Int32) (i8 : Int32) (i9 : Int32) (i10 : Int32) (i11 : Int32) (i12 : Int32) (f13 : Nat → Int32) (f14 : Nat → Int32) : (Int32) → Option Value → va_W → Prop := fun z v w => v = some (.int z) ∧ w = [(q1, .inr (9, [.int i4, .ref q5, .ref q6, .int i7, .int i8, .int i9, .int i10, .int i11, .int i12])), (q5, .inl (E.2.1, 81, .inl f13)), (q6, .inl (E.2.1, 81, .inl f14))]
abbrev mX8_flowOn : MX := (yX8_flowOn, cX8_flowOn, 4, (Option.none : Option FieldType), { frames := 0, cells := 0, slots := 0, locals := 0 })
abbrev zX8_flowOn (E : EX) (q1 : Nat) (q7 : Nat) (i5 : Int32) (v6 : Value) (i8 : Int32) (i9 : Int32) (i10 : Int32) (i11 : Int32) (i12 : Int32) (i13 : Int32) : ((Nat → Int32)) → Option Value → va_W → Prop := fun z v w => v = none ∧ w = [(q1, .inr (9, [.int i5, v6, .ref q7, .int i8, .int i9, .int i10, .int i11, .int i12, .int i13])), (q7, .inl (E.2.1, 81, .inl z))]
abbrev mX8_still : MX := (yX8_still, cX8_still, 2, (Option.none : Option FieldType), { frames := 0, cells := 0, slots := 0, locals := 0 })
abbrev zX8_still (E : EX) (q1 : Nat) (q4 : Nat) (i2 : Int32) (v3 : Value) (i5 : Int32) (i6 : Int32) (i7 : Int32) (i8 : Int32) (i9 : Int32) (i10 : Int32) : ((Nat → Int32)) → Option Value → va_W → Prop := fun z v w => v = none ∧ w = [(q1, .inr (9, [.int i2, v3, .ref q4, .int i5, .int i6, .int i7, .int i8, .int i9, .int i10])), (q4, .inl (E.2.1, 81, .inl z))]
abbrev mX8_fromPlace : MX := (yX8_fromPlace, cX8_fromPlace, 5, (some FieldType.int), { frames := 0, cells := 0, slots := 0, locals := 0 })
abbrev zX8_fromPlace (E : EX) (q1 : Nat) (q2 : Nat) (i4 : Int32) (v5 : Value) (v6 : Value) (i7 : Int32) (i8 : Int32) (i9 : Int32) (i10 : Int32) (i11 : Int32) (i12 : Int32) (f13 : Nat → Int32) : (Int32) → Option Value → va_W → Prop := fun z v w => v = some (.int z) ∧ w = [(q1, .inr (9, [.int i4, v5, v6, .int i7, .int i8, .int i9, .int i10, .int i11, .int i12])), (q2, .inl (E.2.1, 81, .inl f13))]
abbrev mX8_valueNow : MX := (yX8_valueNow, cX8_valueNow, 1, (some FieldType.int), { frames := 1, cells := 0, slots := 0, locals := 24 })
abbrev zX8_valueNow (E : EX) (q1 : Nat) (q4 : Nat) (i2 : Int32) (v3 : Value) (i5 : Int32) (i6 : Int32) (i7 : Int32) (i8 : Int32) (i9 : Int32) (i10 : Int32) (f11 : Nat → Int32) : (Int32) → Option Value → va_W → Prop := fun z v w => v = some (.int z) ∧ w = [(q1, .inr (9, [.int i2, v3, .ref q4, .int i5, .int i6, .int i7, .int i8, .int i9, .int i10])), (q4, .inl (E.2.1, 81, .inl f11))]
abbrev mX8_through : MX := (yX8_through, cX8_through, 6, (some FieldType.int), { frames := 0, cells := 0, slots := 0, locals := 0 })
abbrev zX8_through (E : EX) (q1 : Nat) (q2 : Nat) (i4 : Int32) (v5 : Value) (v6 : Value) (i7 : Int32) (i8 : Int32) (i9 : Int32) (i10 : Int32) (i11 : Int32) (i12 : Int32) (f13 : Nat → Int32) : (Int32) → Option Value → va_W → Prop := fun z v w => v = some (.int z) ∧ w = [(q1, .inr (9, [.int i4, v5, v6, .int i7, .int i8, .int i9, .int i10, .int i11, .int i12])), (q2, .inl (E.2.1, 81, .inl f13))]
abbrev mX8_isCut : MX := (yX8_isCut, cX8_isCut, 3, (some FieldType.boolean), { frames := 0, cells := 0, slots := 0, locals := 0 })
abbrev zX8_isCut (E : EX)  : (Int32) → Option Value → va_W → Prop := fun z v w => v = some (.int z) ∧ w = []
abbrev mX8_least : MX := (yX8_least, cX8_least, 6, (some FieldType.int), { frames := 1, cells := 0, slots := 0, locals := 25 })
abbrev zX8_least (E : EX) (q1 : Nat) (q2 : Nat) (i5 : Int32) (v6 : Value) (v7 : Value) (i8 : Int32) (i9 : Int32) (i10 : Int32) (i11 : Int32) (i12 : Int32) (i13 : Int32) (f14 : Nat → Int32) : (Int32) → Option Value → va_W → Prop := fun z v w => v = some (.int z) ∧ w = [(q1, .inr (9, [.int i5, v6, v7, .int i8, .int i9, .int i10, .int i11, .int i12, .int i13])), (q2, .inl (E.2.1, 81, .inl f14))]
abbrev mX8_leastNow : MX := (yX8_leastNow, cX8_leastNow, 1, (some FieldType.int), { frames := 2, cells := 0, slots := 0, locals := 50 })
abbrev zX8_leastNow (E : EX) (q1 : Nat) (q3 : Nat) (i2 : Int32) (v4 : Value) (i5 : Int32) (i6 : Int32) (i7 : Int32) (i8 : Int32) (i9 : Int32) (i10 : Int32) (f11 : Nat → Int32) : (Int32) → Option Value → va_W → Prop := fun z v w => v = some (.int z) ∧ w = [(q1, .inr (9, [.int i2, .ref q3, v4, .int i5, .int i6, .int i7, .int i8, .int i9, .int i10])), (q3, .inl (E.2.1, 81, .inl f11))]
abbrev mX8_leastsNow : MX := (yX8_leastsNow, cX8_leastsNow, 4, (some FieldType.int), { frames := 3, cells := 0, slots := 0, locals := 70 })
abbrev zX8_leastsNow (E : EX) (q1 : Nat) (q3 : Nat) (i2 : Int32) (v4 : Value) (i5 : Int32) (i6 : Int32) (i7 : Int32) (i8 : Int32) (i9 : Int32) (i10 : Int32) (f11 : Nat → Int32) : (Int32) → Option Value → va_W → Prop := fun z v w => v = some (.int z) ∧ w = [(q1, .inr (9, [.int i2, .ref q3, v4, .int i5, .int i6, .int i7, .int i8, .int i9, .int i10])), (q3, .inl (E.2.1, 81, .inl f11))]
abbrev mX8_endNow : MX := (yX8_endNow, cX8_endNow, 5, (some FieldType.int), { frames := 3, cells := 0, slots := 0, locals := 70 })
abbrev zX8_endNow (E : EX) (q1 : Nat) (q4 : Nat) (i3 : Int32) (v5 : Value) (i6 : Int32) (i7 : Int32) (i8 : Int32) (i9 : Int32) (i10 : Int32) (i11 : Int32) (f12 : Nat → Int32) : (Int32) → Option Value → va_W → Prop := fun z v w => v = some (.int z) ∧ w = [(q1, .inr (9, [.int i3, .ref q4, v5, .int i6, .int i7, .int i8, .int i9, .int i10, .int i11])), (q4, .inl (E.2.1, 81, .inl f12))]
abbrev mX8_byLayers : MX := (yX8_byLayers, cX8_byLayers, 6, (Option.none : Option FieldType), { frames := 2, cells := 1, slots := 16, locals := 44 })
abbrev zX8_byLayers (E : EX) (q1 : Nat) (q4 : Nat) (q5 : Nat) (q2 : Nat) (i3 : Int32) (i6 : Int32) (i7 : Int32) (i8 : Int32) (i9 : Int32) (i10 : Int32) (i11 : Int32) (f12 : Nat → Int32) (f13 : Nat → Int32) (n14 : Nat) : ((Nat → Int32)) → Option Value → va_W → Prop := fun z v w => v = none ∧ w = [(q1, .inr (9, [.int i3, .ref q4, .ref q5, .int i6, .int i7, .int i8, .int i9, .int i10, .int i11])), (q4, .inl (E.2.1, 81, .inl f12)), (q5, .inl (E.2.1, 81, .inl f13)), (q2, .inl (E.2.1, n14, .inl z))]
abbrev mX8_deeper (n0 : Nat) : MX := (yX8_deeper, cX8_deeper, 6, (some FieldType.boolean), { frames := 2 + n0, cells := 0, slots := 0, locals := 44 + n0 * 25 })
abbrev zX8_deeper (E : EX) (q1 : Nat) (q6 : Nat) (q7 : Nat) (q3 : Nat) (i5 : Int32) (i8 : Int32) (i9 : Int32) (i10 : Int32) (i11 : Int32) (i12 : Int32) (i13 : Int32) (f14 : Nat → Int32) (f15 : Nat → Int32) (n16 : Nat) : (Int32 × (Nat → Int32)) → Option Value → va_W → Prop := fun z v w => v = some (.int z.1) ∧ w = [(q1, .inr (9, [.int i5, .ref q6, .ref q7, .int i8, .int i9, .int i10, .int i11, .int i12, .int i13])), (q6, .inl (E.2.1, 81, .inl f14)), (q7, .inl (E.2.1, 81, .inl f15)), (q3, .inl (E.2.1, n16, .inl z.2))]
abbrev mX8_trackBy : MX := (yX8_trackBy, cX8_trackBy, 7, (some (FieldType.array FieldType.int)), { frames := 14, cells := 3, slots := 48, locals := 344 })
abbrev zX8_trackBy (E : EX) (q1 : Nat) (q4 : Nat) (q5 : Nat) (i3 : Int32) (i6 : Int32) (i7 : Int32) (i8 : Int32) (i9 : Int32) (i10 : Int32) (i11 : Int32) (f12 : Nat → Int32) (f13 : Nat → Int32) : (Option (Nat × (Nat → Int32))) → Option Value → va_W → Prop := fun z v w => (z = none ∧ v = some .null ∧ w = [(q1, .inr (9, [.int i3, .ref q4, .ref q5, .int i6, .int i7, .int i8, .int i9, .int i10, .int i11])), (q4, .inl (E.2.1, 81, .inl f12)), (q5, .inl (E.2.1, 81, .inl f13))]) ∨ (∃ (n0 : Nat) (f0 : Nat → Int32), ∃ q0 : Nat, z = some (n0, f0) ∧ v = some (.ref q0) ∧ w = [(q1, .inr (9, [.int i3, .ref q4, .ref q5, .int i6, .int i7, .int i8, .int i9, .int i10, .int i11])), (q4, .inl (E.2.1, 81, .inl f12)), (q5, .inl (E.2.1, 81, .inl f13))] ++ [(q0, .inl (E.2.1, n0, .inl f0))])
abbrev mX8_stepNow : MX := (yX8_stepNow, cX8_stepNow, 5, (some FieldType.int), { frames := 15, cells := 3, slots := 48, locals := 370 })
abbrev zX8_stepNow (E : EX) (q1 : Nat) (q4 : Nat) (q5 : Nat) (i3 : Int32) (i6 : Int32) (i7 : Int32) (i8 : Int32) (i9 : Int32) (i10 : Int32) (i11 : Int32) (f12 : Nat → Int32) : (Int32 × (Nat → Int32)) → Option Value → va_W → Prop := fun z v w => v = some (.int z.1) ∧ w = [(q1, .inr (9, [.int i3, .ref q4, .ref q5, .int i6, .int i7, .int i8, .int i9, .int i10, .int i11])), (q4, .inl (E.2.1, 81, .inl f12)), (q5, .inl (E.2.1, 81, .inl z.2))]
abbrev mX8_nextPart : MX := (yX8_nextPart, cX8_nextPart, 11, (some (FieldType.array FieldType.int)), { frames := 1, cells := 2, slots := 32, locals := 24 })
abbrev zX8_nextPart (E : EX) (q1 : Nat) (q2 : Nat) (i3 : Int32) (v4 : Value) (v5 : Value) (i6 : Int32) (i7 : Int32) (i8 : Int32) (i9 : Int32) (i10 : Int32) (i11 : Int32) : ((Nat → Int32) × Option (Nat × (Nat → Int32))) → Option Value → va_W → Prop := fun z v w => (z.2 = none ∧ v = some .null ∧ w = [(q1, .inr (9, [.int i3, v4, v5, .int i6, .int i7, .int i8, .int i9, .int i10, .int i11])), (q2, .inl (E.2.1, 81, .inl z.1))]) ∨ (∃ (n0 : Nat) (f0 : Nat → Int32), ∃ q0 : Nat, z.2 = some (n0, f0) ∧ v = some (.ref q0) ∧ w = [(q1, .inr (9, [.int i3, v4, v5, .int i6, .int i7, .int i8, .int i9, .int i10, .int i11])), (q2, .inl (E.2.1, 81, .inl z.1))] ++ [(q0, .inl (E.2.1, n0, .inl f0))])
abbrev mX8_flowRow : MX := (yX8_flowRow, cX8_flowRow, 3, (some (FieldType.array FieldType.int)), { frames := 0, cells := 1, slots := 81, locals := 0 })
abbrev zX8_flowRow (E : EX) (q1 : Nat) (q4 : Nat) (i2 : Int32) (v3 : Value) (i5 : Int32) (i6 : Int32) (i7 : Int32) (i8 : Int32) (i9 : Int32) (i10 : Int32) (f11 : Nat → Int32) : ((Nat → Int32)) → Option Value → va_W → Prop := fun z v w => ∃ q28 : Nat, v = some (.ref q28) ∧ w = [(q1, .inr (9, [.int i2, v3, .ref q4, .int i5, .int i6, .int i7, .int i8, .int i9, .int i10])), (q4, .inl (E.2.1, 81, .inl f11)), (q28, .inl (E.2.1, 81, .inl z))]
abbrev mX8_partsNow : MX := (yX8_partsNow, cX8_partsNow, 5, (some FieldType.int), { frames := 2, cells := 131, slots := 2161, locals := 54 })
abbrev zX8_partsNow (E : EX) (q1 : Nat) (q5 : Nat) (i3 : Int32) (v4 : Value) (i6 : Int32) (i7 : Int32) (i8 : Int32) (i9 : Int32) (i10 : Int32) (i11 : Int32) (f12 : Nat → Int32) : (Int32) → Option Value → va_W → Prop := fun z v w => v = some (.int z) ∧ w = [(q1, .inr (9, [.int i3, v4, .ref q5, .int i6, .int i7, .int i8, .int i9, .int i10, .int i11])), (q5, .inl (E.2.1, 81, .inl f12))]
abbrev mX8_partsNowText : MX := (yX8_partsNowText, cX8_partsNowText, 5, (some (FieldType.object "java/lang/String")), { frames := 6, cells := 285, slots := 20385, locals := 171 })
abbrev zX8_partsNowText (E : EX) (q1 : Nat) (q4 : Nat) (i2 : Int32) (v3 : Value) (i5 : Int32) (i6 : Int32) (i7 : Int32) (i8 : Int32) (i9 : Int32) (i10 : Int32) (f11 : Nat → Int32) : (Nat × (Nat → Int32)) → Option Value → va_W → Prop := fun z v w => ∃ q168 : Nat, ∃ q169 : Nat, v = some (.ref q168) ∧ w = [(q1, .inr (9, [.int i2, v3, .ref q4, .int i5, .int i6, .int i7, .int i8, .int i9, .int i10])), (q4, .inl (E.2.1, 81, .inl f11)), (q168, .inr (7, [.ref q169, .int cZ, .int (0 : Int32), .int (0 : Int32)])), (q169, .inl (E.2.2.1, z.1, .inl z.2))]
noncomputable def fX7_init   : Option (Unit) :=
  some ()
noncomputable def fX8_begin  (i2 : Int32) : Option (Int32) :=
  some (i2 - (1 : Int32))
noncomputable def fX8_init   : Option (Int32) :=
  (fX8_begin (6 : Int32)).bind (fun z11 => some z11)
noncomputable def fX8_thrown  (i10 : Int32) : Option (Int32) :=
  some i10
noncomputable def fX8_isThrown  (i2 : Int32) (i3 : Int32) : Option (Int32 × Int32) :=
  jn (fun (i15 : Int32) => if i15 ≤ (0 : Int32) then (some ((0 : Int32), i15)) else (some ((1 : Int32), i15))) (fun (k13 : Int32 → Option (Int32 × Int32)) => if i2 = (0 : Int32) then (if i3 = (0 : Int32) then (k13 (0 : Int32)) else (k13 (2 : Int32))) else (k13 (1 : Int32)))
noncomputable def fX8_isThrown_  (i2 : Int32) : Option (Int32 × Int32) :=
  (fX8_isThrown i2 (0 : Int32)).bind (fun z12 => bz z12.1 (some (z12.1, z12.2)))
noncomputable def fX8_isPlace  (i3 : Int32) (i2 : Int32) : Option (Int32) :=
  if i2 < (0 : Int32) then (some (0 : Int32)) else (if i3 ≤ i2 then (some (0 : Int32)) else (some (1 : Int32)))
noncomputable def fX8_isRoom  (i1 : Int32) : Option (Int32) :=
  if i1 < (0 : Int32) then (some (0 : Int32)) else (if (50 : Int32) < i1 then (some (0 : Int32)) else (some (1 : Int32)))
noncomputable def fX8_isRule  (i1 : Int32) : Option (Int32) :=
  if i1 < (0 : Int32) then (some (0 : Int32)) else (if (2 : Int32) < i1 then (some (0 : Int32)) else (some (1 : Int32)))
noncomputable def fX8_isSet  (i3 : Int32) (i2 : Int32) : Option (Int32) :=
  if i2 < (0 : Int32) then (some (0 : Int32)) else (if ((1 : Int32) <<< (i3 &&& 31)) ≤ i2 then (some (0 : Int32)) else (some (1 : Int32)))
noncomputable def fX8_did  (i8 : Int32) (i2 : Int32) : Option (Int32 × Int32) :=
  some (i2, i8 + (1 : Int32))
noncomputable def fX8_no  (i8 : Int32) : Option (Int32) :=
  some (i8 + (1 : Int32))
noncomputable def fX8_room  (f13 : Nat → Int32) (i2 : Int32) (i3 : Int32) : Option (Int32) :=
  inB ((i2 * (9 : Int32)) + i3) 81 (some (f13 ((i2 * (9 : Int32)) + i3).toNatClampNeg))
noncomputable def fX8_flow  (f13 : Nat → Int32) (i2 : Int32) (i3 : Int32) : Option (Int32) :=
  inB ((i2 * (9 : Int32)) + i3) 81 (some (f13 ((i2 * (9 : Int32)) + i3).toNatClampNeg))
noncomputable def fX8_left  (f13 : Nat → Int32) (f14 : Nat → Int32) (i2 : Int32) (i3 : Int32) : Option (Int32) :=
  (fX8_room f13 i2 i3).bind (fun z15 => (fX8_flow f14 i2 i3).bind (fun z16 => some (z15 - z16)))
noncomputable def fX8_flowOn  (f14 : Nat → Int32) (i2 : Int32) (i3 : Int32) (i4 : Int32) : Option ((Nat → Int32)) :=
  inB ((i2 * (9 : Int32)) + i3) 81 (inB ((i2 * (9 : Int32)) + i3) 81 (inB ((i3 * (9 : Int32)) + i2) 81 (inB ((i3 * (9 : Int32)) + i2) 81 (some (upd (upd f14 ((i2 * (9 : Int32)) + i3).toNatClampNeg ((f14 ((i2 * (9 : Int32)) + i3).toNatClampNeg) + i4)) ((i3 * (9 : Int32)) + i2).toNatClampNeg (((upd f14 ((i2 * (9 : Int32)) + i3).toNatClampNeg ((f14 ((i2 * (9 : Int32)) + i3).toNatClampNeg) + i4)) ((i3 * (9 : Int32)) + i2).toNatClampNeg) - i4))))))
noncomputable def BX8_still_L2   (i23 : Int32) (f24 : Nat → Int32) (rec : Int32 → (Nat → Int32) → Option ((Nat → Int32)))  : Option ((Nat → Int32)) :=
  if (81 : Int32) ≤ i23 then (some f24) else (inB i23 81 (rec (i23 + (1 : Int32)) (upd f24 i23.toNatClampNeg (0 : Int32))))
noncomputable def LX8_still_L2   : Nat → Int32 → (Nat → Int32) → Option ((Nat → Int32))
  | 0, _, _ => none
  | n + 1, i23, f24 => BX8_still_L2   i23 f24 (fun i23 f24 => LX8_still_L2   n i23 f24 ) 
noncomputable def fX8_still  (f11 : Nat → Int32) : Option ((Nat → Int32)) :=
  LX8_still_L2   600 (0 : Int32) f11 
noncomputable def BX8_fromPlace_L5  (i4 : Int32) (f13 : Nat → Int32) (i3 : Int32) (i28 : Int32) (i29 : Int32) (rec : Int32 → Int32 → Option (Int32))  : Option (Int32) :=
  if i4 ≤ i29 then (some i28) else (inB ((i3 * (9 : Int32)) + i29) 81 (nm (i28 + (f13 ((i3 * (9 : Int32)) + i29).toNatClampNeg)) (fun (i30 : Int32) => rec i30 (i29 + (1 : Int32)))))
noncomputable def LX8_fromPlace_L5  (i4 : Int32) (f13 : Nat → Int32) (i3 : Int32) : Nat → Int32 → Int32 → Option (Int32)
  | 0, _, _ => none
  | n + 1, i28, i29 => BX8_fromPlace_L5  i4 f13 i3 i28 i29 (fun i28 i29 => LX8_fromPlace_L5  i4 f13 i3 n i28 i29 ) 
noncomputable def fX8_fromPlace  (i4 : Int32) (f13 : Nat → Int32) (i3 : Int32) : Option (Int32) :=
  LX8_fromPlace_L5  i4 f13 i3 600 (0 : Int32) (0 : Int32) 
noncomputable def fX8_valueNow  (i2 : Int32) (i5 : Int32) (f11 : Nat → Int32) : Option (Int32) :=
  (fX8_fromPlace i2 f11 i5).bind (fun z12 => some z12)
noncomputable def BX8_through_L29  (i4 : Int32) (f13 : Nat → Int32) (i3 : Int32) (i56 : Int32) (i77 : Int32) (i78 : Int32) (rec : Int32 → Int32 → Option (Int32)) (k1 : Int32 → Option (Int32)) : Option (Int32) :=
  if i4 ≤ i78 then (k1 i77) else (jn (fun (i82 : Int32) => rec i82 (i78 + (1 : Int32))) (fun (k79 : Int32 → Option (Int32)) => if ((i3 >>> (i78 &&& 31)) &&& (1 : Int32)) = (0 : Int32) then (inB ((i56 * (9 : Int32)) + i78) 81 (nm (i77 + (f13 ((i56 * (9 : Int32)) + i78).toNatClampNeg)) (fun (i81 : Int32) => k79 i81))) else (k79 i77)))
noncomputable def LX8_through_L29  (i4 : Int32) (f13 : Nat → Int32) (i3 : Int32) (i56 : Int32) : Nat → Int32 → Int32 → (Int32 → Option (Int32)) → Option (Int32)
  | 0, _, _, _ => none
  | n + 1, i77, i78, k1 => BX8_through_L29  i4 f13 i3 i56 i77 i78 (fun i77 i78 => LX8_through_L29  i4 f13 i3 i56 n i77 i78 k1) k1
noncomputable def BX8_through_L5  (i4 : Int32) (f13 : Nat → Int32) (i3 : Int32) (i55 : Int32) (i56 : Int32) (rec : Int32 → Int32 → Option (Int32))  : Option (Int32) :=
  if i4 ≤ i56 then (some i55) else (jn (fun (i84 : Int32) => rec i84 (i56 + (1 : Int32))) (fun (k57 : Int32 → Option (Int32)) => if ((i3 >>> (i56 &&& 31)) &&& (1 : Int32)) = (0 : Int32) then (k57 i55) else (LX8_through_L29  i4 f13 i3 i56 600 i55 (0 : Int32) (fun (i83 : Int32) => k57 i83))))
noncomputable def LX8_through_L5  (i4 : Int32) (f13 : Nat → Int32) (i3 : Int32) : Nat → Int32 → Int32 → Option (Int32)
  | 0, _, _ => none
  | n + 1, i55, i56 => BX8_through_L5  i4 f13 i3 i55 i56 (fun i55 i56 => LX8_through_L5  i4 f13 i3 n i55 i56 ) 
noncomputable def fX8_through  (i4 : Int32) (f13 : Nat → Int32) (i3 : Int32) : Option (Int32) :=
  LX8_through_L5  i4 f13 i3 600 (0 : Int32) (0 : Int32) 
noncomputable def fX8_isCut  (i1 : Int32) (i2 : Int32) (i3 : Int32) : Option (Int32) :=
  if ((i1 >>> (i2 &&& 31)) &&& (1 : Int32)) = (1 : Int32) then (if ((i1 >>> (i3 &&& 31)) &&& (1 : Int32)) = (0 : Int32) then (some (1 : Int32)) else (some (0 : Int32))) else (some (0 : Int32))
noncomputable def BX8_least_L7  (i5 : Int32) (f14 : Nat → Int32) (i3 : Int32) (i4 : Int32) (i35 : Int32) (i36 : Int32) (rec : Int32 → Int32 → Option (Int32))  : Option (Int32) :=
  if ((1 : Int32) <<< (i5 &&& 31)) ≤ i36 then (some i35) else ((fX8_isCut i36 i3 i4).bind (fun z37 => jn (fun (i42 : Int32) => rec i42 (i36 + (1 : Int32))) (fun (k38 : Int32 → Option (Int32)) => if z37 = (0 : Int32) then (k38 i35) else ((fX8_through i5 f14 i36).bind (fun z40 => nm (if z40 < i35 then z40 else i35) (fun (i41 : Int32) => k38 i41))))))
noncomputable def LX8_least_L7  (i5 : Int32) (f14 : Nat → Int32) (i3 : Int32) (i4 : Int32) : Nat → Int32 → Int32 → Option (Int32)
  | 0, _, _ => none
  | n + 1, i35, i36 => BX8_least_L7  i5 f14 i3 i4 i35 i36 (fun i35 i36 => LX8_least_L7  i5 f14 i3 i4 n i35 i36 ) 
noncomputable def fX8_least  (i5 : Int32) (f14 : Nat → Int32) (i3 : Int32) (i4 : Int32) : Option (Int32) :=
  LX8_least_L7  i5 f14 i3 i4 600 (2147483647 : Int32) (0 : Int32) 
noncomputable def fX8_leastNow  (i2 : Int32) (i5 : Int32) (i6 : Int32) (f11 : Nat → Int32) : Option (Int32) :=
  (fX8_least i2 f11 i5 i6).bind (fun z12 => some z12)
noncomputable def BX8_leastsNow_L9  (i2 : Int32) (i5 : Int32) (i6 : Int32) (f11 : Nat → Int32) (i31 : Int32) (i32 : Int32) (i33 : Int32) (rec : Int32 → Int32 → Option (Int32))  : Option (Int32) :=
  if ((1 : Int32) <<< (i2 &&& 31)) ≤ i33 then (some i32) else ((fX8_isCut i33 i5 i6).bind (fun z34 => jn (fun (i38 : Int32) => rec i38 (i33 + (1 : Int32))) (fun (k35 : Int32 → Option (Int32)) => if z34 = (0 : Int32) then (k35 i32) else ((fX8_through i2 f11 i33).bind (fun z37 => if z37 = i31 then (k35 (i32 + (1 : Int32))) else (k35 i32))))))
noncomputable def LX8_leastsNow_L9  (i2 : Int32) (i5 : Int32) (i6 : Int32) (f11 : Nat → Int32) (i31 : Int32) : Nat → Int32 → Int32 → Option (Int32)
  | 0, _, _ => none
  | n + 1, i32, i33 => BX8_leastsNow_L9  i2 i5 i6 f11 i31 i32 i33 (fun i32 i33 => LX8_leastsNow_L9  i2 i5 i6 f11 i31 n i32 i33 ) 
noncomputable def fX8_leastsNow  (i2 : Int32) (i5 : Int32) (i6 : Int32) (f11 : Nat → Int32) : Option (Int32) :=
  (fX8_leastNow i2 i5 i6 f11).bind (fun z12 => LX8_leastsNow_L9  i2 i5 i6 f11 z12 600 (0 : Int32) (0 : Int32) )
noncomputable def BX8_endNow_L25  (i3 : Int32) (i6 : Int32) (i7 : Int32) (f12 : Nat → Int32) (i2 : Int32) (i39 : Int32) (i40 : Int32) (i41 : Int32) (rec : Int32 → Int32 → Option (Int32))  : Option (Int32) :=
  if ((1 : Int32) <<< (i3 &&& 31)) ≤ i41 then (some i40) else ((fX8_isCut i41 i6 i7).bind (fun z42 => jn (fun (i49 : Int32) => rec i49 (i41 + (1 : Int32))) (fun (k43 : Int32 → Option (Int32)) => if z42 = (0 : Int32) then (k43 i40) else ((fX8_through i3 f12 i41).bind (fun z45 => if z45 = i39 then (jn (fun (i48 : Int32) => k43 i48) (fun (k46 : Int32 → Option (Int32)) => if i2 = (0 : Int32) then (k46 (i40 &&& i41)) else (k46 (i40 ||| i41)))) else (k43 i40))))))
noncomputable def LX8_endNow_L25  (i3 : Int32) (i6 : Int32) (i7 : Int32) (f12 : Nat → Int32) (i2 : Int32) (i39 : Int32) : Nat → Int32 → Int32 → Option (Int32)
  | 0, _, _ => none
  | n + 1, i40, i41 => BX8_endNow_L25  i3 i6 i7 f12 i2 i39 i40 i41 (fun i40 i41 => LX8_endNow_L25  i3 i6 i7 f12 i2 i39 n i40 i41 ) 
noncomputable def fX8_endNow  (i3 : Int32) (i6 : Int32) (i7 : Int32) (f12 : Nat → Int32) (i2 : Int32) : Option (Int32) :=
  (fX8_leastNow i3 i6 i7 f12).bind (fun z13 => jn (fun (i16 : Int32) => LX8_endNow_L25  i3 i6 i7 f12 i2 z13 600 i16 (0 : Int32) ) (fun (k14 : Int32 → Option (Int32)) => if i2 = (0 : Int32) then (k14 (((1 : Int32) <<< (i3 &&& 31)) - (1 : Int32))) else (k14 (0 : Int32))))
noncomputable def BX8_byLayers_L28  (i3 : Int32) (f12 : Nat → Int32) (f13 : Nat → Int32) (n14 : Nat) (i74 : Int32) (n76 : Nat) (i103 : Int32) (i104 : Int32) (f105 : Nat → Int32) (f106 : Nat → Int32) (rec : Int32 → Int32 → (Nat → Int32) → (Nat → Int32) → Option ((Nat → Int32))) (k1 : Int32 → (Nat → Int32) → (Nat → Int32) → Option ((Nat → Int32))) : Option ((Nat → Int32)) :=
  if i3 ≤ i104 then (k1 i103 f105 f106) else (inB i104 n14 (jn (fun (i110 : Int32) (f111 : Nat → Int32) (f112 : Nat → Int32) => rec i110 (i104 + (1 : Int32)) f111 f112) (fun (k107 : Int32 → (Nat → Int32) → (Nat → Int32) → Option ((Nat → Int32))) => if (0 : Int32) ≤ (f105 i104.toNatClampNeg) then (k107 i103 f105 f106) else (inB i74 n76 ((fX8_left f12 f13 (f106 i74.toNatClampNeg) i104).bind (fun z109 => if z109 ≤ (0 : Int32) then (k107 i103 f105 f106) else (inB i74 n76 (inB i104 n14 (inB i103 n76 (k107 (i103 + (1 : Int32)) (upd f105 i104.toNatClampNeg (f106 i74.toNatClampNeg)) (upd f106 i103.toNatClampNeg i104)))))))))))
noncomputable def LX8_byLayers_L28  (i3 : Int32) (f12 : Nat → Int32) (f13 : Nat → Int32) (n14 : Nat) (i74 : Int32) (n76 : Nat) : Nat → Int32 → Int32 → (Nat → Int32) → (Nat → Int32) → (Int32 → (Nat → Int32) → (Nat → Int32) → Option ((Nat → Int32))) → Option ((Nat → Int32))
  | 0, _, _, _, _, _ => none
  | n + 1, i103, i104, f105, f106, k1 => BX8_byLayers_L28  i3 f12 f13 n14 i74 n76 i103 i104 f105 f106 (fun i103 i104 f105 f106 => LX8_byLayers_L28  i3 f12 f13 n14 i74 n76 n i103 i104 f105 f106 k1) k1
noncomputable def BX8_byLayers_L19  (i3 : Int32) (f12 : Nat → Int32) (f13 : Nat → Int32) (n14 : Nat) (n76 : Nat) (i73 : Int32) (i74 : Int32) (f75 : Nat → Int32) (f77 : Nat → Int32) (rec : Int32 → Int32 → (Nat → Int32) → (Nat → Int32) → Option ((Nat → Int32)))  : Option ((Nat → Int32)) :=
  if i73 ≤ i74 then (some f75) else (LX8_byLayers_L28  i3 f12 f13 n14 i74 n76 600 i73 (0 : Int32) f75 f77 (fun (i113 : Int32) (f114 : Nat → Int32) (f115 : Nat → Int32) => rec i113 (i74 + (1 : Int32)) f114 f115))
noncomputable def LX8_byLayers_L19  (i3 : Int32) (f12 : Nat → Int32) (f13 : Nat → Int32) (n14 : Nat) (n76 : Nat) : Nat → Int32 → Int32 → (Nat → Int32) → (Nat → Int32) → Option ((Nat → Int32))
  | 0, _, _, _, _ => none
  | n + 1, i73, i74, f75, f77 => BX8_byLayers_L19  i3 f12 f13 n14 n76 i73 i74 f75 f77 (fun i73 i74 f75 f77 => LX8_byLayers_L19  i3 f12 f13 n14 n76 n i73 i74 f75 f77 ) 
noncomputable def fX8_byLayers  (i3 : Int32) (i6 : Int32) (f12 : Nat → Int32) (f13 : Nat → Int32) (n14 : Nat) (f15 : Nat → Int32) : Option ((Nat → Int32)) :=
  nN i3 16 (inB (0 : Int32) i3.toNatClampNeg (LX8_byLayers_L19  i3 f12 f13 n14 i3.toNatClampNeg 600 (1 : Int32) (0 : Int32) f15 (upd (fun _ => 0) (0 : Int32).toNatClampNeg i6) ))
noncomputable def BX8_deeper_L13 (rf : Int32 → Int32 → Int32 → Int32 → Int32 → Int32 → Int32 → (Nat → Int32) → (Nat → Int32) → Nat → (Nat → Int32) → Int32 → Int32 → Option (Int32 × (Nat → Int32))) (i5 : Int32) (i8 : Int32) (i9 : Int32) (i10 : Int32) (i11 : Int32) (i12 : Int32) (i13 : Int32) (f14 : Nat → Int32) (f15 : Nat → Int32) (n16 : Nat) (i2 : Int32) (i4 : Int32) (i42 : Int32) (f43 : Nat → Int32) (rec : Int32 → (Nat → Int32) → Option (Int32 × (Nat → Int32)))  : Option (Int32 × (Nat → Int32)) :=
  if i5 ≤ i42 then (some ((0 : Int32), f43)) else (jn (fun (i46 : Int32) => inB i46 n16 (jn (fun (f51 : Nat → Int32) => rec (i42 + (1 : Int32)) f51) (fun (k47 : (Nat → Int32) → Option (Int32 × (Nat → Int32))) => if (0 : Int32) ≤ (f43 i46.toNatClampNeg) then (k47 f43) else ((fX8_left f14 f15 i2 i46).bind (fun z49 => if (0 : Int32) < z49 then (inB i46 n16 ((rf i5 i8 i9 i10 i11 i12 i13 f14 f15 n16 (upd f43 i46.toNatClampNeg i2) i46 i4).bind (fun z50 => if z50.1 = (0 : Int32) then (k47 z50.2) else (some ((1 : Int32), z50.2))))) else (k47 f43)))))) (fun (k44 : Int32 → Option (Int32 × (Nat → Int32))) => if i4 = (0 : Int32) then (k44 i42) else (k44 ((i5 - (1 : Int32)) - i42))))
noncomputable def LX8_deeper_L13 (rf : Int32 → Int32 → Int32 → Int32 → Int32 → Int32 → Int32 → (Nat → Int32) → (Nat → Int32) → Nat → (Nat → Int32) → Int32 → Int32 → Option (Int32 × (Nat → Int32))) (i5 : Int32) (i8 : Int32) (i9 : Int32) (i10 : Int32) (i11 : Int32) (i12 : Int32) (i13 : Int32) (f14 : Nat → Int32) (f15 : Nat → Int32) (n16 : Nat) (i2 : Int32) (i4 : Int32) : Nat → Int32 → (Nat → Int32) → Option (Int32 × (Nat → Int32))
  | 0, _, _ => none
  | n + 1, i42, f43 => BX8_deeper_L13 rf i5 i8 i9 i10 i11 i12 i13 f14 f15 n16 i2 i4 i42 f43 (fun i42 f43 => LX8_deeper_L13 rf i5 i8 i9 i10 i11 i12 i13 f14 f15 n16 i2 i4 n i42 f43 ) 
noncomputable def bX8_deeper (rf : Int32 → Int32 → Int32 → Int32 → Int32 → Int32 → Int32 → (Nat → Int32) → (Nat → Int32) → Nat → (Nat → Int32) → Int32 → Int32 → Option (Int32 × (Nat → Int32))) (i5 : Int32) (i8 : Int32) (i9 : Int32) (i10 : Int32) (i11 : Int32) (i12 : Int32) (i13 : Int32) (f14 : Nat → Int32) (f15 : Nat → Int32) (n16 : Nat) (f17 : Nat → Int32) (i2 : Int32) (i4 : Int32) : Option (Int32 × (Nat → Int32)) :=
  if i2 = i9 then (some ((1 : Int32), f17)) else (LX8_deeper_L13 rf i5 i8 i9 i10 i11 i12 i13 f14 f15 n16 i2 i4 600 (0 : Int32) f17 )
noncomputable def fX8_deeper : Nat → Int32 → Int32 → Int32 → Int32 → Int32 → Int32 → Int32 → (Nat → Int32) → (Nat → Int32) → Nat → (Nat → Int32) → Int32 → Int32 → Option (Int32 × (Nat → Int32))
  | 0, _, _, _, _, _, _, _, _, _, _, _, _, _ => none
  | n + 1, i5, i8, i9, i10, i11, i12, i13, f14, f15, n16, f17, i2, i4 => bX8_deeper (fX8_deeper n) i5 i8 i9 i10 i11 i12 i13 f14 f15 n16 f17 i2 i4
noncomputable def BX8_trackBy_L9  (i3 : Int32) (n32 : Nat) (i31 : Int32) (f33 : Nat → Int32) (rec : Int32 → (Nat → Int32) → Option (Option (Nat × (Nat → Int32)))) (k1 : (Nat → Int32) → Option (Option (Nat × (Nat → Int32)))) : Option (Option (Nat × (Nat → Int32))) :=
  if i3 ≤ i31 then (k1 f33) else (inB i31 n32 (rec (i31 + (1 : Int32)) (upd f33 i31.toNatClampNeg (-1 : Int32))))
noncomputable def LX8_trackBy_L9  (i3 : Int32) (n32 : Nat) : Nat → Int32 → (Nat → Int32) → ((Nat → Int32) → Option (Option (Nat × (Nat → Int32)))) → Option (Option (Nat × (Nat → Int32)))
  | 0, _, _, _ => none
  | n + 1, i31, f33, k1 => BX8_trackBy_L9  i3 n32 i31 f33 (fun i31 f33 => LX8_trackBy_L9  i3 n32 n i31 f33 k1) k1
noncomputable def BX8_trackBy_L88  (i6 : Int32) (n62 : Nat) (f42 : Nat → Int32) (i60 : Int32) (i61 : Int32) (rec : Int32 → Int32 → Option (Option (Nat × (Nat → Int32)))) (k1 : Int32 → Option (Option (Nat × (Nat → Int32)))) : Option (Option (Nat × (Nat → Int32))) :=
  if i61 = i6 then (k1 i60) else (inB i61 n62 (nm (f42 i61.toNatClampNeg) (fun (i63 : Int32) => rec (i60 + (1 : Int32)) i63)))
noncomputable def LX8_trackBy_L88  (i6 : Int32) (n62 : Nat) (f42 : Nat → Int32) : Nat → Int32 → Int32 → (Int32 → Option (Option (Nat × (Nat → Int32)))) → Option (Option (Nat × (Nat → Int32)))
  | 0, _, _, _ => none
  | n + 1, i60, i61, k1 => BX8_trackBy_L88  i6 n62 f42 i60 i61 (fun i60 i61 => LX8_trackBy_L88  i6 n62 f42 n i60 i61 k1) k1
noncomputable def BX8_trackBy_L125  (n89 : Nat) (f42 : Nat → Int32) (n90 : Nat) (i87 : Int32) (i88 : Int32) (f91 : Nat → Int32) (rec : Int32 → Int32 → (Nat → Int32) → Option (Option (Nat × (Nat → Int32))))  : Option (Option (Nat × (Nat → Int32))) :=
  if i88 < (0 : Int32) then (some (some (n90, f91))) else (inB i88 n90 (inB i87 n89 (nm (f42 i87.toNatClampNeg) (fun (i92 : Int32) => rec i92 (i88 + (-1 : Int32)) (upd f91 i88.toNatClampNeg i87)))))
noncomputable def LX8_trackBy_L125  (n89 : Nat) (f42 : Nat → Int32) (n90 : Nat) : Nat → Int32 → Int32 → (Nat → Int32) → Option (Option (Nat × (Nat → Int32)))
  | 0, _, _, _ => none
  | n + 1, i87, i88, f91 => BX8_trackBy_L125  n89 f42 n90 i87 i88 f91 (fun i87 i88 f91 => LX8_trackBy_L125  n89 f42 n90 n i87 i88 f91 ) 
noncomputable def fX8_trackBy  (i3 : Int32) (i6 : Int32) (i7 : Int32) (i8 : Int32) (i9 : Int32) (i10 : Int32) (i11 : Int32) (f12 : Nat → Int32) (f13 : Nat → Int32) (i2 : Int32) : Option (Option (Nat × (Nat → Int32))) :=
  nN i3 16 (LX8_trackBy_L9  i3 i3.toNatClampNeg 600 (0 : Int32) (fun _ => 0) (fun (f34 : Nat → Int32) => inB i6 i3.toNatClampNeg (jn (fun (f42 : Nat → Int32) => inB i7 i3.toNatClampNeg (if (0 : Int32) ≤ (f42 i7.toNatClampNeg) then (LX8_trackBy_L88  i6 i3.toNatClampNeg f42 600 (1 : Int32) i7 (fun (i64 : Int32) => nN i64 16 (nm (i64 - (1 : Int32)) (fun (i66 : Int32) => LX8_trackBy_L125  i3.toNatClampNeg f42 i64.toNatClampNeg 600 i7 i66 (fun _ => 0) )))) else (some none))) (fun (k35 : (Nat → Int32) → Option (Option (Nat × (Nat → Int32)))) => if i2 = (0 : Int32) then ((fX8_byLayers i3 i6 f12 f13 i3.toNatClampNeg (upd f34 i6.toNatClampNeg i6)).bind (fun z41 => k35 z41)) else (jn (fun (i39 : Int32) => (fX8_deeper 11 i3 i6 i7 i8 i9 i10 i11 f12 f13 i3.toNatClampNeg (upd f34 i6.toNatClampNeg i6) i6 i39).bind (fun z40 => k35 z40.2)) (fun (k37 : Int32 → Option (Option (Nat × (Nat → Int32)))) => if i2 = (2 : Int32) then (k37 (1 : Int32)) else (k37 (0 : Int32))))))))
noncomputable def BX8_stepNow_L18  (f12 : Nat → Int32) (f13 : Nat → Int32) (n15 : Nat) (f16 : Nat → Int32) (i36 : Int32) (i37 : Int32) (rec : Int32 → Int32 → Option (Int32 × (Nat → Int32))) (k1 : Int32 → Option (Int32 × (Nat → Int32))) : Option (Int32 × (Nat → Int32)) :=
  if (Int32.ofNat n15) ≤ i37 then (k1 i36) else (inB (i37 - (1 : Int32)) n15 (inB i37 n15 ((fX8_left f12 f13 (f16 (i37 - (1 : Int32)).toNatClampNeg) (f16 i37.toNatClampNeg)).bind (fun z38 => nm (if z38 < i36 then z38 else i36) (fun (i39 : Int32) => rec i39 (i37 + (1 : Int32)))))))
noncomputable def LX8_stepNow_L18  (f12 : Nat → Int32) (f13 : Nat → Int32) (n15 : Nat) (f16 : Nat → Int32) : Nat → Int32 → Int32 → (Int32 → Option (Int32 × (Nat → Int32))) → Option (Int32 × (Nat → Int32))
  | 0, _, _, _ => none
  | n + 1, i36, i37, k1 => BX8_stepNow_L18  f12 f13 n15 f16 i36 i37 (fun i36 i37 => LX8_stepNow_L18  f12 f13 n15 f16 n i36 i37 k1) k1
noncomputable def BX8_stepNow_L53  (i40 : Int32) (n15 : Nat) (f16 : Nat → Int32) (i58 : Int32) (f59 : Nat → Int32) (rec : Int32 → (Nat → Int32) → Option (Int32 × (Nat → Int32)))  : Option (Int32 × (Nat → Int32)) :=
  if (Int32.ofNat n15) ≤ i58 then (some (i40, f59)) else (inB (i58 - (1 : Int32)) n15 (inB i58 n15 ((fX8_flowOn f59 (f16 (i58 - (1 : Int32)).toNatClampNeg) (f16 i58.toNatClampNeg) i40).bind (fun z60 => rec (i58 + (1 : Int32)) z60))))
noncomputable def LX8_stepNow_L53  (i40 : Int32) (n15 : Nat) (f16 : Nat → Int32) : Nat → Int32 → (Nat → Int32) → Option (Int32 × (Nat → Int32))
  | 0, _, _ => none
  | n + 1, i58, f59 => BX8_stepNow_L53  i40 n15 f16 i58 f59 (fun i58 f59 => LX8_stepNow_L53  i40 n15 f16 n i58 f59 ) 
noncomputable def fX8_stepNow  (i3 : Int32) (i6 : Int32) (i7 : Int32) (i8 : Int32) (i9 : Int32) (i10 : Int32) (i11 : Int32) (f12 : Nat → Int32) (f13 : Nat → Int32) (i2 : Int32) : Option (Int32 × (Nat → Int32)) :=
  (fX8_trackBy i3 i6 i7 i8 i9 i10 i11 f12 f13 i2).bind (fun z14 => oc z14 (some ((0 : Int32), f13)) (fun n15 f16 => LX8_stepNow_L18  f12 f13 n15 f16 600 (2147483647 : Int32) (1 : Int32) (fun (i40 : Int32) => LX8_stepNow_L53  i40 n15 f16 600 (1 : Int32) f13 )))
noncomputable def BX8_nextPart_L43  (i3 : Int32) (i56 : Int32) (f12 : Nat → Int32) (i74 : Int32) (i75 : Int32) (rec : Int32 → Int32 → Option ((Nat → Int32) × Option (Nat × (Nat → Int32)))) (k1 : Int32 → Option ((Nat → Int32) × Option (Nat × (Nat → Int32)))) : Option ((Nat → Int32) × Option (Nat × (Nat → Int32))) :=
  if i3 ≤ i75 then (k1 i74) else (inB ((i56 * (9 : Int32)) + i75) 81 (jn (fun (i78 : Int32) => rec i78 (i75 + (1 : Int32))) (fun (k76 : Int32 → Option ((Nat → Int32) × Option (Nat × (Nat → Int32)))) => if (f12 ((i56 * (9 : Int32)) + i75).toNatClampNeg) ≤ (0 : Int32) then (k76 i74) else (k76 i56))))
noncomputable def LX8_nextPart_L43  (i3 : Int32) (i56 : Int32) (f12 : Nat → Int32) : Nat → Int32 → Int32 → (Int32 → Option ((Nat → Int32) × Option (Nat × (Nat → Int32)))) → Option ((Nat → Int32) × Option (Nat × (Nat → Int32)))
  | 0, _, _, _ => none
  | n + 1, i74, i75, k1 => BX8_nextPart_L43  i3 i56 f12 i74 i75 (fun i74 i75 => LX8_nextPart_L43  i3 i56 f12 n i74 i75 k1) k1
noncomputable def BX8_nextPart_L31  (i3 : Int32) (i54 : Int32) (f12 : Nat → Int32) (i55 : Int32) (i56 : Int32) (rec : Int32 → Int32 → Option ((Nat → Int32) × Option (Nat × (Nat → Int32)))) (k1 : Int32 → Option ((Nat → Int32) × Option (Nat × (Nat → Int32)))) : Option ((Nat → Int32) × Option (Nat × (Nat → Int32))) :=
  if i56 < (0 : Int32) then (k1 i55) else (if i54 = (0 : Int32) then (LX8_nextPart_L43  i3 i56 f12 600 i55 (0 : Int32) (fun (i79 : Int32) => rec i79 (i56 + (-1 : Int32)))) else (k1 i55))
noncomputable def LX8_nextPart_L31  (i3 : Int32) (i54 : Int32) (f12 : Nat → Int32) : Nat → Int32 → Int32 → (Int32 → Option ((Nat → Int32) × Option (Nat × (Nat → Int32)))) → Option ((Nat → Int32) × Option (Nat × (Nat → Int32)))
  | 0, _, _, _ => none
  | n + 1, i55, i56, k1 => BX8_nextPart_L31  i3 i54 f12 i55 i56 (fun i55 i56 => LX8_nextPart_L31  i3 i54 f12 n i55 i56 k1) k1
noncomputable def BX8_nextPart_L132  (i158 : Int32) (f12 : Nat → Int32) (i177 : Int32) (rec : Int32 → Option ((Nat → Int32) × Option (Nat × (Nat → Int32)))) (k1 : Int32 → Option ((Nat → Int32) × Option (Nat × (Nat → Int32)))) : Option ((Nat → Int32) × Option (Nat × (Nat → Int32))) :=
  inB ((i158 * (9 : Int32)) + i177) 81 (if (0 : Int32) < (f12 ((i158 * (9 : Int32)) + i177).toNatClampNeg) then (k1 i177) else (rec (i177 + (1 : Int32))))
noncomputable def LX8_nextPart_L132  (i158 : Int32) (f12 : Nat → Int32) : Nat → Int32 → (Int32 → Option ((Nat → Int32) × Option (Nat × (Nat → Int32)))) → Option ((Nat → Int32) × Option (Nat × (Nat → Int32)))
  | 0, _, _ => none
  | n + 1, i177, k1 => BX8_nextPart_L132  i158 f12 i177 (fun i177 => LX8_nextPart_L132  i158 f12 n i177 k1) k1
noncomputable def BX8_nextPart_L154  (i153 : Int32) (i178 : Int32) (n156 : Nat) (f157 : Nat → Int32) (i200 : Int32) (i201 : Int32) (rec : Int32 → Int32 → Option ((Nat → Int32) × Option (Nat × (Nat → Int32)))) (k1 : Int32 → Option ((Nat → Int32) × Option (Nat × (Nat → Int32)))) : Option ((Nat → Int32) × Option (Nat × (Nat → Int32))) :=
  if i153 ≤ i201 then (k1 i200) else (inB i201 n156 (jn (fun (i204 : Int32) => rec i204 (i201 + (1 : Int32))) (fun (k202 : Int32 → Option ((Nat → Int32) × Option (Nat × (Nat → Int32)))) => if (f157 i201.toNatClampNeg) = i178 then (k202 i201) else (k202 i200))))
noncomputable def LX8_nextPart_L154  (i153 : Int32) (i178 : Int32) (n156 : Nat) (f157 : Nat → Int32) : Nat → Int32 → Int32 → (Int32 → Option ((Nat → Int32) × Option (Nat × (Nat → Int32)))) → Option ((Nat → Int32) × Option (Nat × (Nat → Int32)))
  | 0, _, _, _ => none
  | n + 1, i200, i201, k1 => BX8_nextPart_L154  i153 i178 n156 f157 i200 i201 (fun i200 i201 => LX8_nextPart_L154  i153 i178 n156 f157 n i200 i201 k1) k1
noncomputable def BX8_nextPart_L110  (i7 : Int32) (i152 : Int32) (f12 : Nat → Int32) (n156 : Nat) (i153 : Int32) (i154 : Int32) (i155 : Int32) (f157 : Nat → Int32) (rec : Int32 → Int32 → Int32 → (Nat → Int32) → Option ((Nat → Int32) × Option (Nat × (Nat → Int32)))) (k1 : Int32 → Int32 → Int32 → (Nat → Int32) → Option ((Nat → Int32) × Option (Nat × (Nat → Int32)))) : Option ((Nat → Int32) × Option (Nat × (Nat → Int32))) :=
  if (0 : Int32) ≤ i154 then (k1 i153 i154 i155 f157) else (if i155 = (0 : Int32) then (inB (i153 - (1 : Int32)) n156 (nm (f157 (i153 - (1 : Int32)).toNatClampNeg) (fun (i158 : Int32) => LX8_nextPart_L132  i158 f12 600 (0 : Int32) (fun (i178 : Int32) => LX8_nextPart_L154  i153 i178 n156 f157 600 i154 (0 : Int32) (fun (i205 : Int32) => inB i153 n156 (jn (fun (i210 : Int32) => rec (i153 + (1 : Int32)) i205 i210 (upd f157 i153.toNatClampNeg i178)) (fun (k206 : Int32 → Option ((Nat → Int32) × Option (Nat × (Nat → Int32)))) => jn (fun (_ : Unit) => k206 (0 : Int32)) (fun (k208 : Unit → Option ((Nat → Int32) × Option (Nat × (Nat → Int32)))) => if (0 : Int32) ≤ i205 then (k208 ()) else (if i152 ≤ (0 : Int32) then (k208 ()) else (if i178 = i7 then (k206 (1 : Int32)) else (k208 ()))))))))))) else (k1 i153 i154 i155 f157))
noncomputable def LX8_nextPart_L110  (i7 : Int32) (i152 : Int32) (f12 : Nat → Int32) (n156 : Nat) : Nat → Int32 → Int32 → Int32 → (Nat → Int32) → (Int32 → Int32 → Int32 → (Nat → Int32) → Option ((Nat → Int32) × Option (Nat × (Nat → Int32)))) → Option ((Nat → Int32) × Option (Nat × (Nat → Int32)))
  | 0, _, _, _, _, _ => none
  | n + 1, i153, i154, i155, f157, k1 => BX8_nextPart_L110  i7 i152 f12 n156 i153 i154 i155 f157 (fun i153 i154 i155 f157 => LX8_nextPart_L110  i7 i152 f12 n156 n i153 i154 i155 f157 k1) k1
noncomputable def BX8_nextPart_L246  (i211 : Int32) (f12 : Nat → Int32) (n243 : Nat) (f214 : Nat → Int32) (i241 : Int32) (i242 : Int32) (rec : Int32 → Int32 → Option ((Nat → Int32) × Option (Nat × (Nat → Int32)))) (k1 : Int32 → Option ((Nat → Int32) × Option (Nat × (Nat → Int32)))) : Option ((Nat → Int32) × Option (Nat × (Nat → Int32))) :=
  if i211 ≤ i242 then (k1 i241) else (inB (i242 - (1 : Int32)) n243 (inB i242 n243 (inB (((f214 (i242 - (1 : Int32)).toNatClampNeg) * (9 : Int32)) + (f214 i242.toNatClampNeg)) 81 (nm (if (f12 (((f214 (i242 - (1 : Int32)).toNatClampNeg) * (9 : Int32)) + (f214 i242.toNatClampNeg)).toNatClampNeg) < i241 then (f12 (((f214 (i242 - (1 : Int32)).toNatClampNeg) * (9 : Int32)) + (f214 i242.toNatClampNeg)).toNatClampNeg) else i241) (fun (i244 : Int32) => rec i244 (i242 + (1 : Int32)))))))
noncomputable def LX8_nextPart_L246  (i211 : Int32) (f12 : Nat → Int32) (n243 : Nat) (f214 : Nat → Int32) : Nat → Int32 → Int32 → (Int32 → Option ((Nat → Int32) × Option (Nat × (Nat → Int32)))) → Option ((Nat → Int32) × Option (Nat × (Nat → Int32)))
  | 0, _, _, _ => none
  | n + 1, i241, i242, k1 => BX8_nextPart_L246  i211 f12 n243 f214 i241 i242 (fun i241 i242 => LX8_nextPart_L246  i211 f12 n243 f214 n i241 i242 k1) k1
noncomputable def BX8_nextPart_L319  (i211 : Int32) (i217 : Int32) (n271 : Nat) (f214 : Nat → Int32) (n272 : Nat) (i270 : Int32) (f273 : Nat → Int32) (rec : Int32 → (Nat → Int32) → Option ((Nat → Int32) × Option (Nat × (Nat → Int32)))) (k1 : (Nat → Int32) → Option ((Nat → Int32) × Option (Nat × (Nat → Int32)))) : Option ((Nat → Int32) × Option (Nat × (Nat → Int32))) :=
  if i211 ≤ i270 then (k1 f273) else (inB i270 n271 (inB ((i270 - i217) + (2 : Int32)) n272 (rec (i270 + (1 : Int32)) (upd f273 ((i270 - i217) + (2 : Int32)).toNatClampNeg (f214 i270.toNatClampNeg)))))
noncomputable def LX8_nextPart_L319  (i211 : Int32) (i217 : Int32) (n271 : Nat) (f214 : Nat → Int32) (n272 : Nat) : Nat → Int32 → (Nat → Int32) → ((Nat → Int32) → Option ((Nat → Int32) × Option (Nat × (Nat → Int32)))) → Option ((Nat → Int32) × Option (Nat × (Nat → Int32)))
  | 0, _, _, _ => none
  | n + 1, i270, f273, k1 => BX8_nextPart_L319  i211 i217 n271 f214 n272 i270 f273 (fun i270 f273 => LX8_nextPart_L319  i211 i217 n271 f214 n272 n i270 f273 k1) k1
noncomputable def BX8_nextPart_L353  (i211 : Int32) (i245 : Int32) (n297 : Nat) (f214 : Nat → Int32) (n298 : Nat) (f274 : Nat → Int32) (i295 : Int32) (f296 : Nat → Int32) (rec : Int32 → (Nat → Int32) → Option ((Nat → Int32) × Option (Nat × (Nat → Int32))))  : Option ((Nat → Int32) × Option (Nat × (Nat → Int32))) :=
  if i211 ≤ i295 then (some (f296, some (n298, f274))) else (inB (i295 - (1 : Int32)) n297 (inB i295 n297 (inB (((f214 (i295 - (1 : Int32)).toNatClampNeg) * (9 : Int32)) + (f214 i295.toNatClampNeg)) 81 (inB (((f214 (i295 - (1 : Int32)).toNatClampNeg) * (9 : Int32)) + (f214 i295.toNatClampNeg)) 81 (inB i295 n297 (inB (i295 - (1 : Int32)) n297 (inB (((f214 i295.toNatClampNeg) * (9 : Int32)) + (f214 (i295 - (1 : Int32)).toNatClampNeg)) 81 (inB (((f214 i295.toNatClampNeg) * (9 : Int32)) + (f214 (i295 - (1 : Int32)).toNatClampNeg)) 81 (rec (i295 + (1 : Int32)) (upd (upd f296 (((f214 (i295 - (1 : Int32)).toNatClampNeg) * (9 : Int32)) + (f214 i295.toNatClampNeg)).toNatClampNeg ((f296 (((f214 (i295 - (1 : Int32)).toNatClampNeg) * (9 : Int32)) + (f214 i295.toNatClampNeg)).toNatClampNeg) - i245)) (((f214 i295.toNatClampNeg) * (9 : Int32)) + (f214 (i295 - (1 : Int32)).toNatClampNeg)).toNatClampNeg (((upd f296 (((f214 (i295 - (1 : Int32)).toNatClampNeg) * (9 : Int32)) + (f214 i295.toNatClampNeg)).toNatClampNeg ((f296 (((f214 (i295 - (1 : Int32)).toNatClampNeg) * (9 : Int32)) + (f214 i295.toNatClampNeg)).toNatClampNeg) - i245)) (((f214 i295.toNatClampNeg) * (9 : Int32)) + (f214 (i295 - (1 : Int32)).toNatClampNeg)).toNatClampNeg) + i245)))))))))))
noncomputable def LX8_nextPart_L353  (i211 : Int32) (i245 : Int32) (n297 : Nat) (f214 : Nat → Int32) (n298 : Nat) (f274 : Nat → Int32) : Nat → Int32 → (Nat → Int32) → Option ((Nat → Int32) × Option (Nat × (Nat → Int32)))
  | 0, _, _ => none
  | n + 1, i295, f296 => BX8_nextPart_L353  i211 i245 n297 f214 n298 f274 i295 f296 (fun i295 f296 => LX8_nextPart_L353  i211 i245 n297 f214 n298 f274 n i295 f296 ) 
noncomputable def fX8_nextPart  (i3 : Int32) (i6 : Int32) (i7 : Int32) (f12 : Nat → Int32) : Option ((Nat → Int32) × Option (Nat × (Nat → Int32))) :=
  (fX8_fromPlace i3 f12 i6).bind (fun z13 => jn (fun (i16 : Int32) => nm (i3 - (1 : Int32)) (fun (i17 : Int32) => LX8_nextPart_L31  i3 z13 f12 600 i16 i17 (fun (i80 : Int32) => if (0 : Int32) ≤ i80 then (nN (i3 + (1 : Int32)) 16 (inB (0 : Int32) ((i3 + (1 : Int32)).toNatClampNeg) (LX8_nextPart_L110  i7 z13 f12 ((i3 + (1 : Int32)).toNatClampNeg) 600 (1 : Int32) (-1 : Int32) (0 : Int32) (upd (fun _ => 0) (0 : Int32).toNatClampNeg i80) (fun (i211 : Int32) (i212 : Int32) (i213 : Int32) (f214 : Nat → Int32) => jn (fun (i217 : Int32) => jn (fun (i220 : Int32) => nm (i217 + (1 : Int32)) (fun (i221 : Int32) => LX8_nextPart_L246  i211 f12 ((i3 + (1 : Int32)).toNatClampNeg) f214 600 i220 i221 (fun (i245 : Int32) => nN ((i211 - i217) + (2 : Int32)) 16 (jn (fun (i249 : Int32) => inB (0 : Int32) (((i211 - i217) + (2 : Int32)).toNatClampNeg) (inB (1 : Int32) (((i211 - i217) + (2 : Int32)).toNatClampNeg) (LX8_nextPart_L319  i211 i217 ((i3 + (1 : Int32)).toNatClampNeg) f214 (((i211 - i217) + (2 : Int32)).toNatClampNeg) 600 i217 (upd (upd (fun _ => 0) (0 : Int32).toNatClampNeg i249) (1 : Int32).toNatClampNeg i245) (fun (f274 : Nat → Int32) => nm (i217 + (1 : Int32)) (fun (i275 : Int32) => LX8_nextPart_L353  i211 i245 ((i3 + (1 : Int32)).toNatClampNeg) f214 (((i211 - i217) + (2 : Int32)).toNatClampNeg) f274 600 i275 f12 ))))) (fun (k247 : Int32 → Option ((Nat → Int32) × Option (Nat × (Nat → Int32)))) => if i213 = (0 : Int32) then (k247 (0 : Int32)) else (k247 (1 : Int32))))))) (fun (k218 : Int32 → Option ((Nat → Int32) × Option (Nat × (Nat → Int32)))) => if i213 = (0 : Int32) then (k218 (2147483647 : Int32)) else (k218 z13))) (fun (k215 : Int32 → Option ((Nat → Int32) × Option (Nat × (Nat → Int32)))) => if i213 = (0 : Int32) then (k215 i212) else (k215 (0 : Int32))))))) else (some (f12, none))))) (fun (k14 : Int32 → Option ((Nat → Int32) × Option (Nat × (Nat → Int32)))) => if z13 ≤ (0 : Int32) then (k14 (-1 : Int32)) else (k14 i6)))
noncomputable def BX8_flowRow_L10  (f11 : Nat → Int32) (i26 : Int32) (f27 : Nat → Int32) (rec : Int32 → (Nat → Int32) → Option ((Nat → Int32)))  : Option ((Nat → Int32)) :=
  if (81 : Int32) ≤ i26 then (some f27) else (inB i26 81 (inB i26 81 (rec (i26 + (1 : Int32)) (upd f27 i26.toNatClampNeg (f11 i26.toNatClampNeg)))))
noncomputable def LX8_flowRow_L10  (f11 : Nat → Int32) : Nat → Int32 → (Nat → Int32) → Option ((Nat → Int32))
  | 0, _, _ => none
  | n + 1, i26, f27 => BX8_flowRow_L10  f11 i26 f27 (fun i26 f27 => LX8_flowRow_L10  f11 n i26 f27 ) 
noncomputable def fX8_flowRow  (f11 : Nat → Int32) : Option ((Nat → Int32)) :=
  LX8_flowRow_L10  f11 600 (0 : Int32) (fun _ => 0) 
noncomputable def BX8_partsNow_L14  (i3 : Int32) (i6 : Int32) (i7 : Int32) (i2 : Int32) (i44 : Int32) (f46 : Nat → Int32) (n47 : Nat) (f48 : Nat → Int32) (rec : Int32 → (Nat → Int32) → Nat → (Nat → Int32) → Option (Int32))  : Option (Int32) :=
  jn (fun (i51 : Int32) => nm (i44 + i51) (fun (i52 : Int32) => (fX8_nextPart i3 i6 i7 f46).bind (fun z53 => oc z53.2 (some i52) (fun n54 f55 => rec i52 z53.1 n54 f55)))) (fun (k49 : Int32 → Option (Int32)) => if i2 = (2 : Int32) then (inB (0 : Int32) n47 (inB (1 : Int32) n47 (k49 ((f48 (0 : Int32).toNatClampNeg) * (f48 (1 : Int32).toNatClampNeg))))) else (inB (0 : Int32) n47 (if (f48 (0 : Int32).toNatClampNeg) = i2 then (k49 (1 : Int32)) else (k49 (0 : Int32)))))
noncomputable def LX8_partsNow_L14  (i3 : Int32) (i6 : Int32) (i7 : Int32) (i2 : Int32) : Nat → Int32 → (Nat → Int32) → Nat → (Nat → Int32) → Option (Int32)
  | 0, _, _, _, _ => none
  | n + 1, i44, f46, n47, f48 => BX8_partsNow_L14  i3 i6 i7 i2 i44 f46 n47 f48 (fun i44 f46 n47 f48 => LX8_partsNow_L14  i3 i6 i7 i2 n i44 f46 n47 f48 ) 
noncomputable def fX8_partsNow  (i3 : Int32) (i6 : Int32) (i7 : Int32) (f12 : Nat → Int32) (i2 : Int32) : Option (Int32) :=
  (fX8_flowRow f12).bind (fun z13 => (fX8_nextPart i3 i6 i7 z13).bind (fun z15 => oc z15.2 (some (0 : Int32)) (fun n16 f17 => LX8_partsNow_L14  i3 i6 i7 i2 64 (0 : Int32) z15.1 n16 f17 )))
noncomputable def BX8_partsNowText_L26  (n104 : Nat) (f105 : Nat → Int32) (i136 : Int32) (i138 : Int32) (n139 : Nat) (f140 : Nat → Int32) (rec : Int32 → Int32 → Nat → (Nat → Int32) → Option (Nat × (Nat → Int32))) (k1 : Int32 → Nat → (Nat → Int32) → Option (Nat × (Nat → Int32))) : Option (Nat × (Nat → Int32)) :=
  if (Int32.ofNat n104) ≤ i136 then (k1 i138 n139 f140) else (jn (fun (c144 : Nat) => gd (n139 ≤ (capE n139 (i138 + szK c144)) ∧ (capE n139 (i138 + szK c144)) ≤ 2400 ∧ c144 < 7) inferInstance ((fJ4_append_15ec4 c144 i138 n139 f140 (capE n139 (i138 + szK c144))).bind (fun z145 => inB i136 n104 (gd ((capE n139 (i138 + szK c144)) ≤ (capE (capE n139 (i138 + szK c144)) (z145.1 + szI (f105 i136.toNatClampNeg))) ∧ (capE (capE n139 (i138 + szK c144)) (z145.1 + szI (f105 i136.toNatClampNeg))) ≤ 2400) inferInstance ((fJ4_append_bf812 z145.1 (capE n139 (i138 + szK c144)) z145.2 (f105 i136.toNatClampNeg) (capE (capE n139 (i138 + szK c144)) (z145.1 + szI (f105 i136.toNatClampNeg)))).bind (fun z147 => rec (i136 + (1 : Int32)) z147.1 (capE (capE n139 (i138 + szK c144)) (z145.1 + szI (f105 i136.toNatClampNeg))) z147.2)))))) (fun (k141 : Nat → Option (Nat × (Nat → Int32))) => if i136 ≤ (2 : Int32) then ((fJ4_length_8abf5 i138).bind (fun z143 => if z143 ≤ (0 : Int32) then (k141 3) else (k141 4))) else (k141 6)))
noncomputable def LX8_partsNowText_L26  (n104 : Nat) (f105 : Nat → Int32) : Nat → Int32 → Int32 → Nat → (Nat → Int32) → (Int32 → Nat → (Nat → Int32) → Option (Nat × (Nat → Int32))) → Option (Nat × (Nat → Int32))
  | 0, _, _, _, _, _ => none
  | n + 1, i136, i138, n139, f140, k1 => BX8_partsNowText_L26  n104 f105 i136 i138 n139 f140 (fun i136 i138 n139 f140 => LX8_partsNowText_L26  n104 f105 n i136 i138 n139 f140 k1) k1
noncomputable def BX8_partsNowText_L19  (i2 : Int32) (i5 : Int32) (i6 : Int32) (f99 : Nat → Int32) (i101 : Int32) (n102 : Nat) (f103 : Nat → Int32) (n104 : Nat) (f105 : Nat → Int32) (rec : (Nat → Int32) → Int32 → Nat → (Nat → Int32) → Nat → (Nat → Int32) → Option (Nat × (Nat → Int32))) (k1 : Int32 → Nat → (Nat → Int32) → Option (Nat × (Nat → Int32))) : Option (Nat × (Nat → Int32)) :=
  LX8_partsNowText_L26  n104 f105 64 (2 : Int32) i101 n102 f103 (fun (i150 : Int32) (n151 : Nat) (f152 : Nat → Int32) => gd (n151 ≤ (capE n151 (i150 + szK 5)) ∧ (capE n151 (i150 + szK 5)) ≤ 2400) inferInstance ((fJ4_append_15ec4 5 i150 n151 f152 (capE n151 (i150 + szK 5))).bind (fun z153 => inB (1 : Int32) n104 (gd ((capE n151 (i150 + szK 5)) ≤ (capE (capE n151 (i150 + szK 5)) (z153.1 + szI (f105 (1 : Int32).toNatClampNeg))) ∧ (capE (capE n151 (i150 + szK 5)) (z153.1 + szI (f105 (1 : Int32).toNatClampNeg))) ≤ 2400) inferInstance ((fJ4_append_bf812 z153.1 (capE n151 (i150 + szK 5)) z153.2 (f105 (1 : Int32).toNatClampNeg) (capE (capE n151 (i150 + szK 5)) (z153.1 + szI (f105 (1 : Int32).toNatClampNeg)))).bind (fun z155 => (fX8_nextPart i2 i5 i6 f99).bind (fun z157 => oc z157.2 (k1 z155.1 (capE (capE n151 (i150 + szK 5)) (z153.1 + szI (f105 (1 : Int32).toNatClampNeg))) z155.2) (fun n158 f159 => rec z157.1 z155.1 (capE (capE n151 (i150 + szK 5)) (z153.1 + szI (f105 (1 : Int32).toNatClampNeg))) z155.2 n158 f159))))))))
noncomputable def LX8_partsNowText_L19  (i2 : Int32) (i5 : Int32) (i6 : Int32) : Nat → (Nat → Int32) → Int32 → Nat → (Nat → Int32) → Nat → (Nat → Int32) → (Int32 → Nat → (Nat → Int32) → Option (Nat × (Nat → Int32))) → Option (Nat × (Nat → Int32))
  | 0, _, _, _, _, _, _, _ => none
  | n + 1, f99, i101, n102, f103, n104, f105, k1 => BX8_partsNowText_L19  i2 i5 i6 f99 i101 n102 f103 n104 f105 (fun f99 i101 n102 f103 n104 f105 => LX8_partsNowText_L19  i2 i5 i6 n f99 i101 n102 f103 n104 f105 k1) k1
noncomputable def fX8_partsNowText  (i2 : Int32) (i5 : Int32) (i6 : Int32) (f11 : Nat → Int32) : Option (Nat × (Nat → Int32)) :=
  (fX8_flowRow f11).bind (fun z12 => (fJ4_init_da8c8 ).bind (fun z15 => (fX8_nextPart i2 i5 i6 z12).bind (fun z17 => oc z17.2 ((fJ4_toString_0e30d (0 : Int32) 16 (fun _ => 0)).bind (fun z21 => some (z21.1, z21.2))) (fun n18 f19 => LX8_partsNowText_L19  i2 i5 i6 64 z17.1 (0 : Int32) 16 (fun _ => 0) n18 f19 (fun (i162 : Int32) (n163 : Nat) (f164 : Nat → Int32) => (fJ4_toString_0e30d i162 n163 f164).bind (fun z165 => some (z165.1, z165.2)))))))
theorem pf_M_17 : pfact "BrookmillModel" 17 9 0 .int false := ⟨RX8, TX8, 9, tyX8, cf_9, by decide, tw_1247, rfl, rfl, by decide⟩
theorem pf_M_20 : pfact "BrookmillModel" 20 9 1 (.array .int) false := ⟨RX8, TX8, 9, tyX8, cf_9, by decide, tw_1248, rfl, rfl, by decide⟩
theorem pf_M_24 : pfact "BrookmillModel" 24 9 2 (.array .int) false := ⟨RX8, TX8, 9, tyX8, cf_9, by decide, tw_1249, rfl, rfl, by decide⟩
theorem pf_M_27 : pfact "BrookmillModel" 27 9 3 .int false := ⟨RX8, TX8, 9, tyX8, cf_9, by decide, tw_1250, rfl, rfl, by decide⟩
theorem gf_M_17 : gfact "BrookmillModel" 17 9 0 := ⟨RX8, TX8, 9, tyX8, cf_9, by decide, tw_1247⟩
theorem pf_M_30 : pfact "BrookmillModel" 30 9 4 .int false := ⟨RX8, TX8, 9, tyX8, cf_9, by decide, tw_1251, rfl, rfl, by decide⟩
theorem gf_M_13 : gfact "BrookmillModel" 13 9 8 := ⟨RX8, TX8, 9, tyX8, cf_9, by decide, tw_1255⟩
theorem pf_M_13 : pfact "BrookmillModel" 13 9 8 .int false := ⟨RX8, TX8, 9, tyX8, cf_9, by decide, tw_1255, rfl, rfl, by decide⟩
theorem gf_M_37 : gfact "BrookmillModel" 37 9 5 := ⟨RX8, TX8, 9, tyX8, cf_9, by decide, tw_1252⟩
theorem pf_M_37 : pfact "BrookmillModel" 37 9 5 .int false := ⟨RX8, TX8, 9, tyX8, cf_9, by decide, tw_1252, rfl, rfl, by decide⟩
theorem gf_M_40 : gfact "BrookmillModel" 40 9 6 := ⟨RX8, TX8, 9, tyX8, cf_9, by decide, tw_1253⟩
theorem pf_M_40 : pfact "BrookmillModel" 40 9 6 .int false := ⟨RX8, TX8, 9, tyX8, cf_9, by decide, tw_1253, rfl, rfl, by decide⟩
theorem gf_M_20 : gfact "BrookmillModel" 20 9 1 := ⟨RX8, TX8, 9, tyX8, cf_9, by decide, tw_1248⟩
theorem gf_M_24 : gfact "BrookmillModel" 24 9 2 := ⟨RX8, TX8, 9, tyX8, cf_9, by decide, tw_1249⟩
theorem gf_M_27 : gfact "BrookmillModel" 27 9 3 := ⟨RX8, TX8, 9, tyX8, cf_9, by decide, tw_1250⟩
theorem gf_M_30 : gfact "BrookmillModel" 30 9 4 := ⟨RX8, TX8, 9, tyX8, cf_9, by decide, tw_1251⟩
theorem nf_M_104 : nfact "BrookmillModel" 104 6 4 [.null, .int (0 : Int32), .int (0 : Int32), .int (0 : Int32)] := ⟨RJ4, TJ4, tyJ4, cf_6, tw_1463, tw_208, tw_72, by decide +kernel⟩
theorem mf_X7_init : mfact mX7_init 0 := ⟨by decide +kernel, ⟨by decide +kernel, by decide +kernel⟩, by decide +kernel, tw_1008, tw_76⟩
theorem mf_X8_begin : mfact mX8_begin 1 := ⟨by decide +kernel, ⟨by decide +kernel, by decide +kernel⟩, by decide +kernel, tw_1246, tw_75⟩
theorem mf_X8_init : mfact mX8_init 0 := ⟨by decide +kernel, ⟨by decide +kernel, by decide +kernel⟩, by decide +kernel, tw_1241, tw_75⟩
theorem mf_X8_thrown : mfact mX8_thrown 0 := ⟨by decide +kernel, ⟨by decide +kernel, by decide +kernel⟩, by decide +kernel, tw_1278, tw_75⟩
theorem mf_X8_isThrown : mfact mX8_isThrown 2 := ⟨by decide +kernel, ⟨by decide +kernel, by decide +kernel⟩, by decide +kernel, tw_1290, tw_75⟩
theorem mf_X8_isThrown_ : mfact mX8_isThrown_ 1 := ⟨by decide +kernel, ⟨by decide +kernel, by decide +kernel⟩, by decide +kernel, tw_1286, tw_75⟩
theorem mf_X8_isPlace : mfact mX8_isPlace 1 := ⟨by decide +kernel, ⟨by decide +kernel, by decide +kernel⟩, by decide +kernel, tw_1302, tw_75⟩
theorem mf_X8_isRoom : mfact mX8_isRoom 1 := ⟨by decide +kernel, ⟨by decide +kernel, by decide +kernel⟩, by decide +kernel, tw_1321, tw_75⟩
theorem mf_X8_isRule : mfact mX8_isRule 1 := ⟨by decide +kernel, ⟨by decide +kernel, by decide +kernel⟩, by decide +kernel, tw_1375, tw_75⟩
theorem mf_X8_isSet : mfact mX8_isSet 1 := ⟨by decide +kernel, ⟨by decide +kernel, by decide +kernel⟩, by decide +kernel, tw_1478, tw_75⟩
theorem mf_X8_did : mfact mX8_did 1 := ⟨by decide +kernel, ⟨by decide +kernel, by decide +kernel⟩, by decide +kernel, tw_1294, tw_75⟩
theorem mf_X8_no : mfact mX8_no 0 := ⟨by decide +kernel, ⟨by decide +kernel, by decide +kernel⟩, by decide +kernel, tw_1329, tw_75⟩
theorem mf_X8_room : mfact mX8_room 2 := ⟨by decide +kernel, ⟨by decide +kernel, by decide +kernel⟩, by decide +kernel, tw_1333, tw_75⟩
theorem mf_X8_flow : mfact mX8_flow 2 := ⟨by decide +kernel, ⟨by decide +kernel, by decide +kernel⟩, by decide +kernel, tw_1325, tw_75⟩
theorem mf_X8_left : mfact mX8_left 2 := ⟨by decide +kernel, ⟨by decide +kernel, by decide +kernel⟩, by decide +kernel, tw_1391, tw_75⟩
theorem mf_X8_flowOn : mfact mX8_flowOn 3 := ⟨by decide +kernel, ⟨by decide +kernel, by decide +kernel⟩, by decide +kernel, tw_1401, tw_75⟩
theorem mf_X8_still : mfact mX8_still 0 := ⟨by decide +kernel, ⟨by decide +kernel, by decide +kernel⟩, by decide +kernel, tw_1314, tw_75⟩
theorem mf_X8_fromPlace : mfact mX8_fromPlace 2 := ⟨by decide +kernel, ⟨by decide +kernel, by decide +kernel⟩, by decide +kernel, tw_1310, tw_75⟩
theorem mf_X8_valueNow : mfact mX8_valueNow 0 := ⟨by decide +kernel, ⟨by decide +kernel, by decide +kernel⟩, by decide +kernel, tw_1306, tw_75⟩
theorem mf_X8_through : mfact mX8_through 2 := ⟨by decide +kernel, ⟨by decide +kernel, by decide +kernel⟩, by decide +kernel, tw_1485, tw_75⟩
theorem mf_X8_isCut : mfact mX8_isCut 3 := ⟨by decide +kernel, ⟨by decide +kernel, by decide +kernel⟩, by decide +kernel, tw_1481, tw_75⟩
theorem mf_X8_least : mfact mX8_least 3 := ⟨by decide +kernel, ⟨by decide +kernel, by decide +kernel⟩, by decide +kernel, tw_1497, tw_75⟩
theorem mf_X8_leastNow : mfact mX8_leastNow 0 := ⟨by decide +kernel, ⟨by decide +kernel, by decide +kernel⟩, by decide +kernel, tw_1493, tw_75⟩
theorem mf_X8_leastsNow : mfact mX8_leastsNow 0 := ⟨by decide +kernel, ⟨by decide +kernel, by decide +kernel⟩, by decide +kernel, tw_1509, tw_75⟩
theorem mf_X8_endNow : mfact mX8_endNow 1 := ⟨by decide +kernel, ⟨by decide +kernel, by decide +kernel⟩, by decide +kernel, tw_1521, tw_75⟩
theorem mf_X8_byLayers : mfact mX8_byLayers 1 := ⟨by decide +kernel, ⟨by decide +kernel, by decide +kernel⟩, by decide +kernel, tw_1387, tw_75⟩
theorem mfz_X8_deeper : mfact (mX8_deeper 0) 3 := ⟨by decide +kernel, ⟨by decide +kernel, by decide +kernel⟩, by decide +kernel, tw_1395, tw_75⟩
theorem mf_X8_deeper (a0 : Nat) : mfact (mX8_deeper a0) 3 := mfz_X8_deeper
theorem mf_X8_trackBy : mfact mX8_trackBy 1 := ⟨by decide +kernel, ⟨by decide +kernel, by decide +kernel⟩, by decide +kernel, tw_1383, tw_75⟩
theorem mf_X8_stepNow : mfact mX8_stepNow 1 := ⟨by decide +kernel, ⟨by decide +kernel, by decide +kernel⟩, by decide +kernel, tw_1379, tw_75⟩
theorem mf_X8_nextPart : mfact mX8_nextPart 1 := ⟨by decide +kernel, ⟨by decide +kernel, by decide +kernel⟩, by decide +kernel, tw_1425, tw_75⟩
theorem mf_X8_flowRow : mfact mX8_flowRow 0 := ⟨by decide +kernel, ⟨by decide +kernel, by decide +kernel⟩, by decide +kernel, tw_1562, tw_75⟩
theorem mf_X8_partsNow : mfact mX8_partsNow 1 := ⟨by decide +kernel, ⟨by decide +kernel, by decide +kernel⟩, by decide +kernel, tw_1558, tw_75⟩
theorem mf_X8_partsNowText : mfact mX8_partsNowText 0 := ⟨by decide +kernel, ⟨by decide +kernel, by decide +kernel⟩, by decide +kernel, tw_1570, tw_75⟩
set_option maxRecDepth 20000 in
theorem kX7_init {E : EX} {l : Launch} (hl : l.stackTraces = false) (q1 : Nat) (l2 : Int64) (v3 : Value) : Ct E l mX7_init [.ref q1] [(q1, .inr (8, [.long l2, v3]))] (fX7_init ) (zX7_init E q1 l2) := Ct_of hl mf_X7_init.1 (Nat.le_of_ble_eq_true rfl) (fun K hs => by
  refine V_less 0 0 (Nat.le_refl _) (Nat.le_refl _) ?_
  refine V_pick [0] [(0, .ref q1)] rfl ?_
  unfold fX7_init
  refine V_aload_n (dX7_init 0 rfl) 1 rfl 0 rfl ?_
  refine V_objinit tw_1009 tw_98 tw_99 (Nat.le_of_ble_eq_true rfl) (Nat.le_of_ble_eq_true rfl) (dX7_init 1 rfl) 4 rfl ?_
  exact V_vret rfl (dX7_init 2 rfl) ⟨v3, rfl, rfl⟩)
set_option maxRecDepth 20000 in
theorem kX8_begin {E : EX} {l : Launch} (hl : l.stackTraces = false) (q1 : Nat) (i3 : Int32) (v4 v5 : Value) (i6 i7 i8 i9 i10 i11 i2 : Int32) : Ct E l mX8_begin [.ref q1, .int i2] [(q1, .inr (9, [.int i3, v4, v5, .int i6, .int i7, .int i8, .int i9, .int i10, .int i11]))] (fX8_begin i2) (zX8_begin E q1 i2 i8 i9 i10 i11) := Ct_of hl mf_X8_begin.1 (Nat.le_of_ble_eq_true rfl) (fun K hs => by
  refine V_less 2 162 (Nat.le_refl _) (Nat.le_refl _) ?_
  refine V_pick [0, 1] [(0, .ref q1), (1, .int i2)] rfl ?_
  unfold fX8_begin
  refine V_aload_n (dX8_begin 0 rfl) 1 rfl 0 rfl ?_
  refine V_iload_n (dX8_begin 1 rfl) 2 rfl 1 rfl ?_
  refine V_put pf_M_17 0 rfl rfl rfl (Nat.le_of_ble_eq_true rfl) (dX8_begin 2 rfl) 5 rfl [(q1, .inr (9, [.int i2, v4, v5, .int i6, .int i7, .int i8, .int i9, .int i10, .int i11]))] rfl ?_
  refine V_aload_n (dX8_begin 3 rfl) 6 rfl 0 rfl ?_
  refine V_bipush (81 : Int32) (by decide) (dX8_begin 4 rfl) 8 rfl ?_
  refine V_newc 81 (by decide) (by decide) (by decide) tw_116 (dX8_begin 5 rfl) 10 rfl 1 81 (show 1 + 1 ≤ 2 from Nat.le_of_ble_eq_true rfl) (show 81 + 81 ≤ 162 from Nat.le_of_ble_eq_true rfl) (fun q12 => ?_)
  refine V_eqW (ws2 := [(q1, .inr (9, [.int i2, v4, v5, .int i6, .int i7, .int i8, .int i9, .int i10, .int i11])), (q12, .inl (E.2.1, 81, .inl (fun _ => 0)))]) rfl ?_
  refine V_put pf_M_20 0 rfl rfl rfl (Nat.le_of_ble_eq_true rfl) (dX8_begin 6 rfl) 13 rfl [(q1, .inr (9, [.int i2, .ref q12, v5, .int i6, .int i7, .int i8, .int i9, .int i10, .int i11])), (q12, .inl (E.2.1, 81, .inl (fun _ => 0)))] rfl ?_
  refine V_aload_n (dX8_begin 7 rfl) 14 rfl 0 rfl ?_
  refine V_bipush (81 : Int32) (by decide) (dX8_begin 8 rfl) 16 rfl ?_
  refine V_newc 81 (by decide) (by decide) (by decide) tw_116 (dX8_begin 9 rfl) 18 rfl 0 0 (show 0 + 1 ≤ 1 from Nat.le_of_ble_eq_true rfl) (show 0 + 81 ≤ 81 from Nat.le_of_ble_eq_true rfl) (fun q13 => ?_)
  refine V_eqW (ws2 := [(q1, .inr (9, [.int i2, .ref q12, v5, .int i6, .int i7, .int i8, .int i9, .int i10, .int i11])), (q12, .inl (E.2.1, 81, .inl (fun _ => 0))), (q13, .inl (E.2.1, 81, .inl (fun _ => 0)))]) rfl ?_
  refine V_put pf_M_24 0 rfl rfl rfl (Nat.le_of_ble_eq_true rfl) (dX8_begin 10 rfl) 21 rfl [(q1, .inr (9, [.int i2, .ref q12, .ref q13, .int i6, .int i7, .int i8, .int i9, .int i10, .int i11])), (q12, .inl (E.2.1, 81, .inl (fun _ => 0))), (q13, .inl (E.2.1, 81, .inl (fun _ => 0)))] rfl ?_
  refine V_aload_n (dX8_begin 11 rfl) 22 rfl 0 rfl ?_
  refine V_iconst (0 : Int32) (by decide) (dX8_begin 12 rfl) 23 rfl ?_
  refine V_put pf_M_27 0 rfl rfl rfl (Nat.le_of_ble_eq_true rfl) (dX8_begin 13 rfl) 26 rfl [(q1, .inr (9, [.int i2, .ref q12, .ref q13, .int (0 : Int32), .int i7, .int i8, .int i9, .int i10, .int i11])), (q12, .inl (E.2.1, 81, .inl (fun _ => 0))), (q13, .inl (E.2.1, 81, .inl (fun _ => 0)))] rfl ?_
  refine V_aload_n (dX8_begin 14 rfl) 27 rfl 0 rfl ?_
  refine V_aload_n (dX8_begin 15 rfl) 28 rfl 0 rfl ?_
  refine V_get gf_M_17 0 rfl rfl (dX8_begin 16 rfl) 31 rfl ?_
  refine V_iconst (1 : Int32) (by decide) (dX8_begin 17 rfl) 32 rfl ?_
  refine V_isub (dX8_begin 18 rfl) 33 rfl ?_
  refine V_put pf_M_30 0 rfl rfl rfl (Nat.le_of_ble_eq_true rfl) (dX8_begin 19 rfl) 36 rfl [(q1, .inr (9, [.int i2, .ref q12, .ref q13, .int (0 : Int32), .int (i2 - (1 : Int32)), .int i8, .int i9, .int i10, .int i11])), (q12, .inl (E.2.1, 81, .inl (fun _ => 0))), (q13, .inl (E.2.1, 81, .inl (fun _ => 0)))] rfl ?_
  exact V_vret rfl (dX8_begin 20 rfl) ⟨q12, q13, rfl, rfl⟩)
set_option maxRecDepth 20000 in
theorem kX8_init {E : EX} {l : Launch} (hl : l.stackTraces = false) (q1 : Nat) (i2 : Int32) (v3 v4 : Value) (i5 i6 i7 i8 i9 i10 : Int32) : Ct E l mX8_init [.ref q1] [(q1, .inr (9, [.int i2, v3, v4, .int i5, .int i6, .int i7, .int i8, .int i9, .int i10]))] (fX8_init ) (zX8_init E q1 i7 i8 i9 i10) := Ct_of hl mf_X8_init.1 (Nat.le_of_ble_eq_true rfl) (fun K hs => by
  refine V_less 2 162 (Nat.le_refl _) (Nat.le_refl _) ?_
  refine V_pick [0] [(0, .ref q1)] rfl ?_
  unfold fX8_init
  refine V_aload_n (dX8_init 0 rfl) 1 rfl 0 rfl ?_
  refine V_objinit tw_1242 tw_98 tw_99 (Nat.le_of_ble_eq_true rfl) (Nat.le_of_ble_eq_true rfl) (dX8_init 1 rfl) 4 rfl ?_
  refine V_aload_n (dX8_init 2 rfl) 5 rfl 0 rfl ?_
  refine V_bipush (6 : Int32) (by decide) (dX8_init 3 rfl) 7 rfl ?_
  refine V_callV (M := mX8_init) (wcs := [(q1, .inr (9, [.int i2, v3, v4, .int i5, .int i6, .int i7, .int i8, .int i9, .int i10]))]) (wr := []) mf_X8_begin tw_1243 tw_1245 tw_26 ⟨Nat.le_of_ble_eq_true rfl, Nat.le_of_ble_eq_true rfl⟩ (dX8_init 4 rfl) 10 rfl (kX8_begin hs q1 i2 v3 v4 i5 i6 i7 i8 i9 i10 (6 : Int32)) rfl [0] [] (q0 := 0) rfl rfl rfl rfl (by decide) rfl rfl rfl rfl (Nat.le_of_ble_eq_true rfl) 0 0 (show 0 + 2 ≤ 2 from Nat.le_of_ble_eq_true rfl) (show 0 + 162 ≤ 162 from Nat.le_of_ble_eq_true rfl) (fun z11 v w hz => ?_)
  obtain ⟨q12, q13, rfl, rfl⟩ := hz
  show V E K mX8_init (Qm E K mX8_init (zX8_init E q1 i7 i8 i9 i10)) 0 0 [(q1, .inr (9, [.int (6 : Int32), .ref q12, .ref q13, .int (0 : Int32), .int z11, .int i7, .int i8, .int i9, .int i10])), (q12, .inl (E.2.1, 81, .inl (fun _ => 0))), (q13, .inl (E.2.1, 81, .inl (fun _ => 0)))] 10 [(0, .ref q1)] [] _
  exact V_vret rfl (dX8_init 5 rfl) ⟨q12, q13, rfl, rfl⟩)
set_option maxRecDepth 20000 in
theorem kX8_thrown {E : EX} {l : Launch} (hl : l.stackTraces = false) (q1 : Nat) (i2 : Int32) (v3 v4 : Value) (i5 i6 i7 i8 i9 i10 : Int32) : Ct E l mX8_thrown [.ref q1] [(q1, .inr (9, [.int i2, v3, v4, .int i5, .int i6, .int i7, .int i8, .int i9, .int i10]))] (fX8_thrown i10) (zX8_thrown E q1 i2 v3 v4 i5 i6 i7 i8 i9 i10) := Ct_of hl mf_X8_thrown.1 (Nat.le_of_ble_eq_true rfl) (fun K hs => by
  refine V_less 0 0 (Nat.le_refl _) (Nat.le_refl _) ?_
  refine V_pick [0] [(0, .ref q1)] rfl ?_
  unfold fX8_thrown
  refine V_aload_n (dX8_thrown 0 rfl) 1 rfl 0 rfl ?_
  refine V_get gf_M_13 0 rfl rfl (dX8_thrown 1 rfl) 4 rfl ?_
  exact V_iret rfl (dX8_thrown 2 rfl) ⟨rfl, rfl⟩)
set_option maxRecDepth 20000 in
theorem kX8_isThrown {E : EX} {l : Launch} (hl : l.stackTraces = false) (q1 : Nat) (i4 : Int32) (v5 v6 : Value) (i7 i8 i9 i10 i11 i12 i2 i3 : Int32) : Ct E l mX8_isThrown [.ref q1, .int i2, .int i3] [(q1, .inr (9, [.int i4, v5, v6, .int i7, .int i8, .int i9, .int i10, .int i11, .int i12]))] (fX8_isThrown i2 i3) (zX8_isThrown E q1 i4 v5 v6 i7 i8 i9 i10 i11) := Ct_of hl mf_X8_isThrown.1 (Nat.le_of_ble_eq_true rfl) (fun K hs => by
  refine V_less 0 0 (Nat.le_refl _) (Nat.le_refl _) ?_
  refine V_pick [0, 1, 2] [(0, .ref q1), (1, .int i2), (2, .int i3)] rfl ?_
  unfold fX8_isThrown
  refine V_aload_n (dX8_isThrown 0 rfl) 1 rfl 0 rfl ?_
  refine V_iload_n (dX8_isThrown 1 rfl) 2 rfl 1 rfl ?_
  refine V_jn (fun (k13 : Int32 → Option (Int32 × Int32)) => ∀ (i15 : Int32), V E K mX8_isThrown (Qm E K mX8_isThrown (zX8_isThrown E q1 i4 v5 v6 i7 i8 i9 i10 i11)) 0 0 [(q1, .inr (9, [.int i4, v5, v6, .int i7, .int i8, .int i9, .int i10, .int i11, .int i12]))] 18 [(0, .ref q1)] [.int i15, .ref q1] (k13 i15)) ?_ ?_
  · intro i15
    show V E K mX8_isThrown (Qm E K mX8_isThrown (zX8_isThrown E q1 i4 v5 v6 i7 i8 i9 i10 i11)) 0 0 [(q1, .inr (9, [.int i4, v5, v6, .int i7, .int i8, .int i9, .int i10, .int i11, .int i12]))] 18 [(0, .ref q1)] [.int i15, .ref q1] _
    refine V_put pf_M_13 0 rfl rfl rfl (Nat.le_of_ble_eq_true rfl) (dX8_isThrown 10 rfl) 21 rfl [(q1, .inr (9, [.int i4, v5, v6, .int i7, .int i8, .int i9, .int i10, .int i11, .int i15]))] rfl ?_
    refine V_aload_n (dX8_isThrown 11 rfl) 22 rfl 0 rfl ?_
    refine V_get gf_M_13 0 rfl rfl (dX8_isThrown 12 rfl) 25 rfl ?_
    refine V_if_le (dX8_isThrown 13 rfl) 32 (by decide) 28 rfl ?_ ?_
    · refine V_iconst (0 : Int32) (by decide) (dX8_isThrown 16 rfl) 33 rfl ?_
      exact V_zret rfl (by decide) (dX8_isThrown 17 rfl) ⟨rfl, rfl⟩
    · refine V_iconst (1 : Int32) (by decide) (dX8_isThrown 14 rfl) 29 rfl ?_
      refine V_goto (dX8_isThrown 15 rfl) 33 (by decide) ?_
      exact V_zret rfl (by decide) (dX8_isThrown 17 rfl) ⟨rfl, rfl⟩
  · intro k13 hk14
    refine V_if_eq (dX8_isThrown 2 rfl) 9 (by decide) 5 rfl ?_ ?_
    · refine V_iload_n (dX8_isThrown 5 rfl) 10 rfl 2 rfl ?_
      refine V_if_eq (dX8_isThrown 6 rfl) 17 (by decide) 13 rfl ?_ ?_
      · refine V_iconst (0 : Int32) (by decide) (dX8_isThrown 9 rfl) 18 rfl ?_
        refine V_pick [0] [(0, .ref q1)] rfl ?_
        exact hk14 (0 : Int32)
      · refine V_iconst (2 : Int32) (by decide) (dX8_isThrown 7 rfl) 14 rfl ?_
        refine V_goto (dX8_isThrown 8 rfl) 18 (by decide) ?_
        refine V_pick [0] [(0, .ref q1)] rfl ?_
        exact hk14 (2 : Int32)
    · refine V_iconst (1 : Int32) (by decide) (dX8_isThrown 3 rfl) 6 rfl ?_
      refine V_goto (dX8_isThrown 4 rfl) 18 (by decide) ?_
      refine V_pick [0] [(0, .ref q1)] rfl ?_
      exact hk14 (1 : Int32))
set_option maxRecDepth 20000 in
theorem kX8_isThrown_ {E : EX} {l : Launch} (hl : l.stackTraces = false) (q1 : Nat) (i3 : Int32) (v4 v5 : Value) (i6 i7 i8 i9 i10 i11 i2 : Int32) : Ct E l mX8_isThrown_ [.ref q1, .int i2] [(q1, .inr (9, [.int i3, v4, v5, .int i6, .int i7, .int i8, .int i9, .int i10, .int i11]))] (fX8_isThrown_ i2) (zX8_isThrown_ E q1 i3 v4 v5 i6 i7 i8 i9 i10) := Ct_of hl mf_X8_isThrown_.1 (Nat.le_of_ble_eq_true rfl) (fun K hs => by
  refine V_less 0 0 (Nat.le_refl _) (Nat.le_refl _) ?_
  refine V_pick [0, 1] [(0, .ref q1), (1, .int i2)] rfl ?_
  unfold fX8_isThrown_
  refine V_aload_n (dX8_isThrown_ 0 rfl) 1 rfl 0 rfl ?_
  refine V_iload_n (dX8_isThrown_ 1 rfl) 2 rfl 1 rfl ?_
  refine V_iconst (0 : Int32) (by decide) (dX8_isThrown_ 2 rfl) 3 rfl ?_
  refine V_callV (M := mX8_isThrown_) (wcs := [(q1, .inr (9, [.int i3, v4, v5, .int i6, .int i7, .int i8, .int i9, .int i10, .int i11]))]) (wr := []) mf_X8_isThrown tw_1287 tw_1289 tw_28 ⟨Nat.le_of_ble_eq_true rfl, Nat.le_of_ble_eq_true rfl⟩ (dX8_isThrown_ 3 rfl) 6 rfl (kX8_isThrown hs q1 i3 v4 v5 i6 i7 i8 i9 i10 i11 i2 (0 : Int32)) rfl [0] [] (q0 := 0) rfl rfl rfl rfl (by decide) rfl rfl rfl rfl (Nat.le_of_ble_eq_true rfl) 0 0 (show 0 + 0 ≤ 0 from Nat.le_of_ble_eq_true rfl) (show 0 + 0 ≤ 0 from Nat.le_of_ble_eq_true rfl) (fun z12 v w hz => ?_)
  obtain ⟨rfl, rfl⟩ := hz
  show V E K mX8_isThrown_ (Qm E K mX8_isThrown_ (zX8_isThrown_ E q1 i3 v4 v5 i6 i7 i8 i9 i10)) 0 0 [(q1, .inr (9, [.int i3, v4, v5, .int i6, .int i7, .int i8, .int i9, .int i10, .int z12.2]))] 6 [(0, .ref q1), (1, .int i2)] [.int z12.1] _
  refine V_bz (fun hb => ?_)
  exact V_zret rfl (bz_n hb) (dX8_isThrown_ 4 rfl) ⟨rfl, rfl⟩)
set_option maxRecDepth 20000 in
theorem kX8_isPlace {E : EX} {l : Launch} (hl : l.stackTraces = false) (q1 : Nat) (i3 : Int32) (v4 v5 : Value) (i6 i7 i8 i9 i10 i11 i2 : Int32) : Ct E l mX8_isPlace [.ref q1, .int i2] [(q1, .inr (9, [.int i3, v4, v5, .int i6, .int i7, .int i8, .int i9, .int i10, .int i11]))] (fX8_isPlace i3 i2) (zX8_isPlace E q1 i3 v4 v5 i6 i7 i8 i9 i10 i11) := Ct_of hl mf_X8_isPlace.1 (Nat.le_of_ble_eq_true rfl) (fun K hs => by
  refine V_less 0 0 (Nat.le_refl _) (Nat.le_refl _) ?_
  refine V_pick [0, 1] [(0, .ref q1), (1, .int i2)] rfl ?_
  unfold fX8_isPlace
  refine V_iload_n (dX8_isPlace 0 rfl) 1 rfl 1 rfl ?_
  refine V_if_lt (dX8_isPlace 1 rfl) 16 (by decide) 4 rfl ?_ ?_
  · refine V_iconst (0 : Int32) (by decide) (dX8_isPlace 8 rfl) 17 rfl ?_
    exact V_zret rfl (by decide) (dX8_isPlace 9 rfl) ⟨rfl, rfl⟩
  · refine V_iload_n (dX8_isPlace 2 rfl) 5 rfl 1 rfl ?_
    refine V_aload_n (dX8_isPlace 3 rfl) 6 rfl 0 rfl ?_
    refine V_get gf_M_17 0 rfl rfl (dX8_isPlace 4 rfl) 9 rfl ?_
    refine V_icmp_ge (dX8_isPlace 5 rfl) 16 (by decide) 12 rfl ?_ ?_
    · refine V_iconst (0 : Int32) (by decide) (dX8_isPlace 8 rfl) 17 rfl ?_
      exact V_zret rfl (by decide) (dX8_isPlace 9 rfl) ⟨rfl, rfl⟩
    · refine V_iconst (1 : Int32) (by decide) (dX8_isPlace 6 rfl) 13 rfl ?_
      refine V_goto (dX8_isPlace 7 rfl) 17 (by decide) ?_
      exact V_zret rfl (by decide) (dX8_isPlace 9 rfl) ⟨rfl, rfl⟩)
set_option maxRecDepth 20000 in
theorem kX8_isRoom {E : EX} {l : Launch} (hl : l.stackTraces = false)  (i1 : Int32) : Ct E l mX8_isRoom [.int i1] [] (fX8_isRoom i1) (zX8_isRoom E) := Ct_of hl mf_X8_isRoom.1 (Nat.le_of_ble_eq_true rfl) (fun K hs => by
  refine V_less 0 0 (Nat.le_refl _) (Nat.le_refl _) ?_
  refine V_pick [0] [(0, .int i1)] rfl ?_
  unfold fX8_isRoom
  refine V_iload_n (dX8_isRoom 0 rfl) 1 rfl 0 rfl ?_
  refine V_if_lt (dX8_isRoom 1 rfl) 14 (by decide) 4 rfl ?_ ?_
  · refine V_iconst (0 : Int32) (by decide) (dX8_isRoom 7 rfl) 15 rfl ?_
    exact V_zret rfl (by decide) (dX8_isRoom 8 rfl) ⟨rfl, rfl⟩
  · refine V_iload_n (dX8_isRoom 2 rfl) 5 rfl 0 rfl ?_
    refine V_bipush (50 : Int32) (by decide) (dX8_isRoom 3 rfl) 7 rfl ?_
    refine V_icmp_gt (dX8_isRoom 4 rfl) 14 (by decide) 10 rfl ?_ ?_
    · refine V_iconst (0 : Int32) (by decide) (dX8_isRoom 7 rfl) 15 rfl ?_
      exact V_zret rfl (by decide) (dX8_isRoom 8 rfl) ⟨rfl, rfl⟩
    · refine V_iconst (1 : Int32) (by decide) (dX8_isRoom 5 rfl) 11 rfl ?_
      refine V_goto (dX8_isRoom 6 rfl) 15 (by decide) ?_
      exact V_zret rfl (by decide) (dX8_isRoom 8 rfl) ⟨rfl, rfl⟩)
set_option maxRecDepth 20000 in
theorem kX8_isRule {E : EX} {l : Launch} (hl : l.stackTraces = false)  (i1 : Int32) : Ct E l mX8_isRule [.int i1] [] (fX8_isRule i1) (zX8_isRule E) := Ct_of hl mf_X8_isRule.1 (Nat.le_of_ble_eq_true rfl) (fun K hs => by
  refine V_less 0 0 (Nat.le_refl _) (Nat.le_refl _) ?_
  refine V_pick [0] [(0, .int i1)] rfl ?_
  unfold fX8_isRule
  refine V_iload_n (dX8_isRule 0 rfl) 1 rfl 0 rfl ?_
  refine V_if_lt (dX8_isRule 1 rfl) 13 (by decide) 4 rfl ?_ ?_
  · refine V_iconst (0 : Int32) (by decide) (dX8_isRule 7 rfl) 14 rfl ?_
    exact V_zret rfl (by decide) (dX8_isRule 8 rfl) ⟨rfl, rfl⟩
  · refine V_iload_n (dX8_isRule 2 rfl) 5 rfl 0 rfl ?_
    refine V_iconst (2 : Int32) (by decide) (dX8_isRule 3 rfl) 6 rfl ?_
    refine V_icmp_gt (dX8_isRule 4 rfl) 13 (by decide) 9 rfl ?_ ?_
    · refine V_iconst (0 : Int32) (by decide) (dX8_isRule 7 rfl) 14 rfl ?_
      exact V_zret rfl (by decide) (dX8_isRule 8 rfl) ⟨rfl, rfl⟩
    · refine V_iconst (1 : Int32) (by decide) (dX8_isRule 5 rfl) 10 rfl ?_
      refine V_goto (dX8_isRule 6 rfl) 14 (by decide) ?_
      exact V_zret rfl (by decide) (dX8_isRule 8 rfl) ⟨rfl, rfl⟩)
set_option maxRecDepth 20000 in
theorem kX8_isSet {E : EX} {l : Launch} (hl : l.stackTraces = false) (q1 : Nat) (i3 : Int32) (v4 v5 : Value) (i6 i7 i8 i9 i10 i11 i2 : Int32) : Ct E l mX8_isSet [.ref q1, .int i2] [(q1, .inr (9, [.int i3, v4, v5, .int i6, .int i7, .int i8, .int i9, .int i10, .int i11]))] (fX8_isSet i3 i2) (zX8_isSet E q1 i3 v4 v5 i6 i7 i8 i9 i10 i11) := Ct_of hl mf_X8_isSet.1 (Nat.le_of_ble_eq_true rfl) (fun K hs => by
  refine V_less 0 0 (Nat.le_refl _) (Nat.le_refl _) ?_
  refine V_pick [0, 1] [(0, .ref q1), (1, .int i2)] rfl ?_
  unfold fX8_isSet
  refine V_iload_n (dX8_isSet 0 rfl) 1 rfl 1 rfl ?_
  refine V_if_lt (dX8_isSet 1 rfl) 18 (by decide) 4 rfl ?_ ?_
  · refine V_iconst (0 : Int32) (by decide) (dX8_isSet 10 rfl) 19 rfl ?_
    exact V_zret rfl (by decide) (dX8_isSet 11 rfl) ⟨rfl, rfl⟩
  · refine V_iload_n (dX8_isSet 2 rfl) 5 rfl 1 rfl ?_
    refine V_iconst (1 : Int32) (by decide) (dX8_isSet 3 rfl) 6 rfl ?_
    refine V_aload_n (dX8_isSet 4 rfl) 7 rfl 0 rfl ?_
    refine V_get gf_M_17 0 rfl rfl (dX8_isSet 5 rfl) 10 rfl ?_
    refine V_ishl (dX8_isSet 6 rfl) 11 rfl ?_
    refine V_icmp_ge (dX8_isSet 7 rfl) 18 (by decide) 14 rfl ?_ ?_
    · refine V_iconst (0 : Int32) (by decide) (dX8_isSet 10 rfl) 19 rfl ?_
      exact V_zret rfl (by decide) (dX8_isSet 11 rfl) ⟨rfl, rfl⟩
    · refine V_iconst (1 : Int32) (by decide) (dX8_isSet 8 rfl) 15 rfl ?_
      refine V_goto (dX8_isSet 9 rfl) 19 (by decide) ?_
      exact V_zret rfl (by decide) (dX8_isSet 11 rfl) ⟨rfl, rfl⟩)
set_option maxRecDepth 20000 in
theorem kX8_did {E : EX} {l : Launch} (hl : l.stackTraces = false) (q1 : Nat) (i3 : Int32) (v4 v5 : Value) (i6 i7 i8 i9 i10 i11 i2 : Int32) : Ct E l mX8_did [.ref q1, .int i2] [(q1, .inr (9, [.int i3, v4, v5, .int i6, .int i7, .int i8, .int i9, .int i10, .int i11]))] (fX8_did i8 i2) (zX8_did E q1 i3 v4 v5 i6 i7 i9 i10 i11) := Ct_of hl mf_X8_did.1 (Nat.le_of_ble_eq_true rfl) (fun K hs => by
  refine V_less 0 0 (Nat.le_refl _) (Nat.le_refl _) ?_
  refine V_pick [0, 1] [(0, .ref q1), (1, .int i2)] rfl ?_
  unfold fX8_did
  refine V_aload_n (dX8_did 0 rfl) 1 rfl 0 rfl ?_
  refine V_dup rfl (dX8_did 1 rfl) 2 rfl ?_
  refine V_get gf_M_37 0 rfl rfl (dX8_did 2 rfl) 5 rfl ?_
  refine V_iconst (1 : Int32) (by decide) (dX8_did 3 rfl) 6 rfl ?_
  refine V_iadd (dX8_did 4 rfl) 7 rfl ?_
  refine V_put pf_M_37 0 rfl rfl rfl (Nat.le_of_ble_eq_true rfl) (dX8_did 5 rfl) 10 rfl [(q1, .inr (9, [.int i3, v4, v5, .int i6, .int i7, .int (i8 + (1 : Int32)), .int i9, .int i10, .int i11]))] rfl ?_
  refine V_iload_n (dX8_did 6 rfl) 11 rfl 1 rfl ?_
  exact V_iret rfl (dX8_did 7 rfl) ⟨rfl, rfl⟩)
set_option maxRecDepth 20000 in
theorem kX8_no {E : EX} {l : Launch} (hl : l.stackTraces = false) (q1 : Nat) (i2 : Int32) (v3 v4 : Value) (i5 i6 i7 i8 i9 i10 : Int32) : Ct E l mX8_no [.ref q1] [(q1, .inr (9, [.int i2, v3, v4, .int i5, .int i6, .int i7, .int i8, .int i9, .int i10]))] (fX8_no i8) (zX8_no E q1 i2 v3 v4 i5 i6 i7 i9 i10) := Ct_of hl mf_X8_no.1 (Nat.le_of_ble_eq_true rfl) (fun K hs => by
  refine V_less 0 0 (Nat.le_refl _) (Nat.le_refl _) ?_
  refine V_pick [0] [(0, .ref q1)] rfl ?_
  unfold fX8_no
  refine V_aload_n (dX8_no 0 rfl) 1 rfl 0 rfl ?_
  refine V_dup rfl (dX8_no 1 rfl) 2 rfl ?_
  refine V_get gf_M_40 0 rfl rfl (dX8_no 2 rfl) 5 rfl ?_
  refine V_iconst (1 : Int32) (by decide) (dX8_no 3 rfl) 6 rfl ?_
  refine V_iadd (dX8_no 4 rfl) 7 rfl ?_
  refine V_put pf_M_40 0 rfl rfl rfl (Nat.le_of_ble_eq_true rfl) (dX8_no 5 rfl) 10 rfl [(q1, .inr (9, [.int i2, v3, v4, .int i5, .int i6, .int i7, .int (i8 + (1 : Int32)), .int i9, .int i10]))] rfl ?_
  refine V_bipush (-9 : Int32) (by decide) (dX8_no 6 rfl) 12 rfl ?_
  exact V_iret rfl (dX8_no 7 rfl) ⟨rfl, rfl⟩)
set_option maxRecDepth 20000 in
theorem kX8_room {E : EX} {l : Launch} (hl : l.stackTraces = false) (q1 q5 : Nat) (i4 : Int32) (v6 : Value) (i7 i8 i9 i10 i11 i12 : Int32) (f13 : Nat → Int32) (i2 i3 : Int32) : Ct E l mX8_room [.ref q1, .int i2, .int i3] [(q1, .inr (9, [.int i4, .ref q5, v6, .int i7, .int i8, .int i9, .int i10, .int i11, .int i12])), (q5, .inl (E.2.1, 81, .inl f13))] (fX8_room f13 i2 i3) (zX8_room E q1 q5 i4 v6 i7 i8 i9 i10 i11 i12 f13) := Ct_of hl mf_X8_room.1 (Nat.le_of_ble_eq_true rfl) (fun K hs => by
  refine V_less 0 0 (Nat.le_refl _) (Nat.le_refl _) ?_
  refine V_pick [0, 1, 2] [(0, .ref q1), (1, .int i2), (2, .int i3)] rfl ?_
  unfold fX8_room
  refine V_aload_n (dX8_room 0 rfl) 1 rfl 0 rfl ?_
  refine V_get gf_M_20 0 rfl rfl (dX8_room 1 rfl) 4 rfl ?_
  refine V_iload_n (dX8_room 2 rfl) 5 rfl 1 rfl ?_
  refine V_bipush (9 : Int32) (by decide) (dX8_room 3 rfl) 7 rfl ?_
  refine V_imul (dX8_room 4 rfl) 8 rfl ?_
  refine V_iload_n (dX8_room 5 rfl) 9 rfl 2 rfl ?_
  refine V_iadd (dX8_room 6 rfl) 10 rfl ?_
  refine V_iald 1 rfl (dX8_room 7 rfl) 11 rfl ?_
  exact V_iret rfl (dX8_room 8 rfl) ⟨rfl, rfl⟩)
set_option maxRecDepth 20000 in
theorem kX8_flow {E : EX} {l : Launch} (hl : l.stackTraces = false) (q1 q6 : Nat) (i4 : Int32) (v5 : Value) (i7 i8 i9 i10 i11 i12 : Int32) (f13 : Nat → Int32) (i2 i3 : Int32) : Ct E l mX8_flow [.ref q1, .int i2, .int i3] [(q1, .inr (9, [.int i4, v5, .ref q6, .int i7, .int i8, .int i9, .int i10, .int i11, .int i12])), (q6, .inl (E.2.1, 81, .inl f13))] (fX8_flow f13 i2 i3) (zX8_flow E q1 q6 i4 v5 i7 i8 i9 i10 i11 i12 f13) := Ct_of hl mf_X8_flow.1 (Nat.le_of_ble_eq_true rfl) (fun K hs => by
  refine V_less 0 0 (Nat.le_refl _) (Nat.le_refl _) ?_
  refine V_pick [0, 1, 2] [(0, .ref q1), (1, .int i2), (2, .int i3)] rfl ?_
  unfold fX8_flow
  refine V_aload_n (dX8_flow 0 rfl) 1 rfl 0 rfl ?_
  refine V_get gf_M_24 0 rfl rfl (dX8_flow 1 rfl) 4 rfl ?_
  refine V_iload_n (dX8_flow 2 rfl) 5 rfl 1 rfl ?_
  refine V_bipush (9 : Int32) (by decide) (dX8_flow 3 rfl) 7 rfl ?_
  refine V_imul (dX8_flow 4 rfl) 8 rfl ?_
  refine V_iload_n (dX8_flow 5 rfl) 9 rfl 2 rfl ?_
  refine V_iadd (dX8_flow 6 rfl) 10 rfl ?_
  refine V_iald 1 rfl (dX8_flow 7 rfl) 11 rfl ?_
  exact V_iret rfl (dX8_flow 8 rfl) ⟨rfl, rfl⟩)
set_option maxRecDepth 20000 in
theorem kX8_left {E : EX} {l : Launch} (hl : l.stackTraces = false) (q1 q5 q6 : Nat) (i4 i7 i8 i9 i10 i11 i12 : Int32) (f13 f14 : Nat → Int32) (i2 i3 : Int32) : Ct E l mX8_left [.ref q1, .int i2, .int i3] [(q1, .inr (9, [.int i4, .ref q5, .ref q6, .int i7, .int i8, .int i9, .int i10, .int i11, .int i12])), (q5, .inl (E.2.1, 81, .inl f13)), (q6, .inl (E.2.1, 81, .inl f14))] (fX8_left f13 f14 i2 i3) (zX8_left E q1 q5 q6 i4 i7 i8 i9 i10 i11 i12 f13 f14) := Ct_of hl mf_X8_left.1 (Nat.le_of_ble_eq_true rfl) (fun K hs => by
  refine V_less 0 0 (Nat.le_refl _) (Nat.le_refl _) ?_
  refine V_pick [0, 1, 2] [(0, .ref q1), (1, .int i2), (2, .int i3)] rfl ?_
  unfold fX8_left
  refine V_aload_n (dX8_left 0 rfl) 1 rfl 0 rfl ?_
  refine V_iload_n (dX8_left 1 rfl) 2 rfl 1 rfl ?_
  refine V_iload_n (dX8_left 2 rfl) 3 rfl 2 rfl ?_
  refine V_callV (M := mX8_left) (wcs := [(q1, .inr (9, [.int i4, .ref q5, .ref q6, .int i7, .int i8, .int i9, .int i10, .int i11, .int i12])), (q5, .inl (E.2.1, 81, .inl f13))]) (wr := [(q6, .inl (E.2.1, 81, .inl f14))]) mf_X8_room tw_1330 tw_1332 tw_36 ⟨Nat.le_of_ble_eq_true rfl, Nat.le_of_ble_eq_true rfl⟩ (dX8_left 3 rfl) 6 rfl (kX8_room hs q1 q5 i4 (.ref q6) i7 i8 i9 i10 i11 i12 f13 i2 i3) rfl [0, 1] [2] (q0 := 0) rfl rfl rfl rfl (by decide) rfl rfl rfl rfl (Nat.le_of_ble_eq_true rfl) 0 0 (show 0 + 0 ≤ 0 from Nat.le_of_ble_eq_true rfl) (show 0 + 0 ≤ 0 from Nat.le_of_ble_eq_true rfl) (fun z15 v w hz => ?_)
  obtain ⟨rfl, rfl⟩ := hz
  show V E K mX8_left (Qm E K mX8_left (zX8_left E q1 q5 q6 i4 i7 i8 i9 i10 i11 i12 f13 f14)) 0 0 [(q6, .inl (E.2.1, 81, .inl f14)), (q1, .inr (9, [.int i4, .ref q5, .ref q6, .int i7, .int i8, .int i9, .int i10, .int i11, .int i12])), (q5, .inl (E.2.1, 81, .inl f13))] 6 [(0, .ref q1), (1, .int i2), (2, .int i3)] [.int z15] _
  refine V_aload_n (dX8_left 4 rfl) 7 rfl 0 rfl ?_
  refine V_iload_n (dX8_left 5 rfl) 8 rfl 1 rfl ?_
  refine V_iload_n (dX8_left 6 rfl) 9 rfl 2 rfl ?_
  refine V_callV (M := mX8_left) (wcs := [(q1, .inr (9, [.int i4, .ref q5, .ref q6, .int i7, .int i8, .int i9, .int i10, .int i11, .int i12])), (q6, .inl (E.2.1, 81, .inl f14))]) (wr := [(q5, .inl (E.2.1, 81, .inl f13))]) mf_X8_flow tw_1322 tw_1324 tw_34 ⟨Nat.le_of_ble_eq_true rfl, Nat.le_of_ble_eq_true rfl⟩ (dX8_left 7 rfl) 12 rfl (kX8_flow hs q1 q6 i4 (.ref q5) i7 i8 i9 i10 i11 i12 f14 i2 i3) rfl [1, 0] [2] (q0 := 0) rfl rfl rfl rfl (by decide) rfl rfl rfl rfl (Nat.le_of_ble_eq_true rfl) 0 0 (show 0 + 0 ≤ 0 from Nat.le_of_ble_eq_true rfl) (show 0 + 0 ≤ 0 from Nat.le_of_ble_eq_true rfl) (fun z16 v w hz => ?_)
  obtain ⟨rfl, rfl⟩ := hz
  show V E K mX8_left (Qm E K mX8_left (zX8_left E q1 q5 q6 i4 i7 i8 i9 i10 i11 i12 f13 f14)) 0 0 [(q5, .inl (E.2.1, 81, .inl f13)), (q1, .inr (9, [.int i4, .ref q5, .ref q6, .int i7, .int i8, .int i9, .int i10, .int i11, .int i12])), (q6, .inl (E.2.1, 81, .inl f14))] 12 [(0, .ref q1), (1, .int i2), (2, .int i3)] [.int z16, .int z15] _
  refine V_isub (dX8_left 8 rfl) 13 rfl ?_
  refine V_world [1, 0, 2] [(q1, .inr (9, [.int i4, .ref q5, .ref q6, .int i7, .int i8, .int i9, .int i10, .int i11, .int i12])), (q5, .inl (E.2.1, 81, .inl f13)), (q6, .inl (E.2.1, 81, .inl f14))] rfl rfl rfl ?_
  exact V_iret rfl (dX8_left 9 rfl) ⟨rfl, rfl⟩)
set_option maxRecDepth 20000 in
theorem kX8_flowOn {E : EX} {l : Launch} (hl : l.stackTraces = false) (q1 q7 : Nat) (i5 : Int32) (v6 : Value) (i8 i9 i10 i11 i12 i13 : Int32) (f14 : Nat → Int32) (i2 i3 i4 : Int32) : Ct E l mX8_flowOn [.ref q1, .int i2, .int i3, .int i4] [(q1, .inr (9, [.int i5, v6, .ref q7, .int i8, .int i9, .int i10, .int i11, .int i12, .int i13])), (q7, .inl (E.2.1, 81, .inl f14))] (fX8_flowOn f14 i2 i3 i4) (zX8_flowOn E q1 q7 i5 v6 i8 i9 i10 i11 i12 i13) := Ct_of hl mf_X8_flowOn.1 (Nat.le_of_ble_eq_true rfl) (fun K hs => by
  refine V_less 0 0 (Nat.le_refl _) (Nat.le_refl _) ?_
  refine V_pick [0, 1, 2, 3] [(0, .ref q1), (1, .int i2), (2, .int i3), (3, .int i4)] rfl ?_
  unfold fX8_flowOn
  refine V_aload_n (dX8_flowOn 0 rfl) 1 rfl 0 rfl ?_
  refine V_get gf_M_24 0 rfl rfl (dX8_flowOn 1 rfl) 4 rfl ?_
  refine V_iload_n (dX8_flowOn 2 rfl) 5 rfl 1 rfl ?_
  refine V_bipush (9 : Int32) (by decide) (dX8_flowOn 3 rfl) 7 rfl ?_
  refine V_imul (dX8_flowOn 4 rfl) 8 rfl ?_
  refine V_iload_n (dX8_flowOn 5 rfl) 9 rfl 2 rfl ?_
  refine V_iadd (dX8_flowOn 6 rfl) 10 rfl ?_
  refine V_dup2 rfl rfl (dX8_flowOn 7 rfl) 11 rfl ?_
  refine V_iald 1 rfl (dX8_flowOn 8 rfl) 12 rfl ?_
  refine V_iload_n (dX8_flowOn 9 rfl) 13 rfl 3 rfl ?_
  refine V_iadd (dX8_flowOn 10 rfl) 14 rfl ?_
  refine V_iast 1 rfl (dX8_flowOn 11 rfl) 15 rfl [(q1, .inr (9, [.int i5, v6, .ref q7, .int i8, .int i9, .int i10, .int i11, .int i12, .int i13])), (q7, .inl (E.2.1, 81, .inl (upd f14 ((i2 * (9 : Int32)) + i3).toNatClampNeg ((f14 ((i2 * (9 : Int32)) + i3).toNatClampNeg) + i4))))] rfl ?_
  refine V_aload_n (dX8_flowOn 12 rfl) 16 rfl 0 rfl ?_
  refine V_get gf_M_24 0 rfl rfl (dX8_flowOn 13 rfl) 19 rfl ?_
  refine V_iload_n (dX8_flowOn 14 rfl) 20 rfl 2 rfl ?_
  refine V_bipush (9 : Int32) (by decide) (dX8_flowOn 15 rfl) 22 rfl ?_
  refine V_imul (dX8_flowOn 16 rfl) 23 rfl ?_
  refine V_iload_n (dX8_flowOn 17 rfl) 24 rfl 1 rfl ?_
  refine V_iadd (dX8_flowOn 18 rfl) 25 rfl ?_
  refine V_dup2 rfl rfl (dX8_flowOn 19 rfl) 26 rfl ?_
  refine V_iald 1 rfl (dX8_flowOn 20 rfl) 27 rfl ?_
  refine V_iload_n (dX8_flowOn 21 rfl) 28 rfl 3 rfl ?_
  refine V_isub (dX8_flowOn 22 rfl) 29 rfl ?_
  refine V_iast 1 rfl (dX8_flowOn 23 rfl) 30 rfl [(q1, .inr (9, [.int i5, v6, .ref q7, .int i8, .int i9, .int i10, .int i11, .int i12, .int i13])), (q7, .inl (E.2.1, 81, .inl (upd (upd f14 ((i2 * (9 : Int32)) + i3).toNatClampNeg ((f14 ((i2 * (9 : Int32)) + i3).toNatClampNeg) + i4)) ((i3 * (9 : Int32)) + i2).toNatClampNeg (((upd f14 ((i2 * (9 : Int32)) + i3).toNatClampNeg ((f14 ((i2 * (9 : Int32)) + i3).toNatClampNeg) + i4)) ((i3 * (9 : Int32)) + i2).toNatClampNeg) - i4))))] rfl ?_
  exact V_vret rfl (dX8_flowOn 24 rfl) ⟨rfl, rfl⟩)
set_option maxRecDepth 20000 in
theorem vBX8_still_L2 {E : EX} {K : KX} (hs : K.l.stackTraces = false) (q1 q4 : Nat) (i2 : Int32) (v3 : Value) (i5 i6 i7 i8 i9 i10 : Int32) (bc bs : Nat) (i23 : Int32) (f24 : Nat → Int32) {rec : Int32 → (Nat → Int32) → Option ((Nat → Int32))}  (hrec : ∀ (i23 : Int32) (f24 : Nat → Int32), V E K mX8_still (Qm E K mX8_still (zX8_still E q1 q4 i2 v3 i5 i6 i7 i8 i9 i10)) (bc) (bs) [(q1, .inr (9, [.int i2, v3, .ref q4, .int i5, .int i6, .int i7, .int i8, .int i9, .int i10])), (q4, .inl (E.2.1, 81, .inl f24))] 2 [(0, .ref q1), (1, .int i23)] [] (rec i23 f24))  : V E K mX8_still (Qm E K mX8_still (zX8_still E q1 q4 i2 v3 i5 i6 i7 i8 i9 i10)) (bc) (bs) [(q1, .inr (9, [.int i2, v3, .ref q4, .int i5, .int i6, .int i7, .int i8, .int i9, .int i10])), (q4, .inl (E.2.1, 81, .inl f24))] 2 [(0, .ref q1), (1, .int i23)] [] (BX8_still_L2   i23 f24 rec ) := by
  unfold BX8_still_L2
  refine V_iload_n (dX8_still 2 rfl) 3 rfl 1 rfl ?_
  refine V_aload_n (dX8_still 3 rfl) 4 rfl 0 rfl ?_
  refine V_get gf_M_24 0 rfl rfl (dX8_still 4 rfl) 7 rfl ?_
  refine V_alen 1 rfl ((81 : Int32)) (show Int32.ofNat 81 = (81 : Int32) by decide) (dX8_still 5 rfl) 8 rfl ?_
  refine V_icmp_ge (dX8_still 6 rfl) 24 (by decide) 11 rfl ?_ ?_
  · exact V_vret rfl (dX8_still 14 rfl) ⟨rfl, rfl⟩
  · refine V_aload_n (dX8_still 7 rfl) 12 rfl 0 rfl ?_
    refine V_get gf_M_24 0 rfl rfl (dX8_still 8 rfl) 15 rfl ?_
    refine V_iload_n (dX8_still 9 rfl) 16 rfl 1 rfl ?_
    refine V_iconst (0 : Int32) (by decide) (dX8_still 10 rfl) 17 rfl ?_
    refine V_iast 1 rfl (dX8_still 11 rfl) 18 rfl [(q1, .inr (9, [.int i2, v3, .ref q4, .int i5, .int i6, .int i7, .int i8, .int i9, .int i10])), (q4, .inl (E.2.1, 81, .inl (upd f24 i23.toNatClampNeg (0 : Int32))))] rfl ?_
    refine V_iinc (dX8_still 12 rfl) 21 rfl 1 rfl (i23 + (1 : Int32)) rfl [(0, .ref q1), (1, .int (i23 + (1 : Int32)))] (Nat.le_of_ble_eq_true rfl) rfl ?_
    refine V_goto (dX8_still 13 rfl) 2 (by decide) ?_
    exact hrec (i23 + (1 : Int32)) (upd f24 i23.toNatClampNeg (0 : Int32))
set_option maxRecDepth 20000 in
theorem vLX8_still_L2 {E : EX} {K : KX} (hs : K.l.stackTraces = false) (q1 q4 : Nat) (i2 : Int32) (v3 : Value) (i5 i6 i7 i8 i9 i10 : Int32) (bc bs : Nat)   : ∀ (n : Nat) (i23 : Int32) (f24 : Nat → Int32), V E K mX8_still (Qm E K mX8_still (zX8_still E q1 q4 i2 v3 i5 i6 i7 i8 i9 i10)) (bc) (bs) [(q1, .inr (9, [.int i2, v3, .ref q4, .int i5, .int i6, .int i7, .int i8, .int i9, .int i10])), (q4, .inl (E.2.1, 81, .inl f24))] 2 [(0, .ref q1), (1, .int i23)] [] (LX8_still_L2   n i23 f24 )
  | 0, _, _ => V_none
  | n + 1, i23, f24 => vBX8_still_L2 hs q1 q4 i2 v3 i5 i6 i7 i8 i9 i10 bc bs i23 f24 (fun i23 f24 => vLX8_still_L2 hs q1 q4 i2 v3 i5 i6 i7 i8 i9 i10 bc bs  n i23 f24) 
set_option maxRecDepth 20000 in
theorem kX8_still {E : EX} {l : Launch} (hl : l.stackTraces = false) (q1 q4 : Nat) (i2 : Int32) (v3 : Value) (i5 i6 i7 i8 i9 i10 : Int32) (f11 : Nat → Int32) : Ct E l mX8_still [.ref q1] [(q1, .inr (9, [.int i2, v3, .ref q4, .int i5, .int i6, .int i7, .int i8, .int i9, .int i10])), (q4, .inl (E.2.1, 81, .inl f11))] (fX8_still f11) (zX8_still E q1 q4 i2 v3 i5 i6 i7 i8 i9 i10) := Ct_of hl mf_X8_still.1 (Nat.le_of_ble_eq_true rfl) (fun K hs => by
  refine V_less 0 0 (Nat.le_refl _) (Nat.le_refl _) ?_
  refine V_pick [0] [(0, .ref q1)] rfl ?_
  unfold fX8_still
  refine V_iconst (0 : Int32) (by decide) (dX8_still 0 rfl) 1 rfl ?_
  refine V_istore_n (dX8_still 1 rfl) 2 rfl [(0, .ref q1), (1, .int (0 : Int32))] (Nat.le_of_ble_eq_true rfl) rfl ?_
  refine vLX8_still_L2 hs q1 q4 i2 v3 i5 i6 i7 i8 i9 i10 0 0  600 (0 : Int32) f11)
set_option maxRecDepth 20000 in
theorem vBX8_fromPlace_L5 {E : EX} {K : KX} (hs : K.l.stackTraces = false) (q1 q2 : Nat) (i4 : Int32) (v5 v6 : Value) (i7 i8 i9 i10 i11 i12 : Int32) (f13 : Nat → Int32) (i3 : Int32) (bc bs : Nat) (i28 i29 : Int32) {rec : Int32 → Int32 → Option (Int32)}  (hrec : ∀ (i28 i29 : Int32), V E K mX8_fromPlace (Qm E K mX8_fromPlace (zX8_fromPlace E q1 q2 i4 v5 v6 i7 i8 i9 i10 i11 i12 f13)) (bc) (bs) [(q1, .inr (9, [.int i4, v5, v6, .int i7, .int i8, .int i9, .int i10, .int i11, .int i12])), (q2, .inl (E.2.1, 81, .inl f13))] 5 [(0, .ref q1), (1, .ref q2), (2, .int i3), (3, .int i28), (4, .int i29)] [] (rec i28 i29))  : V E K mX8_fromPlace (Qm E K mX8_fromPlace (zX8_fromPlace E q1 q2 i4 v5 v6 i7 i8 i9 i10 i11 i12 f13)) (bc) (bs) [(q1, .inr (9, [.int i4, v5, v6, .int i7, .int i8, .int i9, .int i10, .int i11, .int i12])), (q2, .inl (E.2.1, 81, .inl f13))] 5 [(0, .ref q1), (1, .ref q2), (2, .int i3), (3, .int i28), (4, .int i29)] [] (BX8_fromPlace_L5  i4 f13 i3 i28 i29 rec ) := by
  unfold BX8_fromPlace_L5
  refine V_iload (dX8_fromPlace 4 rfl) 7 rfl 4 rfl ?_
  refine V_aload_n (dX8_fromPlace 5 rfl) 8 rfl 0 rfl ?_
  refine V_get gf_M_17 0 rfl rfl (dX8_fromPlace 6 rfl) 11 rfl ?_
  refine V_icmp_ge (dX8_fromPlace 7 rfl) 32 (by decide) 14 rfl ?_ ?_
  · refine V_iload_n (dX8_fromPlace 20 rfl) 33 rfl 3 rfl ?_
    exact V_iret rfl (dX8_fromPlace 21 rfl) ⟨rfl, rfl⟩
  · refine V_iload_n (dX8_fromPlace 8 rfl) 15 rfl 3 rfl ?_
    refine V_aload_n (dX8_fromPlace 9 rfl) 16 rfl 1 rfl ?_
    refine V_iload_n (dX8_fromPlace 10 rfl) 17 rfl 2 rfl ?_
    refine V_bipush (9 : Int32) (by decide) (dX8_fromPlace 11 rfl) 19 rfl ?_
    refine V_imul (dX8_fromPlace 12 rfl) 20 rfl ?_
    refine V_iload (dX8_fromPlace 13 rfl) 22 rfl 4 rfl ?_
    refine V_iadd (dX8_fromPlace 14 rfl) 23 rfl ?_
    refine V_iald 1 rfl (dX8_fromPlace 15 rfl) 24 rfl ?_
    refine V_iadd (dX8_fromPlace 16 rfl) 25 rfl ?_
    refine V_nmI (fun i30 => ?_)
    refine V_istore_n (dX8_fromPlace 17 rfl) 26 rfl [(0, .ref q1), (1, .ref q2), (2, .int i3), (3, .int i30), (4, .int i29)] (Nat.le_of_ble_eq_true rfl) rfl ?_
    refine V_iinc (dX8_fromPlace 18 rfl) 29 rfl 4 rfl (i29 + (1 : Int32)) rfl [(0, .ref q1), (1, .ref q2), (2, .int i3), (3, .int i30), (4, .int (i29 + (1 : Int32)))] (Nat.le_of_ble_eq_true rfl) rfl ?_
    refine V_goto (dX8_fromPlace 19 rfl) 5 (by decide) ?_
    exact hrec i30 (i29 + (1 : Int32))
set_option maxRecDepth 20000 in
theorem vLX8_fromPlace_L5 {E : EX} {K : KX} (hs : K.l.stackTraces = false) (q1 q2 : Nat) (i4 : Int32) (v5 v6 : Value) (i7 i8 i9 i10 i11 i12 : Int32) (f13 : Nat → Int32) (i3 : Int32) (bc bs : Nat)   : ∀ (n : Nat) (i28 i29 : Int32), V E K mX8_fromPlace (Qm E K mX8_fromPlace (zX8_fromPlace E q1 q2 i4 v5 v6 i7 i8 i9 i10 i11 i12 f13)) (bc) (bs) [(q1, .inr (9, [.int i4, v5, v6, .int i7, .int i8, .int i9, .int i10, .int i11, .int i12])), (q2, .inl (E.2.1, 81, .inl f13))] 5 [(0, .ref q1), (1, .ref q2), (2, .int i3), (3, .int i28), (4, .int i29)] [] (LX8_fromPlace_L5  i4 f13 i3 n i28 i29 )
  | 0, _, _ => V_none
  | n + 1, i28, i29 => vBX8_fromPlace_L5 hs q1 q2 i4 v5 v6 i7 i8 i9 i10 i11 i12 f13 i3 bc bs i28 i29 (fun i28 i29 => vLX8_fromPlace_L5 hs q1 q2 i4 v5 v6 i7 i8 i9 i10 i11 i12 f13 i3 bc bs  n i28 i29) 
set_option maxRecDepth 20000 in
theorem kX8_fromPlace {E : EX} {l : Launch} (hl : l.stackTraces = false) (q1 q2 : Nat) (i4 : Int32) (v5 v6 : Value) (i7 i8 i9 i10 i11 i12 : Int32) (f13 : Nat → Int32) (i3 : Int32) : Ct E l mX8_fromPlace [.ref q1, .ref q2, .int i3] [(q1, .inr (9, [.int i4, v5, v6, .int i7, .int i8, .int i9, .int i10, .int i11, .int i12])), (q2, .inl (E.2.1, 81, .inl f13))] (fX8_fromPlace i4 f13 i3) (zX8_fromPlace E q1 q2 i4 v5 v6 i7 i8 i9 i10 i11 i12 f13) := Ct_of hl mf_X8_fromPlace.1 (Nat.le_of_ble_eq_true rfl) (fun K hs => by
  refine V_less 0 0 (Nat.le_refl _) (Nat.le_refl _) ?_
  refine V_pick [0, 1, 2] [(0, .ref q1), (1, .ref q2), (2, .int i3)] rfl ?_
  unfold fX8_fromPlace
  refine V_iconst (0 : Int32) (by decide) (dX8_fromPlace 0 rfl) 1 rfl ?_
  refine V_istore_n (dX8_fromPlace 1 rfl) 2 rfl [(0, .ref q1), (1, .ref q2), (2, .int i3), (3, .int (0 : Int32))] (Nat.le_of_ble_eq_true rfl) rfl ?_
  refine V_iconst (0 : Int32) (by decide) (dX8_fromPlace 2 rfl) 3 rfl ?_
  refine V_istore (dX8_fromPlace 3 rfl) 5 rfl [(0, .ref q1), (1, .ref q2), (2, .int i3), (3, .int (0 : Int32)), (4, .int (0 : Int32))] (Nat.le_of_ble_eq_true rfl) rfl ?_
  refine vLX8_fromPlace_L5 hs q1 q2 i4 v5 v6 i7 i8 i9 i10 i11 i12 f13 i3 0 0  600 (0 : Int32) (0 : Int32))
set_option maxRecDepth 20000 in
theorem kX8_valueNow {E : EX} {l : Launch} (hl : l.stackTraces = false) (q1 q4 : Nat) (i2 : Int32) (v3 : Value) (i5 i6 i7 i8 i9 i10 : Int32) (f11 : Nat → Int32) : Ct E l mX8_valueNow [.ref q1] [(q1, .inr (9, [.int i2, v3, .ref q4, .int i5, .int i6, .int i7, .int i8, .int i9, .int i10])), (q4, .inl (E.2.1, 81, .inl f11))] (fX8_valueNow i2 i5 f11) (zX8_valueNow E q1 q4 i2 v3 i5 i6 i7 i8 i9 i10 f11) := Ct_of hl mf_X8_valueNow.1 (Nat.le_of_ble_eq_true rfl) (fun K hs => by
  refine V_less 0 0 (Nat.le_refl _) (Nat.le_refl _) ?_
  refine V_pick [0] [(0, .ref q1)] rfl ?_
  unfold fX8_valueNow
  refine V_aload_n (dX8_valueNow 0 rfl) 1 rfl 0 rfl ?_
  refine V_aload_n (dX8_valueNow 1 rfl) 2 rfl 0 rfl ?_
  refine V_get gf_M_24 0 rfl rfl (dX8_valueNow 2 rfl) 5 rfl ?_
  refine V_aload_n (dX8_valueNow 3 rfl) 6 rfl 0 rfl ?_
  refine V_get gf_M_27 0 rfl rfl (dX8_valueNow 4 rfl) 9 rfl ?_
  refine V_callV (M := mX8_valueNow) (wcs := [(q1, .inr (9, [.int i2, v3, .ref q4, .int i5, .int i6, .int i7, .int i8, .int i9, .int i10])), (q4, .inl (E.2.1, 81, .inl f11))]) (wr := []) mf_X8_fromPlace tw_1307 tw_1309 tw_32 ⟨Nat.le_of_ble_eq_true rfl, Nat.le_of_ble_eq_true rfl⟩ (dX8_valueNow 5 rfl) 12 rfl (kX8_fromPlace hs q1 q4 i2 v3 (.ref q4) i5 i6 i7 i8 i9 i10 f11 i5) rfl [0, 1] [] (q0 := 0) rfl rfl rfl rfl (by decide) rfl rfl rfl rfl (Nat.le_of_ble_eq_true rfl) 0 0 (show 0 + 0 ≤ 0 from Nat.le_of_ble_eq_true rfl) (show 0 + 0 ≤ 0 from Nat.le_of_ble_eq_true rfl) (fun z12 v w hz => ?_)
  obtain ⟨rfl, rfl⟩ := hz
  show V E K mX8_valueNow (Qm E K mX8_valueNow (zX8_valueNow E q1 q4 i2 v3 i5 i6 i7 i8 i9 i10 f11)) 0 0 [(q1, .inr (9, [.int i2, v3, .ref q4, .int i5, .int i6, .int i7, .int i8, .int i9, .int i10])), (q4, .inl (E.2.1, 81, .inl f11))] 12 [(0, .ref q1)] [.int z12] _
  exact V_iret rfl (dX8_valueNow 6 rfl) ⟨rfl, rfl⟩)
set_option maxRecDepth 20000 in
theorem vBX8_through_L29 {E : EX} {K : KX} (hs : K.l.stackTraces = false) (q1 q2 : Nat) (i4 : Int32) (v5 v6 : Value) (i7 i8 i9 i10 i11 i12 : Int32) (f13 : Nat → Int32) (i3 i56 : Int32) (bc bs : Nat) (i77 i78 : Int32) {rec : Int32 → Int32 → Option (Int32)} {k1 : Int32 → Option (Int32)} (hrec : ∀ (i77 i78 : Int32), V E K mX8_through (Qm E K mX8_through (zX8_through E q1 q2 i4 v5 v6 i7 i8 i9 i10 i11 i12 f13)) (bc) (bs) [(q1, .inr (9, [.int i4, v5, v6, .int i7, .int i8, .int i9, .int i10, .int i11, .int i12])), (q2, .inl (E.2.1, 81, .inl f13))] 29 [(0, .ref q1), (1, .ref q2), (2, .int i3), (3, .int i77), (4, .int i56), (5, .int i78)] [] (rec i77 i78)) (hk1 : ∀ (i83 : Int32), V E K mX8_through (Qm E K mX8_through (zX8_through E q1 q2 i4 v5 v6 i7 i8 i9 i10 i11 i12 f13)) (bc) (bs) [(q1, .inr (9, [.int i4, v5, v6, .int i7, .int i8, .int i9, .int i10, .int i11, .int i12])), (q2, .inl (E.2.1, 81, .inl f13))] 66 [(0, .ref q1), (1, .ref q2), (2, .int i3), (3, .int i83), (4, .int i56)] [] (k1 i83)) : V E K mX8_through (Qm E K mX8_through (zX8_through E q1 q2 i4 v5 v6 i7 i8 i9 i10 i11 i12 f13)) (bc) (bs) [(q1, .inr (9, [.int i4, v5, v6, .int i7, .int i8, .int i9, .int i10, .int i11, .int i12])), (q2, .inl (E.2.1, 81, .inl f13))] 29 [(0, .ref q1), (1, .ref q2), (2, .int i3), (3, .int i77), (4, .int i56), (5, .int i78)] [] (BX8_through_L29  i4 f13 i3 i56 i77 i78 rec k1) := by
  unfold BX8_through_L29
  refine V_iload (dX8_through 17 rfl) 31 rfl 5 rfl ?_
  refine V_aload_n (dX8_through 18 rfl) 32 rfl 0 rfl ?_
  refine V_get gf_M_17 0 rfl rfl (dX8_through 19 rfl) 35 rfl ?_
  refine V_icmp_ge (dX8_through 20 rfl) 66 (by decide) 38 rfl ?_ ?_
  · refine V_pick [0, 1, 2, 3, 4] [(0, .ref q1), (1, .ref q2), (2, .int i3), (3, .int i77), (4, .int i56)] rfl ?_
    exact hk1 i77
  · refine V_iload_n (dX8_through 21 rfl) 39 rfl 2 rfl ?_
    refine V_iload (dX8_through 22 rfl) 41 rfl 5 rfl ?_
    refine V_ishr (dX8_through 23 rfl) 42 rfl ?_
    refine V_iconst (1 : Int32) (by decide) (dX8_through 24 rfl) 43 rfl ?_
    refine V_iand (dX8_through 25 rfl) 44 rfl ?_
    refine V_jn (fun (k79 : Int32 → Option (Int32)) => ∀ (i82 : Int32), V E K mX8_through (Qm E K mX8_through (zX8_through E q1 q2 i4 v5 v6 i7 i8 i9 i10 i11 i12 f13)) (bc) (bs) [(q1, .inr (9, [.int i4, v5, v6, .int i7, .int i8, .int i9, .int i10, .int i11, .int i12])), (q2, .inl (E.2.1, 81, .inl f13))] 60 [(0, .ref q1), (1, .ref q2), (2, .int i3), (3, .int i82), (4, .int i56), (5, .int i78)] [] (k79 i82)) ?_ ?_
    · intro i82
      show V E K mX8_through (Qm E K mX8_through (zX8_through E q1 q2 i4 v5 v6 i7 i8 i9 i10 i11 i12 f13)) (bc) (bs) [(q1, .inr (9, [.int i4, v5, v6, .int i7, .int i8, .int i9, .int i10, .int i11, .int i12])), (q2, .inl (E.2.1, 81, .inl f13))] 60 [(0, .ref q1), (1, .ref q2), (2, .int i3), (3, .int i82), (4, .int i56), (5, .int i78)] [] _
      refine V_iinc (dX8_through 37 rfl) 63 rfl 5 rfl (i78 + (1 : Int32)) rfl [(0, .ref q1), (1, .ref q2), (2, .int i3), (3, .int i82), (4, .int i56), (5, .int (i78 + (1 : Int32)))] (Nat.le_of_ble_eq_true rfl) rfl ?_
      refine V_goto (dX8_through 38 rfl) 29 (by decide) ?_
      exact hrec i82 (i78 + (1 : Int32))
    · intro k79 hk80
      refine V_if_ne (dX8_through 26 rfl) 60 (by decide) 47 rfl ?_ ?_
      · exact hk80 i77
      · refine V_iload_n (dX8_through 27 rfl) 48 rfl 3 rfl ?_
        refine V_aload_n (dX8_through 28 rfl) 49 rfl 1 rfl ?_
        refine V_iload (dX8_through 29 rfl) 51 rfl 4 rfl ?_
        refine V_bipush (9 : Int32) (by decide) (dX8_through 30 rfl) 53 rfl ?_
        refine V_imul (dX8_through 31 rfl) 54 rfl ?_
        refine V_iload (dX8_through 32 rfl) 56 rfl 5 rfl ?_
        refine V_iadd (dX8_through 33 rfl) 57 rfl ?_
        refine V_iald 1 rfl (dX8_through 34 rfl) 58 rfl ?_
        refine V_iadd (dX8_through 35 rfl) 59 rfl ?_
        refine V_nmI (fun i81 => ?_)
        refine V_istore_n (dX8_through 36 rfl) 60 rfl [(0, .ref q1), (1, .ref q2), (2, .int i3), (3, .int i81), (4, .int i56), (5, .int i78)] (Nat.le_of_ble_eq_true rfl) rfl ?_
        exact hk80 i81
set_option maxRecDepth 20000 in
theorem vLX8_through_L29 {E : EX} {K : KX} (hs : K.l.stackTraces = false) (q1 q2 : Nat) (i4 : Int32) (v5 v6 : Value) (i7 i8 i9 i10 i11 i12 : Int32) (f13 : Nat → Int32) (i3 i56 : Int32) (bc bs : Nat) {k1 : Int32 → Option (Int32)} (hk1 : ∀ (i83 : Int32), V E K mX8_through (Qm E K mX8_through (zX8_through E q1 q2 i4 v5 v6 i7 i8 i9 i10 i11 i12 f13)) (bc) (bs) [(q1, .inr (9, [.int i4, v5, v6, .int i7, .int i8, .int i9, .int i10, .int i11, .int i12])), (q2, .inl (E.2.1, 81, .inl f13))] 66 [(0, .ref q1), (1, .ref q2), (2, .int i3), (3, .int i83), (4, .int i56)] [] (k1 i83)) : ∀ (n : Nat) (i77 i78 : Int32), V E K mX8_through (Qm E K mX8_through (zX8_through E q1 q2 i4 v5 v6 i7 i8 i9 i10 i11 i12 f13)) (bc) (bs) [(q1, .inr (9, [.int i4, v5, v6, .int i7, .int i8, .int i9, .int i10, .int i11, .int i12])), (q2, .inl (E.2.1, 81, .inl f13))] 29 [(0, .ref q1), (1, .ref q2), (2, .int i3), (3, .int i77), (4, .int i56), (5, .int i78)] [] (LX8_through_L29  i4 f13 i3 i56 n i77 i78 k1)
  | 0, _, _ => V_none
  | n + 1, i77, i78 => vBX8_through_L29 hs q1 q2 i4 v5 v6 i7 i8 i9 i10 i11 i12 f13 i3 i56 bc bs i77 i78 (fun i77 i78 => vLX8_through_L29 hs q1 q2 i4 v5 v6 i7 i8 i9 i10 i11 i12 f13 i3 i56 bc bs hk1 n i77 i78) hk1
set_option maxRecDepth 20000 in
theorem vBX8_through_L5 {E : EX} {K : KX} (hs : K.l.stackTraces = false) (q1 q2 : Nat) (i4 : Int32) (v5 v6 : Value) (i7 i8 i9 i10 i11 i12 : Int32) (f13 : Nat → Int32) (i3 : Int32) (bc bs : Nat) (i55 i56 : Int32) {rec : Int32 → Int32 → Option (Int32)}  (hrec : ∀ (i55 i56 : Int32), V E K mX8_through (Qm E K mX8_through (zX8_through E q1 q2 i4 v5 v6 i7 i8 i9 i10 i11 i12 f13)) (bc) (bs) [(q1, .inr (9, [.int i4, v5, v6, .int i7, .int i8, .int i9, .int i10, .int i11, .int i12])), (q2, .inl (E.2.1, 81, .inl f13))] 5 [(0, .ref q1), (1, .ref q2), (2, .int i3), (3, .int i55), (4, .int i56)] [] (rec i55 i56))  : V E K mX8_through (Qm E K mX8_through (zX8_through E q1 q2 i4 v5 v6 i7 i8 i9 i10 i11 i12 f13)) (bc) (bs) [(q1, .inr (9, [.int i4, v5, v6, .int i7, .int i8, .int i9, .int i10, .int i11, .int i12])), (q2, .inl (E.2.1, 81, .inl f13))] 5 [(0, .ref q1), (1, .ref q2), (2, .int i3), (3, .int i55), (4, .int i56)] [] (BX8_through_L5  i4 f13 i3 i55 i56 rec ) := by
  unfold BX8_through_L5
  refine V_iload (dX8_through 4 rfl) 7 rfl 4 rfl ?_
  refine V_aload_n (dX8_through 5 rfl) 8 rfl 0 rfl ?_
  refine V_get gf_M_17 0 rfl rfl (dX8_through 6 rfl) 11 rfl ?_
  refine V_icmp_ge (dX8_through 7 rfl) 72 (by decide) 14 rfl ?_ ?_
  · refine V_iload_n (dX8_through 41 rfl) 73 rfl 3 rfl ?_
    exact V_iret rfl (dX8_through 42 rfl) ⟨rfl, rfl⟩
  · refine V_iload_n (dX8_through 8 rfl) 15 rfl 2 rfl ?_
    refine V_iload (dX8_through 9 rfl) 17 rfl 4 rfl ?_
    refine V_ishr (dX8_through 10 rfl) 18 rfl ?_
    refine V_iconst (1 : Int32) (by decide) (dX8_through 11 rfl) 19 rfl ?_
    refine V_iand (dX8_through 12 rfl) 20 rfl ?_
    refine V_jn (fun (k57 : Int32 → Option (Int32)) => ∀ (i84 : Int32), V E K mX8_through (Qm E K mX8_through (zX8_through E q1 q2 i4 v5 v6 i7 i8 i9 i10 i11 i12 f13)) (bc) (bs) [(q1, .inr (9, [.int i4, v5, v6, .int i7, .int i8, .int i9, .int i10, .int i11, .int i12])), (q2, .inl (E.2.1, 81, .inl f13))] 66 [(0, .ref q1), (1, .ref q2), (2, .int i3), (3, .int i84), (4, .int i56)] [] (k57 i84)) ?_ ?_
    · intro i84
      show V E K mX8_through (Qm E K mX8_through (zX8_through E q1 q2 i4 v5 v6 i7 i8 i9 i10 i11 i12 f13)) (bc) (bs) [(q1, .inr (9, [.int i4, v5, v6, .int i7, .int i8, .int i9, .int i10, .int i11, .int i12])), (q2, .inl (E.2.1, 81, .inl f13))] 66 [(0, .ref q1), (1, .ref q2), (2, .int i3), (3, .int i84), (4, .int i56)] [] _
      refine V_iinc (dX8_through 39 rfl) 69 rfl 4 rfl (i56 + (1 : Int32)) rfl [(0, .ref q1), (1, .ref q2), (2, .int i3), (3, .int i84), (4, .int (i56 + (1 : Int32)))] (Nat.le_of_ble_eq_true rfl) rfl ?_
      refine V_goto (dX8_through 40 rfl) 5 (by decide) ?_
      exact hrec i84 (i56 + (1 : Int32))
    · intro k57 hk58
      refine V_if_ne (dX8_through 13 rfl) 26 (by decide) 23 rfl ?_ ?_
      · refine V_iconst (0 : Int32) (by decide) (dX8_through 15 rfl) 27 rfl ?_
        refine V_istore (dX8_through 16 rfl) 29 rfl [(0, .ref q1), (1, .ref q2), (2, .int i3), (3, .int i55), (4, .int i56), (5, .int (0 : Int32))] (Nat.le_of_ble_eq_true rfl) rfl ?_
        refine vLX8_through_L29 hs q1 q2 i4 v5 v6 i7 i8 i9 i10 i11 i12 f13 i3 i56 (bc) (bs) ?_ 600 i55 (0 : Int32)
        intro i83
        show V E K mX8_through (Qm E K mX8_through (zX8_through E q1 q2 i4 v5 v6 i7 i8 i9 i10 i11 i12 f13)) (bc) (bs) [(q1, .inr (9, [.int i4, v5, v6, .int i7, .int i8, .int i9, .int i10, .int i11, .int i12])), (q2, .inl (E.2.1, 81, .inl f13))] 66 [(0, .ref q1), (1, .ref q2), (2, .int i3), (3, .int i83), (4, .int i56)] [] _
        exact hk58 i83
      · refine V_goto (dX8_through 14 rfl) 66 (by decide) ?_
        exact hk58 i55
set_option maxRecDepth 20000 in
theorem vLX8_through_L5 {E : EX} {K : KX} (hs : K.l.stackTraces = false) (q1 q2 : Nat) (i4 : Int32) (v5 v6 : Value) (i7 i8 i9 i10 i11 i12 : Int32) (f13 : Nat → Int32) (i3 : Int32) (bc bs : Nat)   : ∀ (n : Nat) (i55 i56 : Int32), V E K mX8_through (Qm E K mX8_through (zX8_through E q1 q2 i4 v5 v6 i7 i8 i9 i10 i11 i12 f13)) (bc) (bs) [(q1, .inr (9, [.int i4, v5, v6, .int i7, .int i8, .int i9, .int i10, .int i11, .int i12])), (q2, .inl (E.2.1, 81, .inl f13))] 5 [(0, .ref q1), (1, .ref q2), (2, .int i3), (3, .int i55), (4, .int i56)] [] (LX8_through_L5  i4 f13 i3 n i55 i56 )
  | 0, _, _ => V_none
  | n + 1, i55, i56 => vBX8_through_L5 hs q1 q2 i4 v5 v6 i7 i8 i9 i10 i11 i12 f13 i3 bc bs i55 i56 (fun i55 i56 => vLX8_through_L5 hs q1 q2 i4 v5 v6 i7 i8 i9 i10 i11 i12 f13 i3 bc bs  n i55 i56) 
set_option maxRecDepth 20000 in
theorem kX8_through {E : EX} {l : Launch} (hl : l.stackTraces = false) (q1 q2 : Nat) (i4 : Int32) (v5 v6 : Value) (i7 i8 i9 i10 i11 i12 : Int32) (f13 : Nat → Int32) (i3 : Int32) : Ct E l mX8_through [.ref q1, .ref q2, .int i3] [(q1, .inr (9, [.int i4, v5, v6, .int i7, .int i8, .int i9, .int i10, .int i11, .int i12])), (q2, .inl (E.2.1, 81, .inl f13))] (fX8_through i4 f13 i3) (zX8_through E q1 q2 i4 v5 v6 i7 i8 i9 i10 i11 i12 f13) := Ct_of hl mf_X8_through.1 (Nat.le_of_ble_eq_true rfl) (fun K hs => by
  refine V_less 0 0 (Nat.le_refl _) (Nat.le_refl _) ?_
  refine V_pick [0, 1, 2] [(0, .ref q1), (1, .ref q2), (2, .int i3)] rfl ?_
  unfold fX8_through
  refine V_iconst (0 : Int32) (by decide) (dX8_through 0 rfl) 1 rfl ?_
  refine V_istore_n (dX8_through 1 rfl) 2 rfl [(0, .ref q1), (1, .ref q2), (2, .int i3), (3, .int (0 : Int32))] (Nat.le_of_ble_eq_true rfl) rfl ?_
  refine V_iconst (0 : Int32) (by decide) (dX8_through 2 rfl) 3 rfl ?_
  refine V_istore (dX8_through 3 rfl) 5 rfl [(0, .ref q1), (1, .ref q2), (2, .int i3), (3, .int (0 : Int32)), (4, .int (0 : Int32))] (Nat.le_of_ble_eq_true rfl) rfl ?_
  refine vLX8_through_L5 hs q1 q2 i4 v5 v6 i7 i8 i9 i10 i11 i12 f13 i3 0 0  600 (0 : Int32) (0 : Int32))
set_option maxRecDepth 20000 in
theorem kX8_isCut {E : EX} {l : Launch} (hl : l.stackTraces = false)  (i1 i2 i3 : Int32) : Ct E l mX8_isCut [.int i1, .int i2, .int i3] [] (fX8_isCut i1 i2 i3) (zX8_isCut E) := Ct_of hl mf_X8_isCut.1 (Nat.le_of_ble_eq_true rfl) (fun K hs => by
  refine V_less 0 0 (Nat.le_refl _) (Nat.le_refl _) ?_
  refine V_pick [0, 1, 2] [(0, .int i1), (1, .int i2), (2, .int i3)] rfl ?_
  unfold fX8_isCut
  refine V_iload_n (dX8_isCut 0 rfl) 1 rfl 0 rfl ?_
  refine V_iload_n (dX8_isCut 1 rfl) 2 rfl 1 rfl ?_
  refine V_ishr (dX8_isCut 2 rfl) 3 rfl ?_
  refine V_iconst (1 : Int32) (by decide) (dX8_isCut 3 rfl) 4 rfl ?_
  refine V_iand (dX8_isCut 4 rfl) 5 rfl ?_
  refine V_iconst (1 : Int32) (by decide) (dX8_isCut 5 rfl) 6 rfl ?_
  refine V_icmp_ne (dX8_isCut 6 rfl) 21 (by decide) 9 rfl ?_ ?_
  · refine V_iconst (0 : Int32) (by decide) (dX8_isCut 15 rfl) 22 rfl ?_
    exact V_zret rfl (by decide) (dX8_isCut 16 rfl) ⟨rfl, rfl⟩
  · refine V_iload_n (dX8_isCut 7 rfl) 10 rfl 0 rfl ?_
    refine V_iload_n (dX8_isCut 8 rfl) 11 rfl 2 rfl ?_
    refine V_ishr (dX8_isCut 9 rfl) 12 rfl ?_
    refine V_iconst (1 : Int32) (by decide) (dX8_isCut 10 rfl) 13 rfl ?_
    refine V_iand (dX8_isCut 11 rfl) 14 rfl ?_
    refine V_if_ne (dX8_isCut 12 rfl) 21 (by decide) 17 rfl ?_ ?_
    · refine V_iconst (0 : Int32) (by decide) (dX8_isCut 15 rfl) 22 rfl ?_
      exact V_zret rfl (by decide) (dX8_isCut 16 rfl) ⟨rfl, rfl⟩
    · refine V_iconst (1 : Int32) (by decide) (dX8_isCut 13 rfl) 18 rfl ?_
      refine V_goto (dX8_isCut 14 rfl) 22 (by decide) ?_
      exact V_zret rfl (by decide) (dX8_isCut 16 rfl) ⟨rfl, rfl⟩)
set_option maxRecDepth 20000 in
theorem vBX8_least_L7 {E : EX} {K : KX} (hs : K.l.stackTraces = false) (q1 q2 : Nat) (i5 : Int32) (v6 v7 : Value) (i8 i9 i10 i11 i12 i13 : Int32) (f14 : Nat → Int32) (i3 i4 : Int32) (bc bs : Nat) (i35 i36 : Int32) {rec : Int32 → Int32 → Option (Int32)}  (hrec : ∀ (i35 i36 : Int32), V E K mX8_least (Qm E K mX8_least (zX8_least E q1 q2 i5 v6 v7 i8 i9 i10 i11 i12 i13 f14)) (bc) (bs) [(q1, .inr (9, [.int i5, v6, v7, .int i8, .int i9, .int i10, .int i11, .int i12, .int i13])), (q2, .inl (E.2.1, 81, .inl f14))] 7 [(0, .ref q1), (1, .ref q2), (2, .int i3), (3, .int i4), (4, .int i35), (5, .int i36)] [] (rec i35 i36))  : V E K mX8_least (Qm E K mX8_least (zX8_least E q1 q2 i5 v6 v7 i8 i9 i10 i11 i12 i13 f14)) (bc) (bs) [(q1, .inr (9, [.int i5, v6, v7, .int i8, .int i9, .int i10, .int i11, .int i12, .int i13])), (q2, .inl (E.2.1, 81, .inl f14))] 7 [(0, .ref q1), (1, .ref q2), (2, .int i3), (3, .int i4), (4, .int i35), (5, .int i36)] [] (BX8_least_L7  i5 f14 i3 i4 i35 i36 rec ) := by
  unfold BX8_least_L7
  refine V_iload (dX8_least 4 rfl) 9 rfl 5 rfl ?_
  refine V_iconst (1 : Int32) (by decide) (dX8_least 5 rfl) 10 rfl ?_
  refine V_aload_n (dX8_least 6 rfl) 11 rfl 0 rfl ?_
  refine V_get gf_M_17 0 rfl rfl (dX8_least 7 rfl) 14 rfl ?_
  refine V_ishl (dX8_least 8 rfl) 15 rfl ?_
  refine V_icmp_ge (dX8_least 9 rfl) 48 (by decide) 18 rfl ?_ ?_
  · refine V_iload (dX8_least 24 rfl) 50 rfl 4 rfl ?_
    exact V_iret rfl (dX8_least 25 rfl) ⟨rfl, rfl⟩
  · refine V_iload (dX8_least 10 rfl) 20 rfl 5 rfl ?_
    refine V_iload_n (dX8_least 11 rfl) 21 rfl 2 rfl ?_
    refine V_iload_n (dX8_least 12 rfl) 22 rfl 3 rfl ?_
    refine V_callS (M := mX8_least) (wcs := []) (wr := [(q1, .inr (9, [.int i5, v6, v7, .int i8, .int i9, .int i10, .int i11, .int i12, .int i13])), (q2, .inl (E.2.1, 81, .inl f14))]) mf_X8_isCut tw_1479 tw_1480 ⟨Nat.le_of_ble_eq_true rfl, Nat.le_of_ble_eq_true rfl⟩ (dX8_least 13 rfl) 25 rfl (kX8_isCut hs i36 i3 i4) rfl [] [0, 1] rfl rfl rfl rfl (by decide) rfl (Nat.le_of_ble_eq_true rfl) (bc) (bs) (show (bc) + 0 ≤ (bc) by omega) (show (bs) + 0 ≤ (bs) by omega) (fun z37 v w hz => ?_)
    obtain ⟨rfl, rfl⟩ := hz
    show V E K mX8_least (Qm E K mX8_least (zX8_least E q1 q2 i5 v6 v7 i8 i9 i10 i11 i12 i13 f14)) (bc) (bs) [(q1, .inr (9, [.int i5, v6, v7, .int i8, .int i9, .int i10, .int i11, .int i12, .int i13])), (q2, .inl (E.2.1, 81, .inl f14))] 25 [(0, .ref q1), (1, .ref q2), (2, .int i3), (3, .int i4), (4, .int i35), (5, .int i36)] [.int z37] _
    refine V_jn (fun (k38 : Int32 → Option (Int32)) => ∀ (i42 : Int32), V E K mX8_least (Qm E K mX8_least (zX8_least E q1 q2 i5 v6 v7 i8 i9 i10 i11 i12 i13 f14)) (bc) (bs) [(q1, .inr (9, [.int i5, v6, v7, .int i8, .int i9, .int i10, .int i11, .int i12, .int i13])), (q2, .inl (E.2.1, 81, .inl f14))] 42 [(0, .ref q1), (1, .ref q2), (2, .int i3), (3, .int i4), (4, .int i42), (5, .int i36)] [] (k38 i42)) ?_ ?_
    · intro i42
      show V E K mX8_least (Qm E K mX8_least (zX8_least E q1 q2 i5 v6 v7 i8 i9 i10 i11 i12 i13 f14)) (bc) (bs) [(q1, .inr (9, [.int i5, v6, v7, .int i8, .int i9, .int i10, .int i11, .int i12, .int i13])), (q2, .inl (E.2.1, 81, .inl f14))] 42 [(0, .ref q1), (1, .ref q2), (2, .int i3), (3, .int i4), (4, .int i42), (5, .int i36)] [] _
      refine V_iinc (dX8_least 22 rfl) 45 rfl 5 rfl (i36 + (1 : Int32)) rfl [(0, .ref q1), (1, .ref q2), (2, .int i3), (3, .int i4), (4, .int i42), (5, .int (i36 + (1 : Int32)))] (Nat.le_of_ble_eq_true rfl) rfl ?_
      refine V_goto (dX8_least 23 rfl) 7 (by decide) ?_
      exact hrec i42 (i36 + (1 : Int32))
    · intro k38 hk39
      refine V_if_eq (dX8_least 14 rfl) 42 (by decide) 28 rfl ?_ ?_
      · exact hk39 i35
      · refine V_iload (dX8_least 15 rfl) 30 rfl 4 rfl ?_
        refine V_aload_n (dX8_least 16 rfl) 31 rfl 0 rfl ?_
        refine V_aload_n (dX8_least 17 rfl) 32 rfl 1 rfl ?_
        refine V_iload (dX8_least 18 rfl) 34 rfl 5 rfl ?_
        refine V_callV (M := mX8_least) (wcs := [(q1, .inr (9, [.int i5, v6, v7, .int i8, .int i9, .int i10, .int i11, .int i12, .int i13])), (q2, .inl (E.2.1, 81, .inl f14))]) (wr := []) mf_X8_through tw_1482 tw_1484 tw_52 ⟨Nat.le_of_ble_eq_true rfl, Nat.le_of_ble_eq_true rfl⟩ (dX8_least 19 rfl) 37 rfl (kX8_through hs q1 q2 i5 v6 v7 i8 i9 i10 i11 i12 i13 f14 i36) rfl [0, 1] [] (q0 := 0) rfl rfl rfl rfl (by decide) rfl rfl rfl rfl (Nat.le_of_ble_eq_true rfl) (bc) (bs) (show (bc) + 0 ≤ (bc) by omega) (show (bs) + 0 ≤ (bs) by omega) (fun z40 v w hz => ?_)
        obtain ⟨rfl, rfl⟩ := hz
        show V E K mX8_least (Qm E K mX8_least (zX8_least E q1 q2 i5 v6 v7 i8 i9 i10 i11 i12 i13 f14)) (bc) (bs) [(q1, .inr (9, [.int i5, v6, v7, .int i8, .int i9, .int i10, .int i11, .int i12, .int i13])), (q2, .inl (E.2.1, 81, .inl f14))] 37 [(0, .ref q1), (1, .ref q2), (2, .int i3), (3, .int i4), (4, .int i35), (5, .int i36)] [.int z40, .int i35] _
        refine V_mmin tw_1397 tw_341 tw_82 tw_342 (Nat.le_of_ble_eq_true rfl) (Nat.le_of_ble_eq_true rfl) (dX8_least 20 rfl) 40 rfl ?_
        refine V_nmI (fun i41 => ?_)
        refine V_istore (dX8_least 21 rfl) 42 rfl [(0, .ref q1), (1, .ref q2), (2, .int i3), (3, .int i4), (4, .int i41), (5, .int i36)] (Nat.le_of_ble_eq_true rfl) rfl ?_
        exact hk39 i41
set_option maxRecDepth 20000 in
theorem vLX8_least_L7 {E : EX} {K : KX} (hs : K.l.stackTraces = false) (q1 q2 : Nat) (i5 : Int32) (v6 v7 : Value) (i8 i9 i10 i11 i12 i13 : Int32) (f14 : Nat → Int32) (i3 i4 : Int32) (bc bs : Nat)   : ∀ (n : Nat) (i35 i36 : Int32), V E K mX8_least (Qm E K mX8_least (zX8_least E q1 q2 i5 v6 v7 i8 i9 i10 i11 i12 i13 f14)) (bc) (bs) [(q1, .inr (9, [.int i5, v6, v7, .int i8, .int i9, .int i10, .int i11, .int i12, .int i13])), (q2, .inl (E.2.1, 81, .inl f14))] 7 [(0, .ref q1), (1, .ref q2), (2, .int i3), (3, .int i4), (4, .int i35), (5, .int i36)] [] (LX8_least_L7  i5 f14 i3 i4 n i35 i36 )
  | 0, _, _ => V_none
  | n + 1, i35, i36 => vBX8_least_L7 hs q1 q2 i5 v6 v7 i8 i9 i10 i11 i12 i13 f14 i3 i4 bc bs i35 i36 (fun i35 i36 => vLX8_least_L7 hs q1 q2 i5 v6 v7 i8 i9 i10 i11 i12 i13 f14 i3 i4 bc bs  n i35 i36) 
set_option maxRecDepth 20000 in
theorem kX8_least {E : EX} {l : Launch} (hl : l.stackTraces = false) (q1 q2 : Nat) (i5 : Int32) (v6 v7 : Value) (i8 i9 i10 i11 i12 i13 : Int32) (f14 : Nat → Int32) (i3 i4 : Int32) : Ct E l mX8_least [.ref q1, .ref q2, .int i3, .int i4] [(q1, .inr (9, [.int i5, v6, v7, .int i8, .int i9, .int i10, .int i11, .int i12, .int i13])), (q2, .inl (E.2.1, 81, .inl f14))] (fX8_least i5 f14 i3 i4) (zX8_least E q1 q2 i5 v6 v7 i8 i9 i10 i11 i12 i13 f14) := Ct_of hl mf_X8_least.1 (Nat.le_of_ble_eq_true rfl) (fun K hs => by
  refine V_less 0 0 (Nat.le_refl _) (Nat.le_refl _) ?_
  refine V_pick [0, 1, 2, 3] [(0, .ref q1), (1, .ref q2), (2, .int i3), (3, .int i4)] rfl ?_
  unfold fX8_least
  refine V_ldc (M := mX8_least) (v := (2147483647 : Int32)) tw_1396 (dX8_least 0 rfl) 2 rfl ?_
  refine V_istore (dX8_least 1 rfl) 4 rfl [(0, .ref q1), (1, .ref q2), (2, .int i3), (3, .int i4), (4, .int (2147483647 : Int32))] (Nat.le_of_ble_eq_true rfl) rfl ?_
  refine V_iconst (0 : Int32) (by decide) (dX8_least 2 rfl) 5 rfl ?_
  refine V_istore (dX8_least 3 rfl) 7 rfl [(0, .ref q1), (1, .ref q2), (2, .int i3), (3, .int i4), (4, .int (2147483647 : Int32)), (5, .int (0 : Int32))] (Nat.le_of_ble_eq_true rfl) rfl ?_
  refine vLX8_least_L7 hs q1 q2 i5 v6 v7 i8 i9 i10 i11 i12 i13 f14 i3 i4 0 0  600 (2147483647 : Int32) (0 : Int32))
set_option maxRecDepth 20000 in
theorem kX8_leastNow {E : EX} {l : Launch} (hl : l.stackTraces = false) (q1 q3 : Nat) (i2 : Int32) (v4 : Value) (i5 i6 i7 i8 i9 i10 : Int32) (f11 : Nat → Int32) : Ct E l mX8_leastNow [.ref q1] [(q1, .inr (9, [.int i2, .ref q3, v4, .int i5, .int i6, .int i7, .int i8, .int i9, .int i10])), (q3, .inl (E.2.1, 81, .inl f11))] (fX8_leastNow i2 i5 i6 f11) (zX8_leastNow E q1 q3 i2 v4 i5 i6 i7 i8 i9 i10 f11) := Ct_of hl mf_X8_leastNow.1 (Nat.le_of_ble_eq_true rfl) (fun K hs => by
  refine V_less 0 0 (Nat.le_refl _) (Nat.le_refl _) ?_
  refine V_pick [0] [(0, .ref q1)] rfl ?_
  unfold fX8_leastNow
  refine V_aload_n (dX8_leastNow 0 rfl) 1 rfl 0 rfl ?_
  refine V_aload_n (dX8_leastNow 1 rfl) 2 rfl 0 rfl ?_
  refine V_get gf_M_20 0 rfl rfl (dX8_leastNow 2 rfl) 5 rfl ?_
  refine V_aload_n (dX8_leastNow 3 rfl) 6 rfl 0 rfl ?_
  refine V_get gf_M_27 0 rfl rfl (dX8_leastNow 4 rfl) 9 rfl ?_
  refine V_aload_n (dX8_leastNow 5 rfl) 10 rfl 0 rfl ?_
  refine V_get gf_M_30 0 rfl rfl (dX8_leastNow 6 rfl) 13 rfl ?_
  refine V_callV (M := mX8_leastNow) (wcs := [(q1, .inr (9, [.int i2, .ref q3, v4, .int i5, .int i6, .int i7, .int i8, .int i9, .int i10])), (q3, .inl (E.2.1, 81, .inl f11))]) (wr := []) mf_X8_least tw_1494 tw_1496 tw_54 ⟨Nat.le_of_ble_eq_true rfl, Nat.le_of_ble_eq_true rfl⟩ (dX8_leastNow 7 rfl) 16 rfl (kX8_least hs q1 q3 i2 (.ref q3) v4 i5 i6 i7 i8 i9 i10 f11 i5 i6) rfl [0, 1] [] (q0 := 0) rfl rfl rfl rfl (by decide) rfl rfl rfl rfl (Nat.le_of_ble_eq_true rfl) 0 0 (show 0 + 0 ≤ 0 from Nat.le_of_ble_eq_true rfl) (show 0 + 0 ≤ 0 from Nat.le_of_ble_eq_true rfl) (fun z12 v w hz => ?_)
  obtain ⟨rfl, rfl⟩ := hz
  show V E K mX8_leastNow (Qm E K mX8_leastNow (zX8_leastNow E q1 q3 i2 v4 i5 i6 i7 i8 i9 i10 f11)) 0 0 [(q1, .inr (9, [.int i2, .ref q3, v4, .int i5, .int i6, .int i7, .int i8, .int i9, .int i10])), (q3, .inl (E.2.1, 81, .inl f11))] 16 [(0, .ref q1)] [.int z12] _
  exact V_iret rfl (dX8_leastNow 8 rfl) ⟨rfl, rfl⟩)
set_option maxRecDepth 20000 in
theorem vBX8_leastsNow_L9 {E : EX} {K : KX} (hs : K.l.stackTraces = false) (q1 q3 : Nat) (i2 : Int32) (v4 : Value) (i5 i6 i7 i8 i9 i10 : Int32) (f11 : Nat → Int32) (i31 : Int32) (bc bs : Nat) (i32 i33 : Int32) {rec : Int32 → Int32 → Option (Int32)}  (hrec : ∀ (i32 i33 : Int32), V E K mX8_leastsNow (Qm E K mX8_leastsNow (zX8_leastsNow E q1 q3 i2 v4 i5 i6 i7 i8 i9 i10 f11)) (bc) (bs) [(q1, .inr (9, [.int i2, .ref q3, v4, .int i5, .int i6, .int i7, .int i8, .int i9, .int i10])), (q3, .inl (E.2.1, 81, .inl f11))] 9 [(0, .ref q1), (1, .int i31), (2, .int i32), (3, .int i33)] [] (rec i32 i33))  : V E K mX8_leastsNow (Qm E K mX8_leastsNow (zX8_leastsNow E q1 q3 i2 v4 i5 i6 i7 i8 i9 i10 f11)) (bc) (bs) [(q1, .inr (9, [.int i2, .ref q3, v4, .int i5, .int i6, .int i7, .int i8, .int i9, .int i10])), (q3, .inl (E.2.1, 81, .inl f11))] 9 [(0, .ref q1), (1, .int i31), (2, .int i32), (3, .int i33)] [] (BX8_leastsNow_L9  i2 i5 i6 f11 i31 i32 i33 rec ) := by
  unfold BX8_leastsNow_L9
  refine V_iload_n (dX8_leastsNow 7 rfl) 10 rfl 3 rfl ?_
  refine V_iconst (1 : Int32) (by decide) (dX8_leastsNow 8 rfl) 11 rfl ?_
  refine V_aload_n (dX8_leastsNow 9 rfl) 12 rfl 0 rfl ?_
  refine V_get gf_M_17 0 rfl rfl (dX8_leastsNow 10 rfl) 15 rfl ?_
  refine V_ishl (dX8_leastsNow 11 rfl) 16 rfl ?_
  refine V_icmp_ge (dX8_leastsNow 12 rfl) 56 (by decide) 19 rfl ?_ ?_
  · refine V_iload_n (dX8_leastsNow 30 rfl) 57 rfl 2 rfl ?_
    exact V_iret rfl (dX8_leastsNow 31 rfl) ⟨rfl, rfl⟩
  · refine V_iload_n (dX8_leastsNow 13 rfl) 20 rfl 3 rfl ?_
    refine V_aload_n (dX8_leastsNow 14 rfl) 21 rfl 0 rfl ?_
    refine V_get gf_M_27 0 rfl rfl (dX8_leastsNow 15 rfl) 24 rfl ?_
    refine V_aload_n (dX8_leastsNow 16 rfl) 25 rfl 0 rfl ?_
    refine V_get gf_M_30 0 rfl rfl (dX8_leastsNow 17 rfl) 28 rfl ?_
    refine V_callS (M := mX8_leastsNow) (wcs := []) (wr := [(q1, .inr (9, [.int i2, .ref q3, v4, .int i5, .int i6, .int i7, .int i8, .int i9, .int i10])), (q3, .inl (E.2.1, 81, .inl f11))]) mf_X8_isCut tw_1479 tw_1480 ⟨Nat.le_of_ble_eq_true rfl, Nat.le_of_ble_eq_true rfl⟩ (dX8_leastsNow 18 rfl) 31 rfl (kX8_isCut hs i33 i5 i6) rfl [] [0, 1] rfl rfl rfl rfl (by decide) rfl (Nat.le_of_ble_eq_true rfl) (bc) (bs) (show (bc) + 0 ≤ (bc) by omega) (show (bs) + 0 ≤ (bs) by omega) (fun z34 v w hz => ?_)
    obtain ⟨rfl, rfl⟩ := hz
    show V E K mX8_leastsNow (Qm E K mX8_leastsNow (zX8_leastsNow E q1 q3 i2 v4 i5 i6 i7 i8 i9 i10 f11)) (bc) (bs) [(q1, .inr (9, [.int i2, .ref q3, v4, .int i5, .int i6, .int i7, .int i8, .int i9, .int i10])), (q3, .inl (E.2.1, 81, .inl f11))] 31 [(0, .ref q1), (1, .int i31), (2, .int i32), (3, .int i33)] [.int z34] _
    refine V_jn (fun (k35 : Int32 → Option (Int32)) => ∀ (i38 : Int32), V E K mX8_leastsNow (Qm E K mX8_leastsNow (zX8_leastsNow E q1 q3 i2 v4 i5 i6 i7 i8 i9 i10 f11)) (bc) (bs) [(q1, .inr (9, [.int i2, .ref q3, v4, .int i5, .int i6, .int i7, .int i8, .int i9, .int i10])), (q3, .inl (E.2.1, 81, .inl f11))] 50 [(0, .ref q1), (1, .int i31), (2, .int i38), (3, .int i33)] [] (k35 i38)) ?_ ?_
    · intro i38
      show V E K mX8_leastsNow (Qm E K mX8_leastsNow (zX8_leastsNow E q1 q3 i2 v4 i5 i6 i7 i8 i9 i10 f11)) (bc) (bs) [(q1, .inr (9, [.int i2, .ref q3, v4, .int i5, .int i6, .int i7, .int i8, .int i9, .int i10])), (q3, .inl (E.2.1, 81, .inl f11))] 50 [(0, .ref q1), (1, .int i31), (2, .int i38), (3, .int i33)] [] _
      refine V_iinc (dX8_leastsNow 28 rfl) 53 rfl 3 rfl (i33 + (1 : Int32)) rfl [(0, .ref q1), (1, .int i31), (2, .int i38), (3, .int (i33 + (1 : Int32)))] (Nat.le_of_ble_eq_true rfl) rfl ?_
      refine V_goto (dX8_leastsNow 29 rfl) 9 (by decide) ?_
      exact hrec i38 (i33 + (1 : Int32))
    · intro k35 hk36
      refine V_if_eq (dX8_leastsNow 19 rfl) 50 (by decide) 34 rfl ?_ ?_
      · exact hk36 i32
      · refine V_aload_n (dX8_leastsNow 20 rfl) 35 rfl 0 rfl ?_
        refine V_aload_n (dX8_leastsNow 21 rfl) 36 rfl 0 rfl ?_
        refine V_get gf_M_20 0 rfl rfl (dX8_leastsNow 22 rfl) 39 rfl ?_
        refine V_iload_n (dX8_leastsNow 23 rfl) 40 rfl 3 rfl ?_
        refine V_callV (M := mX8_leastsNow) (wcs := [(q1, .inr (9, [.int i2, .ref q3, v4, .int i5, .int i6, .int i7, .int i8, .int i9, .int i10])), (q3, .inl (E.2.1, 81, .inl f11))]) (wr := []) mf_X8_through tw_1482 tw_1484 tw_52 ⟨Nat.le_of_ble_eq_true rfl, Nat.le_of_ble_eq_true rfl⟩ (dX8_leastsNow 24 rfl) 43 rfl (kX8_through hs q1 q3 i2 (.ref q3) v4 i5 i6 i7 i8 i9 i10 f11 i33) rfl [0, 1] [] (q0 := 0) rfl rfl rfl rfl (by decide) rfl rfl rfl rfl (Nat.le_of_ble_eq_true rfl) (bc) (bs) (show (bc) + 0 ≤ (bc) by omega) (show (bs) + 0 ≤ (bs) by omega) (fun z37 v w hz => ?_)
        obtain ⟨rfl, rfl⟩ := hz
        show V E K mX8_leastsNow (Qm E K mX8_leastsNow (zX8_leastsNow E q1 q3 i2 v4 i5 i6 i7 i8 i9 i10 f11)) (bc) (bs) [(q1, .inr (9, [.int i2, .ref q3, v4, .int i5, .int i6, .int i7, .int i8, .int i9, .int i10])), (q3, .inl (E.2.1, 81, .inl f11))] 43 [(0, .ref q1), (1, .int i31), (2, .int i32), (3, .int i33)] [.int z37] _
        refine V_iload_n (dX8_leastsNow 25 rfl) 44 rfl 1 rfl ?_
        refine V_icmp_ne (dX8_leastsNow 26 rfl) 50 (by decide) 47 rfl ?_ ?_
        · exact hk36 i32
        · refine V_iinc (dX8_leastsNow 27 rfl) 50 rfl 2 rfl (i32 + (1 : Int32)) rfl [(0, .ref q1), (1, .int i31), (2, .int (i32 + (1 : Int32))), (3, .int i33)] (Nat.le_of_ble_eq_true rfl) rfl ?_
          exact hk36 (i32 + (1 : Int32))
set_option maxRecDepth 20000 in
theorem vLX8_leastsNow_L9 {E : EX} {K : KX} (hs : K.l.stackTraces = false) (q1 q3 : Nat) (i2 : Int32) (v4 : Value) (i5 i6 i7 i8 i9 i10 : Int32) (f11 : Nat → Int32) (i31 : Int32) (bc bs : Nat)   : ∀ (n : Nat) (i32 i33 : Int32), V E K mX8_leastsNow (Qm E K mX8_leastsNow (zX8_leastsNow E q1 q3 i2 v4 i5 i6 i7 i8 i9 i10 f11)) (bc) (bs) [(q1, .inr (9, [.int i2, .ref q3, v4, .int i5, .int i6, .int i7, .int i8, .int i9, .int i10])), (q3, .inl (E.2.1, 81, .inl f11))] 9 [(0, .ref q1), (1, .int i31), (2, .int i32), (3, .int i33)] [] (LX8_leastsNow_L9  i2 i5 i6 f11 i31 n i32 i33 )
  | 0, _, _ => V_none
  | n + 1, i32, i33 => vBX8_leastsNow_L9 hs q1 q3 i2 v4 i5 i6 i7 i8 i9 i10 f11 i31 bc bs i32 i33 (fun i32 i33 => vLX8_leastsNow_L9 hs q1 q3 i2 v4 i5 i6 i7 i8 i9 i10 f11 i31 bc bs  n i32 i33) 
set_option maxRecDepth 20000 in
theorem kX8_leastsNow {E : EX} {l : Launch} (hl : l.stackTraces = false) (q1 q3 : Nat) (i2 : Int32) (v4 : Value) (i5 i6 i7 i8 i9 i10 : Int32) (f11 : Nat → Int32) : Ct E l mX8_leastsNow [.ref q1] [(q1, .inr (9, [.int i2, .ref q3, v4, .int i5, .int i6, .int i7, .int i8, .int i9, .int i10])), (q3, .inl (E.2.1, 81, .inl f11))] (fX8_leastsNow i2 i5 i6 f11) (zX8_leastsNow E q1 q3 i2 v4 i5 i6 i7 i8 i9 i10 f11) := Ct_of hl mf_X8_leastsNow.1 (Nat.le_of_ble_eq_true rfl) (fun K hs => by
  refine V_less 0 0 (Nat.le_refl _) (Nat.le_refl _) ?_
  refine V_pick [0] [(0, .ref q1)] rfl ?_
  unfold fX8_leastsNow
  refine V_aload_n (dX8_leastsNow 0 rfl) 1 rfl 0 rfl ?_
  refine V_callV (M := mX8_leastsNow) (wcs := [(q1, .inr (9, [.int i2, .ref q3, v4, .int i5, .int i6, .int i7, .int i8, .int i9, .int i10])), (q3, .inl (E.2.1, 81, .inl f11))]) (wr := []) mf_X8_leastNow tw_1490 tw_1492 tw_53 ⟨Nat.le_of_ble_eq_true rfl, Nat.le_of_ble_eq_true rfl⟩ (dX8_leastsNow 1 rfl) 4 rfl (kX8_leastNow hs q1 q3 i2 v4 i5 i6 i7 i8 i9 i10 f11) rfl [0, 1] [] (q0 := 0) rfl rfl rfl rfl (by decide) rfl rfl rfl rfl (Nat.le_of_ble_eq_true rfl) 0 0 (show 0 + 0 ≤ 0 from Nat.le_of_ble_eq_true rfl) (show 0 + 0 ≤ 0 from Nat.le_of_ble_eq_true rfl) (fun z12 v w hz => ?_)
  obtain ⟨rfl, rfl⟩ := hz
  show V E K mX8_leastsNow (Qm E K mX8_leastsNow (zX8_leastsNow E q1 q3 i2 v4 i5 i6 i7 i8 i9 i10 f11)) 0 0 [(q1, .inr (9, [.int i2, .ref q3, v4, .int i5, .int i6, .int i7, .int i8, .int i9, .int i10])), (q3, .inl (E.2.1, 81, .inl f11))] 4 [(0, .ref q1)] [.int z12] _
  refine V_istore_n (dX8_leastsNow 2 rfl) 5 rfl [(0, .ref q1), (1, .int z12)] (Nat.le_of_ble_eq_true rfl) rfl ?_
  refine V_iconst (0 : Int32) (by decide) (dX8_leastsNow 3 rfl) 6 rfl ?_
  refine V_istore_n (dX8_leastsNow 4 rfl) 7 rfl [(0, .ref q1), (1, .int z12), (2, .int (0 : Int32))] (Nat.le_of_ble_eq_true rfl) rfl ?_
  refine V_iconst (0 : Int32) (by decide) (dX8_leastsNow 5 rfl) 8 rfl ?_
  refine V_istore_n (dX8_leastsNow 6 rfl) 9 rfl [(0, .ref q1), (1, .int z12), (2, .int (0 : Int32)), (3, .int (0 : Int32))] (Nat.le_of_ble_eq_true rfl) rfl ?_
  refine vLX8_leastsNow_L9 hs q1 q3 i2 v4 i5 i6 i7 i8 i9 i10 f11 z12 0 0  600 (0 : Int32) (0 : Int32))
set_option maxRecDepth 20000 in
theorem vBX8_endNow_L25 {E : EX} {K : KX} (hs : K.l.stackTraces = false) (q1 q4 : Nat) (i3 : Int32) (v5 : Value) (i6 i7 i8 i9 i10 i11 : Int32) (f12 : Nat → Int32) (i2 i39 : Int32) (bc bs : Nat) (i40 i41 : Int32) {rec : Int32 → Int32 → Option (Int32)}  (hrec : ∀ (i40 i41 : Int32), V E K mX8_endNow (Qm E K mX8_endNow (zX8_endNow E q1 q4 i3 v5 i6 i7 i8 i9 i10 i11 f12)) (bc) (bs) [(q1, .inr (9, [.int i3, .ref q4, v5, .int i6, .int i7, .int i8, .int i9, .int i10, .int i11])), (q4, .inl (E.2.1, 81, .inl f12))] 25 [(0, .ref q1), (1, .int i2), (2, .int i39), (3, .int i40), (4, .int i41)] [] (rec i40 i41))  : V E K mX8_endNow (Qm E K mX8_endNow (zX8_endNow E q1 q4 i3 v5 i6 i7 i8 i9 i10 i11 f12)) (bc) (bs) [(q1, .inr (9, [.int i3, .ref q4, v5, .int i6, .int i7, .int i8, .int i9, .int i10, .int i11])), (q4, .inl (E.2.1, 81, .inl f12))] 25 [(0, .ref q1), (1, .int i2), (2, .int i39), (3, .int i40), (4, .int i41)] [] (BX8_endNow_L25  i3 i6 i7 f12 i2 i39 i40 i41 rec ) := by
  unfold BX8_endNow_L25
  refine V_iload (dX8_endNow 16 rfl) 27 rfl 4 rfl ?_
  refine V_iconst (1 : Int32) (by decide) (dX8_endNow 17 rfl) 28 rfl ?_
  refine V_aload_n (dX8_endNow 18 rfl) 29 rfl 0 rfl ?_
  refine V_get gf_M_17 0 rfl rfl (dX8_endNow 19 rfl) 32 rfl ?_
  refine V_ishl (dX8_endNow 20 rfl) 33 rfl ?_
  refine V_icmp_ge (dX8_endNow 21 rfl) 88 (by decide) 36 rfl ?_ ?_
  · refine V_iload_n (dX8_endNow 48 rfl) 89 rfl 3 rfl ?_
    exact V_iret rfl (dX8_endNow 49 rfl) ⟨rfl, rfl⟩
  · refine V_iload (dX8_endNow 22 rfl) 38 rfl 4 rfl ?_
    refine V_aload_n (dX8_endNow 23 rfl) 39 rfl 0 rfl ?_
    refine V_get gf_M_27 0 rfl rfl (dX8_endNow 24 rfl) 42 rfl ?_
    refine V_aload_n (dX8_endNow 25 rfl) 43 rfl 0 rfl ?_
    refine V_get gf_M_30 0 rfl rfl (dX8_endNow 26 rfl) 46 rfl ?_
    refine V_callS (M := mX8_endNow) (wcs := []) (wr := [(q1, .inr (9, [.int i3, .ref q4, v5, .int i6, .int i7, .int i8, .int i9, .int i10, .int i11])), (q4, .inl (E.2.1, 81, .inl f12))]) mf_X8_isCut tw_1479 tw_1480 ⟨Nat.le_of_ble_eq_true rfl, Nat.le_of_ble_eq_true rfl⟩ (dX8_endNow 27 rfl) 49 rfl (kX8_isCut hs i41 i6 i7) rfl [] [0, 1] rfl rfl rfl rfl (by decide) rfl (Nat.le_of_ble_eq_true rfl) (bc) (bs) (show (bc) + 0 ≤ (bc) by omega) (show (bs) + 0 ≤ (bs) by omega) (fun z42 v w hz => ?_)
    obtain ⟨rfl, rfl⟩ := hz
    show V E K mX8_endNow (Qm E K mX8_endNow (zX8_endNow E q1 q4 i3 v5 i6 i7 i8 i9 i10 i11 f12)) (bc) (bs) [(q1, .inr (9, [.int i3, .ref q4, v5, .int i6, .int i7, .int i8, .int i9, .int i10, .int i11])), (q4, .inl (E.2.1, 81, .inl f12))] 49 [(0, .ref q1), (1, .int i2), (2, .int i39), (3, .int i40), (4, .int i41)] [.int z42] _
    refine V_jn (fun (k43 : Int32 → Option (Int32)) => ∀ (i49 : Int32), V E K mX8_endNow (Qm E K mX8_endNow (zX8_endNow E q1 q4 i3 v5 i6 i7 i8 i9 i10 i11 f12)) (bc) (bs) [(q1, .inr (9, [.int i3, .ref q4, v5, .int i6, .int i7, .int i8, .int i9, .int i10, .int i11])), (q4, .inl (E.2.1, 81, .inl f12))] 82 [(0, .ref q1), (1, .int i2), (2, .int i39), (3, .int i49), (4, .int i41)] [] (k43 i49)) ?_ ?_
    · intro i49
      show V E K mX8_endNow (Qm E K mX8_endNow (zX8_endNow E q1 q4 i3 v5 i6 i7 i8 i9 i10 i11 f12)) (bc) (bs) [(q1, .inr (9, [.int i3, .ref q4, v5, .int i6, .int i7, .int i8, .int i9, .int i10, .int i11])), (q4, .inl (E.2.1, 81, .inl f12))] 82 [(0, .ref q1), (1, .int i2), (2, .int i39), (3, .int i49), (4, .int i41)] [] _
      refine V_iinc (dX8_endNow 46 rfl) 85 rfl 4 rfl (i41 + (1 : Int32)) rfl [(0, .ref q1), (1, .int i2), (2, .int i39), (3, .int i49), (4, .int (i41 + (1 : Int32)))] (Nat.le_of_ble_eq_true rfl) rfl ?_
      refine V_goto (dX8_endNow 47 rfl) 25 (by decide) ?_
      exact hrec i49 (i41 + (1 : Int32))
    · intro k43 hk44
      refine V_if_eq (dX8_endNow 28 rfl) 82 (by decide) 52 rfl ?_ ?_
      · exact hk44 i40
      · refine V_aload_n (dX8_endNow 29 rfl) 53 rfl 0 rfl ?_
        refine V_aload_n (dX8_endNow 30 rfl) 54 rfl 0 rfl ?_
        refine V_get gf_M_20 0 rfl rfl (dX8_endNow 31 rfl) 57 rfl ?_
        refine V_iload (dX8_endNow 32 rfl) 59 rfl 4 rfl ?_
        refine V_callV (M := mX8_endNow) (wcs := [(q1, .inr (9, [.int i3, .ref q4, v5, .int i6, .int i7, .int i8, .int i9, .int i10, .int i11])), (q4, .inl (E.2.1, 81, .inl f12))]) (wr := []) mf_X8_through tw_1482 tw_1484 tw_52 ⟨Nat.le_of_ble_eq_true rfl, Nat.le_of_ble_eq_true rfl⟩ (dX8_endNow 33 rfl) 62 rfl (kX8_through hs q1 q4 i3 (.ref q4) v5 i6 i7 i8 i9 i10 i11 f12 i41) rfl [0, 1] [] (q0 := 0) rfl rfl rfl rfl (by decide) rfl rfl rfl rfl (Nat.le_of_ble_eq_true rfl) (bc) (bs) (show (bc) + 0 ≤ (bc) by omega) (show (bs) + 0 ≤ (bs) by omega) (fun z45 v w hz => ?_)
        obtain ⟨rfl, rfl⟩ := hz
        show V E K mX8_endNow (Qm E K mX8_endNow (zX8_endNow E q1 q4 i3 v5 i6 i7 i8 i9 i10 i11 f12)) (bc) (bs) [(q1, .inr (9, [.int i3, .ref q4, v5, .int i6, .int i7, .int i8, .int i9, .int i10, .int i11])), (q4, .inl (E.2.1, 81, .inl f12))] 62 [(0, .ref q1), (1, .int i2), (2, .int i39), (3, .int i40), (4, .int i41)] [.int z45] _
        refine V_iload_n (dX8_endNow 34 rfl) 63 rfl 2 rfl ?_
        refine V_icmp_ne (dX8_endNow 35 rfl) 82 (by decide) 66 rfl ?_ ?_
        · exact hk44 i40
        · refine V_iload_n (dX8_endNow 36 rfl) 67 rfl 1 rfl ?_
          refine V_jn (fun (k46 : Int32 → Option (Int32)) => ∀ (i48 : Int32), V E K mX8_endNow (Qm E K mX8_endNow (zX8_endNow E q1 q4 i3 v5 i6 i7 i8 i9 i10 i11 f12)) (bc) (bs) [(q1, .inr (9, [.int i3, .ref q4, v5, .int i6, .int i7, .int i8, .int i9, .int i10, .int i11])), (q4, .inl (E.2.1, 81, .inl f12))] 81 [(0, .ref q1), (1, .int i2), (2, .int i39), (4, .int i41)] [.int i48] (k46 i48)) ?_ ?_
          · intro i48
            show V E K mX8_endNow (Qm E K mX8_endNow (zX8_endNow E q1 q4 i3 v5 i6 i7 i8 i9 i10 i11 f12)) (bc) (bs) [(q1, .inr (9, [.int i3, .ref q4, v5, .int i6, .int i7, .int i8, .int i9, .int i10, .int i11])), (q4, .inl (E.2.1, 81, .inl f12))] 81 [(0, .ref q1), (1, .int i2), (2, .int i39), (4, .int i41)] [.int i48] _
            refine V_istore_n (dX8_endNow 45 rfl) 82 rfl [(0, .ref q1), (1, .int i2), (2, .int i39), (3, .int i48), (4, .int i41)] (Nat.le_of_ble_eq_true rfl) rfl ?_
            exact hk44 i48
          · intro k46 hk47
            refine V_if_eq (dX8_endNow 37 rfl) 77 (by decide) 70 rfl ?_ ?_
            · refine V_iload_n (dX8_endNow 42 rfl) 78 rfl 3 rfl ?_
              refine V_iload (dX8_endNow 43 rfl) 80 rfl 4 rfl ?_
              refine V_iand (dX8_endNow 44 rfl) 81 rfl ?_
              refine V_pick [0, 1, 2, 4] [(0, .ref q1), (1, .int i2), (2, .int i39), (4, .int i41)] rfl ?_
              exact hk47 (i40 &&& i41)
            · refine V_iload_n (dX8_endNow 38 rfl) 71 rfl 3 rfl ?_
              refine V_iload (dX8_endNow 39 rfl) 73 rfl 4 rfl ?_
              refine V_ior (dX8_endNow 40 rfl) 74 rfl ?_
              refine V_goto (dX8_endNow 41 rfl) 81 (by decide) ?_
              refine V_pick [0, 1, 2, 4] [(0, .ref q1), (1, .int i2), (2, .int i39), (4, .int i41)] rfl ?_
              exact hk47 (i40 ||| i41)
set_option maxRecDepth 20000 in
theorem vLX8_endNow_L25 {E : EX} {K : KX} (hs : K.l.stackTraces = false) (q1 q4 : Nat) (i3 : Int32) (v5 : Value) (i6 i7 i8 i9 i10 i11 : Int32) (f12 : Nat → Int32) (i2 i39 : Int32) (bc bs : Nat)   : ∀ (n : Nat) (i40 i41 : Int32), V E K mX8_endNow (Qm E K mX8_endNow (zX8_endNow E q1 q4 i3 v5 i6 i7 i8 i9 i10 i11 f12)) (bc) (bs) [(q1, .inr (9, [.int i3, .ref q4, v5, .int i6, .int i7, .int i8, .int i9, .int i10, .int i11])), (q4, .inl (E.2.1, 81, .inl f12))] 25 [(0, .ref q1), (1, .int i2), (2, .int i39), (3, .int i40), (4, .int i41)] [] (LX8_endNow_L25  i3 i6 i7 f12 i2 i39 n i40 i41 )
  | 0, _, _ => V_none
  | n + 1, i40, i41 => vBX8_endNow_L25 hs q1 q4 i3 v5 i6 i7 i8 i9 i10 i11 f12 i2 i39 bc bs i40 i41 (fun i40 i41 => vLX8_endNow_L25 hs q1 q4 i3 v5 i6 i7 i8 i9 i10 i11 f12 i2 i39 bc bs  n i40 i41) 
set_option maxRecDepth 20000 in
theorem kX8_endNow {E : EX} {l : Launch} (hl : l.stackTraces = false) (q1 q4 : Nat) (i3 : Int32) (v5 : Value) (i6 i7 i8 i9 i10 i11 : Int32) (f12 : Nat → Int32) (i2 : Int32) : Ct E l mX8_endNow [.ref q1, .int i2] [(q1, .inr (9, [.int i3, .ref q4, v5, .int i6, .int i7, .int i8, .int i9, .int i10, .int i11])), (q4, .inl (E.2.1, 81, .inl f12))] (fX8_endNow i3 i6 i7 f12 i2) (zX8_endNow E q1 q4 i3 v5 i6 i7 i8 i9 i10 i11 f12) := Ct_of hl mf_X8_endNow.1 (Nat.le_of_ble_eq_true rfl) (fun K hs => by
  refine V_less 0 0 (Nat.le_refl _) (Nat.le_refl _) ?_
  refine V_pick [0, 1] [(0, .ref q1), (1, .int i2)] rfl ?_
  unfold fX8_endNow
  refine V_aload_n (dX8_endNow 0 rfl) 1 rfl 0 rfl ?_
  refine V_callV (M := mX8_endNow) (wcs := [(q1, .inr (9, [.int i3, .ref q4, v5, .int i6, .int i7, .int i8, .int i9, .int i10, .int i11])), (q4, .inl (E.2.1, 81, .inl f12))]) (wr := []) mf_X8_leastNow tw_1490 tw_1492 tw_53 ⟨Nat.le_of_ble_eq_true rfl, Nat.le_of_ble_eq_true rfl⟩ (dX8_endNow 1 rfl) 4 rfl (kX8_leastNow hs q1 q4 i3 v5 i6 i7 i8 i9 i10 i11 f12) rfl [0, 1] [] (q0 := 0) rfl rfl rfl rfl (by decide) rfl rfl rfl rfl (Nat.le_of_ble_eq_true rfl) 0 0 (show 0 + 0 ≤ 0 from Nat.le_of_ble_eq_true rfl) (show 0 + 0 ≤ 0 from Nat.le_of_ble_eq_true rfl) (fun z13 v w hz => ?_)
  obtain ⟨rfl, rfl⟩ := hz
  show V E K mX8_endNow (Qm E K mX8_endNow (zX8_endNow E q1 q4 i3 v5 i6 i7 i8 i9 i10 i11 f12)) 0 0 [(q1, .inr (9, [.int i3, .ref q4, v5, .int i6, .int i7, .int i8, .int i9, .int i10, .int i11])), (q4, .inl (E.2.1, 81, .inl f12))] 4 [(0, .ref q1), (1, .int i2)] [.int z13] _
  refine V_istore_n (dX8_endNow 2 rfl) 5 rfl [(0, .ref q1), (1, .int i2), (2, .int z13)] (Nat.le_of_ble_eq_true rfl) rfl ?_
  refine V_iload_n (dX8_endNow 3 rfl) 6 rfl 1 rfl ?_
  refine V_jn (fun (k14 : Int32 → Option (Int32)) => ∀ (i16 : Int32), V E K mX8_endNow (Qm E K mX8_endNow (zX8_endNow E q1 q4 i3 v5 i6 i7 i8 i9 i10 i11 f12)) 0 0 [(q1, .inr (9, [.int i3, .ref q4, v5, .int i6, .int i7, .int i8, .int i9, .int i10, .int i11])), (q4, .inl (E.2.1, 81, .inl f12))] 21 [(0, .ref q1), (1, .int i2), (2, .int z13)] [.int i16] (k14 i16)) ?_ ?_
  · intro i16
    show V E K mX8_endNow (Qm E K mX8_endNow (zX8_endNow E q1 q4 i3 v5 i6 i7 i8 i9 i10 i11 f12)) 0 0 [(q1, .inr (9, [.int i3, .ref q4, v5, .int i6, .int i7, .int i8, .int i9, .int i10, .int i11])), (q4, .inl (E.2.1, 81, .inl f12))] 21 [(0, .ref q1), (1, .int i2), (2, .int z13)] [.int i16] _
    refine V_istore_n (dX8_endNow 13 rfl) 22 rfl [(0, .ref q1), (1, .int i2), (2, .int z13), (3, .int i16)] (Nat.le_of_ble_eq_true rfl) rfl ?_
    refine V_iconst (0 : Int32) (by decide) (dX8_endNow 14 rfl) 23 rfl ?_
    refine V_istore (dX8_endNow 15 rfl) 25 rfl [(0, .ref q1), (1, .int i2), (2, .int z13), (3, .int i16), (4, .int (0 : Int32))] (Nat.le_of_ble_eq_true rfl) rfl ?_
    refine vLX8_endNow_L25 hs q1 q4 i3 v5 i6 i7 i8 i9 i10 i11 f12 i2 z13 0 0  600 i16 (0 : Int32)
  · intro k14 hk15
    refine V_if_eq (dX8_endNow 4 rfl) 13 (by decide) 9 rfl ?_ ?_
    · refine V_iconst (1 : Int32) (by decide) (dX8_endNow 7 rfl) 14 rfl ?_
      refine V_aload_n (dX8_endNow 8 rfl) 15 rfl 0 rfl ?_
      refine V_get gf_M_17 0 rfl rfl (dX8_endNow 9 rfl) 18 rfl ?_
      refine V_ishl (dX8_endNow 10 rfl) 19 rfl ?_
      refine V_iconst (1 : Int32) (by decide) (dX8_endNow 11 rfl) 20 rfl ?_
      refine V_isub (dX8_endNow 12 rfl) 21 rfl ?_
      exact hk15 (((1 : Int32) <<< (i3 &&& 31)) - (1 : Int32))
    · refine V_iconst (0 : Int32) (by decide) (dX8_endNow 5 rfl) 10 rfl ?_
      refine V_goto (dX8_endNow 6 rfl) 21 (by decide) ?_
      exact hk15 (0 : Int32))
set_option maxRecDepth 20000 in
theorem vBX8_byLayers_L28 {E : EX} {K : KX} (hs : K.l.stackTraces = false) (q1 q4 q5 q2 q16 : Nat) (i3 i6 i7 i8 i9 i10 i11 : Int32) (f12 f13 : Nat → Int32) (n14 : Nat) (i74 : Int32) (n76 : Nat) (bc bs : Nat) (i103 i104 : Int32) (f105 f106 : Nat → Int32) {rec : Int32 → Int32 → (Nat → Int32) → (Nat → Int32) → Option ((Nat → Int32))} {k1 : Int32 → (Nat → Int32) → (Nat → Int32) → Option ((Nat → Int32))} (hrec : ∀ (i103 i104 : Int32) (f105 f106 : Nat → Int32), V E K mX8_byLayers (Qm E K mX8_byLayers (zX8_byLayers E q1 q4 q5 q2 i3 i6 i7 i8 i9 i10 i11 f12 f13 n14)) (bc) (bs) [(q1, .inr (9, [.int i3, .ref q4, .ref q5, .int i6, .int i7, .int i8, .int i9, .int i10, .int i11])), (q4, .inl (E.2.1, 81, .inl f12)), (q5, .inl (E.2.1, 81, .inl f13)), (q2, .inl (E.2.1, n14, .inl f105)), (q16, .inl (E.2.1, n76, .inl f106))] 28 [(0, .ref q1), (1, .ref q2), (2, .ref q16), (3, .int i103), (4, .int i74), (5, .int i104)] [] (rec i103 i104 f105 f106)) (hk1 : ∀ (i113 : Int32) (f114 f115 : Nat → Int32), V E K mX8_byLayers (Qm E K mX8_byLayers (zX8_byLayers E q1 q4 q5 q2 i3 i6 i7 i8 i9 i10 i11 f12 f13 n14)) (bc) (bs) [(q1, .inr (9, [.int i3, .ref q4, .ref q5, .int i6, .int i7, .int i8, .int i9, .int i10, .int i11])), (q4, .inl (E.2.1, 81, .inl f12)), (q5, .inl (E.2.1, 81, .inl f13)), (q2, .inl (E.2.1, n14, .inl f114)), (q16, .inl (E.2.1, n76, .inl f115))] 79 [(0, .ref q1), (1, .ref q2), (2, .ref q16), (3, .int i113), (4, .int i74)] [] (k1 i113 f114 f115)) : V E K mX8_byLayers (Qm E K mX8_byLayers (zX8_byLayers E q1 q4 q5 q2 i3 i6 i7 i8 i9 i10 i11 f12 f13 n14)) (bc) (bs) [(q1, .inr (9, [.int i3, .ref q4, .ref q5, .int i6, .int i7, .int i8, .int i9, .int i10, .int i11])), (q4, .inl (E.2.1, 81, .inl f12)), (q5, .inl (E.2.1, 81, .inl f13)), (q2, .inl (E.2.1, n14, .inl f105)), (q16, .inl (E.2.1, n76, .inl f106))] 28 [(0, .ref q1), (1, .ref q2), (2, .ref q16), (3, .int i103), (4, .int i74), (5, .int i104)] [] (BX8_byLayers_L28  i3 f12 f13 n14 i74 n76 i103 i104 f105 f106 rec k1) := by
  unfold BX8_byLayers_L28
  refine V_iload (dX8_byLayers 18 rfl) 30 rfl 5 rfl ?_
  refine V_aload_n (dX8_byLayers 19 rfl) 31 rfl 0 rfl ?_
  refine V_get gf_M_17 0 rfl rfl (dX8_byLayers 20 rfl) 34 rfl ?_
  refine V_icmp_ge (dX8_byLayers 21 rfl) 79 (by decide) 37 rfl ?_ ?_
  · refine V_pick [0, 1, 2, 3, 4] [(0, .ref q1), (1, .ref q2), (2, .ref q16), (3, .int i103), (4, .int i74)] rfl ?_
    exact hk1 i103 f105 f106
  · refine V_aload_n (dX8_byLayers 22 rfl) 38 rfl 1 rfl ?_
    refine V_iload (dX8_byLayers 23 rfl) 40 rfl 5 rfl ?_
    refine V_iald 3 rfl (dX8_byLayers 24 rfl) 41 rfl ?_
    refine V_jn (fun (k107 : Int32 → (Nat → Int32) → (Nat → Int32) → Option ((Nat → Int32))) => ∀ (i110 : Int32) (f111 f112 : Nat → Int32), V E K mX8_byLayers (Qm E K mX8_byLayers (zX8_byLayers E q1 q4 q5 q2 i3 i6 i7 i8 i9 i10 i11 f12 f13 n14)) (bc) (bs) [(q1, .inr (9, [.int i3, .ref q4, .ref q5, .int i6, .int i7, .int i8, .int i9, .int i10, .int i11])), (q4, .inl (E.2.1, 81, .inl f12)), (q5, .inl (E.2.1, 81, .inl f13)), (q2, .inl (E.2.1, n14, .inl f111)), (q16, .inl (E.2.1, n76, .inl f112))] 73 [(0, .ref q1), (1, .ref q2), (2, .ref q16), (3, .int i110), (4, .int i74), (5, .int i104)] [] (k107 i110 f111 f112)) ?_ ?_
    · intro i110 f111 f112
      show V E K mX8_byLayers (Qm E K mX8_byLayers (zX8_byLayers E q1 q4 q5 q2 i3 i6 i7 i8 i9 i10 i11 f12 f13 n14)) (bc) (bs) [(q1, .inr (9, [.int i3, .ref q4, .ref q5, .int i6, .int i7, .int i8, .int i9, .int i10, .int i11])), (q4, .inl (E.2.1, 81, .inl f12)), (q5, .inl (E.2.1, 81, .inl f13)), (q2, .inl (E.2.1, n14, .inl f111)), (q16, .inl (E.2.1, n76, .inl f112))] 73 [(0, .ref q1), (1, .ref q2), (2, .ref q16), (3, .int i110), (4, .int i74), (5, .int i104)] [] _
      refine V_iinc (dX8_byLayers 44 rfl) 76 rfl 5 rfl (i104 + (1 : Int32)) rfl [(0, .ref q1), (1, .ref q2), (2, .ref q16), (3, .int i110), (4, .int i74), (5, .int (i104 + (1 : Int32)))] (Nat.le_of_ble_eq_true rfl) rfl ?_
      refine V_goto (dX8_byLayers 45 rfl) 28 (by decide) ?_
      exact hrec i110 (i104 + (1 : Int32)) f111 f112
    · intro k107 hk108
      refine V_if_ge (dX8_byLayers 25 rfl) 73 (by decide) 44 rfl ?_ ?_
      · exact hk108 i103 f105 f106
      · refine V_aload_n (dX8_byLayers 26 rfl) 45 rfl 0 rfl ?_
        refine V_aload_n (dX8_byLayers 27 rfl) 46 rfl 2 rfl ?_
        refine V_iload (dX8_byLayers 28 rfl) 48 rfl 4 rfl ?_
        refine V_iald 4 rfl (dX8_byLayers 29 rfl) 49 rfl ?_
        refine V_iload (dX8_byLayers 30 rfl) 51 rfl 5 rfl ?_
        refine V_callV (M := mX8_byLayers) (wcs := [(q1, .inr (9, [.int i3, .ref q4, .ref q5, .int i6, .int i7, .int i8, .int i9, .int i10, .int i11])), (q4, .inl (E.2.1, 81, .inl f12)), (q5, .inl (E.2.1, 81, .inl f13))]) (wr := [(q2, .inl (E.2.1, n14, .inl f105)), (q16, .inl (E.2.1, n76, .inl f106))]) mf_X8_left tw_1388 tw_1390 tw_42 ⟨Nat.le_of_ble_eq_true rfl, Nat.le_of_ble_eq_true rfl⟩ (dX8_byLayers 31 rfl) 54 rfl (kX8_left hs q1 q4 q5 i3 i6 i7 i8 i9 i10 i11 f12 f13 (f106 i74.toNatClampNeg) i104) rfl [0, 1, 2] [3, 4] (q0 := 0) rfl rfl rfl rfl (by decide) rfl rfl rfl rfl (Nat.le_of_ble_eq_true rfl) (bc) (bs) (show (bc) + 0 ≤ (bc) by omega) (show (bs) + 0 ≤ (bs) by omega) (fun z109 v w hz => ?_)
        obtain ⟨rfl, rfl⟩ := hz
        show V E K mX8_byLayers (Qm E K mX8_byLayers (zX8_byLayers E q1 q4 q5 q2 i3 i6 i7 i8 i9 i10 i11 f12 f13 n14)) (bc) (bs) [(q2, .inl (E.2.1, n14, .inl f105)), (q16, .inl (E.2.1, n76, .inl f106)), (q1, .inr (9, [.int i3, .ref q4, .ref q5, .int i6, .int i7, .int i8, .int i9, .int i10, .int i11])), (q4, .inl (E.2.1, 81, .inl f12)), (q5, .inl (E.2.1, 81, .inl f13))] 54 [(0, .ref q1), (1, .ref q2), (2, .ref q16), (3, .int i103), (4, .int i74), (5, .int i104)] [.int z109] _
        refine V_if_le (dX8_byLayers 32 rfl) 73 (by decide) 57 rfl ?_ ?_
        · refine V_world [2, 3, 4, 0, 1] [(q1, .inr (9, [.int i3, .ref q4, .ref q5, .int i6, .int i7, .int i8, .int i9, .int i10, .int i11])), (q4, .inl (E.2.1, 81, .inl f12)), (q5, .inl (E.2.1, 81, .inl f13)), (q2, .inl (E.2.1, n14, .inl f105)), (q16, .inl (E.2.1, n76, .inl f106))] rfl rfl rfl ?_
          exact hk108 i103 f105 f106
        · refine V_aload_n (dX8_byLayers 33 rfl) 58 rfl 1 rfl ?_
          refine V_iload (dX8_byLayers 34 rfl) 60 rfl 5 rfl ?_
          refine V_aload_n (dX8_byLayers 35 rfl) 61 rfl 2 rfl ?_
          refine V_iload (dX8_byLayers 36 rfl) 63 rfl 4 rfl ?_
          refine V_iald 1 rfl (dX8_byLayers 37 rfl) 64 rfl ?_
          refine V_iast 0 rfl (dX8_byLayers 38 rfl) 65 rfl [(q2, .inl (E.2.1, n14, .inl (upd f105 i104.toNatClampNeg (f106 i74.toNatClampNeg)))), (q16, .inl (E.2.1, n76, .inl f106)), (q1, .inr (9, [.int i3, .ref q4, .ref q5, .int i6, .int i7, .int i8, .int i9, .int i10, .int i11])), (q4, .inl (E.2.1, 81, .inl f12)), (q5, .inl (E.2.1, 81, .inl f13))] rfl ?_
          refine V_aload_n (dX8_byLayers 39 rfl) 66 rfl 2 rfl ?_
          refine V_iload_n (dX8_byLayers 40 rfl) 67 rfl 3 rfl ?_
          refine V_iload (dX8_byLayers 41 rfl) 69 rfl 5 rfl ?_
          refine V_iast 1 rfl (dX8_byLayers 42 rfl) 70 rfl [(q2, .inl (E.2.1, n14, .inl (upd f105 i104.toNatClampNeg (f106 i74.toNatClampNeg)))), (q16, .inl (E.2.1, n76, .inl (upd f106 i103.toNatClampNeg i104))), (q1, .inr (9, [.int i3, .ref q4, .ref q5, .int i6, .int i7, .int i8, .int i9, .int i10, .int i11])), (q4, .inl (E.2.1, 81, .inl f12)), (q5, .inl (E.2.1, 81, .inl f13))] rfl ?_
          refine V_iinc (dX8_byLayers 43 rfl) 73 rfl 3 rfl (i103 + (1 : Int32)) rfl [(0, .ref q1), (1, .ref q2), (2, .ref q16), (3, .int (i103 + (1 : Int32))), (4, .int i74), (5, .int i104)] (Nat.le_of_ble_eq_true rfl) rfl ?_
          refine V_world [2, 3, 4, 0, 1] [(q1, .inr (9, [.int i3, .ref q4, .ref q5, .int i6, .int i7, .int i8, .int i9, .int i10, .int i11])), (q4, .inl (E.2.1, 81, .inl f12)), (q5, .inl (E.2.1, 81, .inl f13)), (q2, .inl (E.2.1, n14, .inl (upd f105 i104.toNatClampNeg (f106 i74.toNatClampNeg)))), (q16, .inl (E.2.1, n76, .inl (upd f106 i103.toNatClampNeg i104)))] rfl rfl rfl ?_
          exact hk108 (i103 + (1 : Int32)) (upd f105 i104.toNatClampNeg (f106 i74.toNatClampNeg)) (upd f106 i103.toNatClampNeg i104)
set_option maxRecDepth 20000 in
theorem vLX8_byLayers_L28 {E : EX} {K : KX} (hs : K.l.stackTraces = false) (q1 q4 q5 q2 q16 : Nat) (i3 i6 i7 i8 i9 i10 i11 : Int32) (f12 f13 : Nat → Int32) (n14 : Nat) (i74 : Int32) (n76 : Nat) (bc bs : Nat) {k1 : Int32 → (Nat → Int32) → (Nat → Int32) → Option ((Nat → Int32))} (hk1 : ∀ (i113 : Int32) (f114 f115 : Nat → Int32), V E K mX8_byLayers (Qm E K mX8_byLayers (zX8_byLayers E q1 q4 q5 q2 i3 i6 i7 i8 i9 i10 i11 f12 f13 n14)) (bc) (bs) [(q1, .inr (9, [.int i3, .ref q4, .ref q5, .int i6, .int i7, .int i8, .int i9, .int i10, .int i11])), (q4, .inl (E.2.1, 81, .inl f12)), (q5, .inl (E.2.1, 81, .inl f13)), (q2, .inl (E.2.1, n14, .inl f114)), (q16, .inl (E.2.1, n76, .inl f115))] 79 [(0, .ref q1), (1, .ref q2), (2, .ref q16), (3, .int i113), (4, .int i74)] [] (k1 i113 f114 f115)) : ∀ (n : Nat) (i103 i104 : Int32) (f105 f106 : Nat → Int32), V E K mX8_byLayers (Qm E K mX8_byLayers (zX8_byLayers E q1 q4 q5 q2 i3 i6 i7 i8 i9 i10 i11 f12 f13 n14)) (bc) (bs) [(q1, .inr (9, [.int i3, .ref q4, .ref q5, .int i6, .int i7, .int i8, .int i9, .int i10, .int i11])), (q4, .inl (E.2.1, 81, .inl f12)), (q5, .inl (E.2.1, 81, .inl f13)), (q2, .inl (E.2.1, n14, .inl f105)), (q16, .inl (E.2.1, n76, .inl f106))] 28 [(0, .ref q1), (1, .ref q2), (2, .ref q16), (3, .int i103), (4, .int i74), (5, .int i104)] [] (LX8_byLayers_L28  i3 f12 f13 n14 i74 n76 n i103 i104 f105 f106 k1)
  | 0, _, _, _, _ => V_none
  | n + 1, i103, i104, f105, f106 => vBX8_byLayers_L28 hs q1 q4 q5 q2 q16 i3 i6 i7 i8 i9 i10 i11 f12 f13 n14 i74 n76 bc bs i103 i104 f105 f106 (fun i103 i104 f105 f106 => vLX8_byLayers_L28 hs q1 q4 q5 q2 q16 i3 i6 i7 i8 i9 i10 i11 f12 f13 n14 i74 n76 bc bs hk1 n i103 i104 f105 f106) hk1
set_option maxRecDepth 20000 in
theorem vBX8_byLayers_L19 {E : EX} {K : KX} (hs : K.l.stackTraces = false) (q1 q4 q5 q2 q16 : Nat) (i3 i6 i7 i8 i9 i10 i11 : Int32) (f12 f13 : Nat → Int32) (n14 n76 : Nat) (bc bs : Nat) (i73 i74 : Int32) (f75 f77 : Nat → Int32) {rec : Int32 → Int32 → (Nat → Int32) → (Nat → Int32) → Option ((Nat → Int32))}  (hrec : ∀ (i73 i74 : Int32) (f75 f77 : Nat → Int32), V E K mX8_byLayers (Qm E K mX8_byLayers (zX8_byLayers E q1 q4 q5 q2 i3 i6 i7 i8 i9 i10 i11 f12 f13 n14)) (bc) (bs) [(q1, .inr (9, [.int i3, .ref q4, .ref q5, .int i6, .int i7, .int i8, .int i9, .int i10, .int i11])), (q4, .inl (E.2.1, 81, .inl f12)), (q5, .inl (E.2.1, 81, .inl f13)), (q2, .inl (E.2.1, n14, .inl f75)), (q16, .inl (E.2.1, n76, .inl f77))] 19 [(0, .ref q1), (1, .ref q2), (2, .ref q16), (3, .int i73), (4, .int i74)] [] (rec i73 i74 f75 f77))  : V E K mX8_byLayers (Qm E K mX8_byLayers (zX8_byLayers E q1 q4 q5 q2 i3 i6 i7 i8 i9 i10 i11 f12 f13 n14)) (bc) (bs) [(q1, .inr (9, [.int i3, .ref q4, .ref q5, .int i6, .int i7, .int i8, .int i9, .int i10, .int i11])), (q4, .inl (E.2.1, 81, .inl f12)), (q5, .inl (E.2.1, 81, .inl f13)), (q2, .inl (E.2.1, n14, .inl f75)), (q16, .inl (E.2.1, n76, .inl f77))] 19 [(0, .ref q1), (1, .ref q2), (2, .ref q16), (3, .int i73), (4, .int i74)] [] (BX8_byLayers_L19  i3 f12 f13 n14 n76 i73 i74 f75 f77 rec ) := by
  unfold BX8_byLayers_L19
  refine V_iload (dX8_byLayers 13 rfl) 21 rfl 4 rfl ?_
  refine V_iload_n (dX8_byLayers 14 rfl) 22 rfl 3 rfl ?_
  refine V_icmp_ge (dX8_byLayers 15 rfl) 85 (by decide) 25 rfl ?_ ?_
  · refine V_world [0, 1, 2, 3] [(q1, .inr (9, [.int i3, .ref q4, .ref q5, .int i6, .int i7, .int i8, .int i9, .int i10, .int i11])), (q4, .inl (E.2.1, 81, .inl f12)), (q5, .inl (E.2.1, 81, .inl f13)), (q2, .inl (E.2.1, n14, .inl f75))] rfl rfl rfl ?_
    exact V_vret rfl (dX8_byLayers 48 rfl) ⟨rfl, rfl⟩
  · refine V_iconst (0 : Int32) (by decide) (dX8_byLayers 16 rfl) 26 rfl ?_
    refine V_istore (dX8_byLayers 17 rfl) 28 rfl [(0, .ref q1), (1, .ref q2), (2, .ref q16), (3, .int i73), (4, .int i74), (5, .int (0 : Int32))] (Nat.le_of_ble_eq_true rfl) rfl ?_
    refine vLX8_byLayers_L28 hs q1 q4 q5 q2 q16 i3 i6 i7 i8 i9 i10 i11 f12 f13 n14 i74 n76 (bc) (bs) ?_ 600 i73 (0 : Int32) f75 f77
    intro i113 f114 f115
    show V E K mX8_byLayers (Qm E K mX8_byLayers (zX8_byLayers E q1 q4 q5 q2 i3 i6 i7 i8 i9 i10 i11 f12 f13 n14)) (bc) (bs) [(q1, .inr (9, [.int i3, .ref q4, .ref q5, .int i6, .int i7, .int i8, .int i9, .int i10, .int i11])), (q4, .inl (E.2.1, 81, .inl f12)), (q5, .inl (E.2.1, 81, .inl f13)), (q2, .inl (E.2.1, n14, .inl f114)), (q16, .inl (E.2.1, n76, .inl f115))] 79 [(0, .ref q1), (1, .ref q2), (2, .ref q16), (3, .int i113), (4, .int i74)] [] _
    refine V_iinc (dX8_byLayers 46 rfl) 82 rfl 4 rfl (i74 + (1 : Int32)) rfl [(0, .ref q1), (1, .ref q2), (2, .ref q16), (3, .int i113), (4, .int (i74 + (1 : Int32)))] (Nat.le_of_ble_eq_true rfl) rfl ?_
    refine V_goto (dX8_byLayers 47 rfl) 19 (by decide) ?_
    exact hrec i113 (i74 + (1 : Int32)) f114 f115
set_option maxRecDepth 20000 in
theorem vLX8_byLayers_L19 {E : EX} {K : KX} (hs : K.l.stackTraces = false) (q1 q4 q5 q2 q16 : Nat) (i3 i6 i7 i8 i9 i10 i11 : Int32) (f12 f13 : Nat → Int32) (n14 n76 : Nat) (bc bs : Nat)   : ∀ (n : Nat) (i73 i74 : Int32) (f75 f77 : Nat → Int32), V E K mX8_byLayers (Qm E K mX8_byLayers (zX8_byLayers E q1 q4 q5 q2 i3 i6 i7 i8 i9 i10 i11 f12 f13 n14)) (bc) (bs) [(q1, .inr (9, [.int i3, .ref q4, .ref q5, .int i6, .int i7, .int i8, .int i9, .int i10, .int i11])), (q4, .inl (E.2.1, 81, .inl f12)), (q5, .inl (E.2.1, 81, .inl f13)), (q2, .inl (E.2.1, n14, .inl f75)), (q16, .inl (E.2.1, n76, .inl f77))] 19 [(0, .ref q1), (1, .ref q2), (2, .ref q16), (3, .int i73), (4, .int i74)] [] (LX8_byLayers_L19  i3 f12 f13 n14 n76 n i73 i74 f75 f77 )
  | 0, _, _, _, _ => V_none
  | n + 1, i73, i74, f75, f77 => vBX8_byLayers_L19 hs q1 q4 q5 q2 q16 i3 i6 i7 i8 i9 i10 i11 f12 f13 n14 n76 bc bs i73 i74 f75 f77 (fun i73 i74 f75 f77 => vLX8_byLayers_L19 hs q1 q4 q5 q2 q16 i3 i6 i7 i8 i9 i10 i11 f12 f13 n14 n76 bc bs  n i73 i74 f75 f77) 
set_option maxRecDepth 20000 in
theorem kX8_byLayers {E : EX} {l : Launch} (hl : l.stackTraces = false) (q1 q2 q4 q5 : Nat) (i3 i6 i7 i8 i9 i10 i11 : Int32) (f12 f13 : Nat → Int32) (n14 : Nat) (f15 : Nat → Int32) : Ct E l mX8_byLayers [.ref q1, .ref q2] [(q1, .inr (9, [.int i3, .ref q4, .ref q5, .int i6, .int i7, .int i8, .int i9, .int i10, .int i11])), (q4, .inl (E.2.1, 81, .inl f12)), (q5, .inl (E.2.1, 81, .inl f13)), (q2, .inl (E.2.1, n14, .inl f15))] (fX8_byLayers i3 i6 f12 f13 n14 f15) (zX8_byLayers E q1 q4 q5 q2 i3 i6 i7 i8 i9 i10 i11 f12 f13 n14) := Ct_of hl mf_X8_byLayers.1 (Nat.le_of_ble_eq_true rfl) (fun K hs => by
  refine V_less 1 16 (Nat.le_refl _) (Nat.le_refl _) ?_
  refine V_pick [0, 1] [(0, .ref q1), (1, .ref q2)] rfl ?_
  unfold fX8_byLayers
  refine V_aload_n (dX8_byLayers 0 rfl) 1 rfl 0 rfl ?_
  refine V_get gf_M_17 0 rfl rfl (dX8_byLayers 1 rfl) 4 rfl ?_
  refine V_newi (by decide) tw_116 (dX8_byLayers 2 rfl) 6 rfl 0 0 (show 0 + 1 ≤ 1 from Nat.le_of_ble_eq_true rfl) (show 0 + 16 ≤ 16 from Nat.le_of_ble_eq_true rfl) (fun q16 => ?_)
  refine V_eqW (ws2 := [(q1, .inr (9, [.int i3, .ref q4, .ref q5, .int i6, .int i7, .int i8, .int i9, .int i10, .int i11])), (q4, .inl (E.2.1, 81, .inl f12)), (q5, .inl (E.2.1, 81, .inl f13)), (q2, .inl (E.2.1, n14, .inl f15)), (q16, .inl (E.2.1, i3.toNatClampNeg, .inl (fun _ => 0)))]) rfl ?_
  refine V_astore_n (dX8_byLayers 3 rfl) 7 rfl [(0, .ref q1), (1, .ref q2), (2, .ref q16)] (Nat.le_of_ble_eq_true rfl) rfl ?_
  refine V_aload_n (dX8_byLayers 4 rfl) 8 rfl 2 rfl ?_
  refine V_iconst (0 : Int32) (by decide) (dX8_byLayers 5 rfl) 9 rfl ?_
  refine V_aload_n (dX8_byLayers 6 rfl) 10 rfl 0 rfl ?_
  refine V_get gf_M_27 0 rfl rfl (dX8_byLayers 7 rfl) 13 rfl ?_
  refine V_iast 4 rfl (dX8_byLayers 8 rfl) 14 rfl [(q1, .inr (9, [.int i3, .ref q4, .ref q5, .int i6, .int i7, .int i8, .int i9, .int i10, .int i11])), (q4, .inl (E.2.1, 81, .inl f12)), (q5, .inl (E.2.1, 81, .inl f13)), (q2, .inl (E.2.1, n14, .inl f15)), (q16, .inl (E.2.1, i3.toNatClampNeg, .inl (upd (fun _ => 0) (0 : Int32).toNatClampNeg i6)))] rfl ?_
  refine V_iconst (1 : Int32) (by decide) (dX8_byLayers 9 rfl) 15 rfl ?_
  refine V_istore_n (dX8_byLayers 10 rfl) 16 rfl [(0, .ref q1), (1, .ref q2), (2, .ref q16), (3, .int (1 : Int32))] (Nat.le_of_ble_eq_true rfl) rfl ?_
  refine V_iconst (0 : Int32) (by decide) (dX8_byLayers 11 rfl) 17 rfl ?_
  refine V_istore (dX8_byLayers 12 rfl) 19 rfl [(0, .ref q1), (1, .ref q2), (2, .ref q16), (3, .int (1 : Int32)), (4, .int (0 : Int32))] (Nat.le_of_ble_eq_true rfl) rfl ?_
  refine vLX8_byLayers_L19 hs q1 q4 q5 q2 q16 i3 i6 i7 i8 i9 i10 i11 f12 f13 n14 i3.toNatClampNeg 0 0  600 (1 : Int32) (0 : Int32) f15 (upd (fun _ => 0) (0 : Int32).toNatClampNeg i6))
set_option maxRecDepth 20000 in
theorem vBX8_deeper_L13 {E : EX} {K : KX} (hs : K.l.stackTraces = false) (n0 : Nat) {rf : Int32 → Int32 → Int32 → Int32 → Int32 → Int32 → Int32 → (Nat → Int32) → (Nat → Int32) → Nat → (Nat → Int32) → Int32 → Int32 → Option (Int32 × (Nat → Int32))} (ihr : ∀ (q1 q3 q6 q7 : Nat) (i5 i8 i9 i10 i11 i12 i13 : Int32) (f14 f15 : Nat → Int32) (n16 : Nat) (f17 : Nat → Int32) (i2 i4 : Int32), Ct E K.l (mX8_deeper n0) [.ref q1, .int i2, .ref q3, .int i4] [(q1, .inr (9, [.int i5, .ref q6, .ref q7, .int i8, .int i9, .int i10, .int i11, .int i12, .int i13])), (q6, .inl (E.2.1, 81, .inl f14)), (q7, .inl (E.2.1, 81, .inl f15)), (q3, .inl (E.2.1, n16, .inl f17))] (rf i5 i8 i9 i10 i11 i12 i13 f14 f15 n16 f17 i2 i4) (zX8_deeper E q1 q6 q7 q3 i5 i8 i9 i10 i11 i12 i13 f14 f15 n16)) (q1 q6 q7 q3 : Nat) (i5 i8 i9 i10 i11 i12 i13 : Int32) (f14 f15 : Nat → Int32) (n16 : Nat) (i2 i4 : Int32) (bc bs : Nat) (i42 : Int32) (f43 : Nat → Int32) {rec : Int32 → (Nat → Int32) → Option (Int32 × (Nat → Int32))}  (hrec : ∀ (i42 : Int32) (f43 : Nat → Int32), V E K (mX8_deeper (n0 + 1)) (Qm E K (mX8_deeper (n0 + 1)) (zX8_deeper E q1 q6 q7 q3 i5 i8 i9 i10 i11 i12 i13 f14 f15 n16)) (bc) (bs) [(q1, .inr (9, [.int i5, .ref q6, .ref q7, .int i8, .int i9, .int i10, .int i11, .int i12, .int i13])), (q6, .inl (E.2.1, 81, .inl f14)), (q7, .inl (E.2.1, 81, .inl f15)), (q3, .inl (E.2.1, n16, .inl f43))] 13 [(0, .ref q1), (1, .int i2), (2, .ref q3), (3, .int i4), (4, .int i42)] [] (rec i42 f43))  : V E K (mX8_deeper (n0 + 1)) (Qm E K (mX8_deeper (n0 + 1)) (zX8_deeper E q1 q6 q7 q3 i5 i8 i9 i10 i11 i12 i13 f14 f15 n16)) (bc) (bs) [(q1, .inr (9, [.int i5, .ref q6, .ref q7, .int i8, .int i9, .int i10, .int i11, .int i12, .int i13])), (q6, .inl (E.2.1, 81, .inl f14)), (q7, .inl (E.2.1, 81, .inl f15)), (q3, .inl (E.2.1, n16, .inl f43))] 13 [(0, .ref q1), (1, .int i2), (2, .ref q3), (3, .int i4), (4, .int i42)] [] (BX8_deeper_L13 rf i5 i8 i9 i10 i11 i12 i13 f14 f15 n16 i2 i4 i42 f43 rec ) := by
  unfold BX8_deeper_L13
  refine V_iload (dX8_deeper 8 rfl) 15 rfl 4 rfl ?_
  refine V_aload_n (dX8_deeper 9 rfl) 16 rfl 0 rfl ?_
  refine V_get gf_M_17 0 rfl rfl (dX8_deeper 10 rfl) 19 rfl ?_
  refine V_icmp_ge (dX8_deeper 11 rfl) 86 (by decide) 22 rfl ?_ ?_
  · refine V_iconst (0 : Int32) (by decide) (dX8_deeper 47 rfl) 87 rfl ?_
    exact V_zret rfl (by decide) (dX8_deeper 48 rfl) ⟨rfl, rfl⟩
  · refine V_iload_n (dX8_deeper 12 rfl) 23 rfl 3 rfl ?_
    refine V_jn (fun (k44 : Int32 → Option (Int32 × (Nat → Int32))) => ∀ (i46 : Int32), V E K (mX8_deeper (n0 + 1)) (Qm E K (mX8_deeper (n0 + 1)) (zX8_deeper E q1 q6 q7 q3 i5 i8 i9 i10 i11 i12 i13 f14 f15 n16)) (bc) (bs) [(q1, .inr (9, [.int i5, .ref q6, .ref q7, .int i8, .int i9, .int i10, .int i11, .int i12, .int i13])), (q6, .inl (E.2.1, 81, .inl f14)), (q7, .inl (E.2.1, 81, .inl f15)), (q3, .inl (E.2.1, n16, .inl f43))] 40 [(0, .ref q1), (1, .int i2), (2, .ref q3), (3, .int i4), (4, .int i42)] [.int i46] (k44 i46)) ?_ ?_
    · intro i46
      show V E K (mX8_deeper (n0 + 1)) (Qm E K (mX8_deeper (n0 + 1)) (zX8_deeper E q1 q6 q7 q3 i5 i8 i9 i10 i11 i12 i13 f14 f15 n16)) (bc) (bs) [(q1, .inr (9, [.int i5, .ref q6, .ref q7, .int i8, .int i9, .int i10, .int i11, .int i12, .int i13])), (q6, .inl (E.2.1, 81, .inl f14)), (q7, .inl (E.2.1, 81, .inl f15)), (q3, .inl (E.2.1, n16, .inl f43))] 40 [(0, .ref q1), (1, .int i2), (2, .ref q3), (3, .int i4), (4, .int i42)] [.int i46] _
      refine V_istore (dX8_deeper 22 rfl) 42 rfl [(0, .ref q1), (1, .int i2), (2, .ref q3), (3, .int i4), (4, .int i42), (5, .int i46)] (Nat.le_of_ble_eq_true rfl) rfl ?_
      refine V_aload_n (dX8_deeper 23 rfl) 43 rfl 2 rfl ?_
      refine V_iload (dX8_deeper 24 rfl) 45 rfl 5 rfl ?_
      refine V_iald 3 rfl (dX8_deeper 25 rfl) 46 rfl ?_
      refine V_jn (fun (k47 : (Nat → Int32) → Option (Int32 × (Nat → Int32))) => ∀ (f51 : Nat → Int32), V E K (mX8_deeper (n0 + 1)) (Qm E K (mX8_deeper (n0 + 1)) (zX8_deeper E q1 q6 q7 q3 i5 i8 i9 i10 i11 i12 i13 f14 f15 n16)) (bc) (bs) [(q1, .inr (9, [.int i5, .ref q6, .ref q7, .int i8, .int i9, .int i10, .int i11, .int i12, .int i13])), (q6, .inl (E.2.1, 81, .inl f14)), (q7, .inl (E.2.1, 81, .inl f15)), (q3, .inl (E.2.1, n16, .inl f51))] 80 [(0, .ref q1), (1, .int i2), (2, .ref q3), (3, .int i4), (4, .int i42)] [] (k47 f51)) ?_ ?_
      · intro f51
        show V E K (mX8_deeper (n0 + 1)) (Qm E K (mX8_deeper (n0 + 1)) (zX8_deeper E q1 q6 q7 q3 i5 i8 i9 i10 i11 i12 i13 f14 f15 n16)) (bc) (bs) [(q1, .inr (9, [.int i5, .ref q6, .ref q7, .int i8, .int i9, .int i10, .int i11, .int i12, .int i13])), (q6, .inl (E.2.1, 81, .inl f14)), (q7, .inl (E.2.1, 81, .inl f15)), (q3, .inl (E.2.1, n16, .inl f51))] 80 [(0, .ref q1), (1, .int i2), (2, .ref q3), (3, .int i4), (4, .int i42)] [] _
        refine V_iinc (dX8_deeper 45 rfl) 83 rfl 4 rfl (i42 + (1 : Int32)) rfl [(0, .ref q1), (1, .int i2), (2, .ref q3), (3, .int i4), (4, .int (i42 + (1 : Int32)))] (Nat.le_of_ble_eq_true rfl) rfl ?_
        refine V_goto (dX8_deeper 46 rfl) 13 (by decide) ?_
        exact hrec (i42 + (1 : Int32)) f51
      · intro k47 hk48
        refine V_if_ge (dX8_deeper 26 rfl) 80 (by decide) 49 rfl ?_ ?_
        · refine V_pick [0, 1, 2, 3, 4] [(0, .ref q1), (1, .int i2), (2, .ref q3), (3, .int i4), (4, .int i42)] rfl ?_
          exact hk48 f43
        · refine V_aload_n (dX8_deeper 27 rfl) 50 rfl 0 rfl ?_
          refine V_iload_n (dX8_deeper 28 rfl) 51 rfl 1 rfl ?_
          refine V_iload (dX8_deeper 29 rfl) 53 rfl 5 rfl ?_
          refine V_callV (M := (mX8_deeper (n0 + 1))) (wcs := [(q1, .inr (9, [.int i5, .ref q6, .ref q7, .int i8, .int i9, .int i10, .int i11, .int i12, .int i13])), (q6, .inl (E.2.1, 81, .inl f14)), (q7, .inl (E.2.1, 81, .inl f15))]) (wr := [(q3, .inl (E.2.1, n16, .inl f43))]) mf_X8_left tw_1388 tw_1390 tw_42 ⟨(show 1 + 1 ≤ 2 + (n0 + 1) by omega), (show 8 + (3 + 11) + 22 ≤ 44 + (n0 + 1) * 25 by omega)⟩ (dX8_deeper 30 rfl) 56 rfl (kX8_left hs q1 q6 q7 i5 i8 i9 i10 i11 i12 i13 f14 f15 i2 i46) rfl [0, 1, 2] [3] (q0 := 0) rfl rfl rfl rfl (by decide) rfl rfl rfl rfl (Nat.le_of_ble_eq_true rfl) (bc) (bs) (show (bc) + 0 ≤ (bc) by omega) (show (bs) + 0 ≤ (bs) by omega) (fun z49 v w hz => ?_)
          obtain ⟨rfl, rfl⟩ := hz
          show V E K (mX8_deeper (n0 + 1)) (Qm E K (mX8_deeper (n0 + 1)) (zX8_deeper E q1 q6 q7 q3 i5 i8 i9 i10 i11 i12 i13 f14 f15 n16)) (bc) (bs) [(q3, .inl (E.2.1, n16, .inl f43)), (q1, .inr (9, [.int i5, .ref q6, .ref q7, .int i8, .int i9, .int i10, .int i11, .int i12, .int i13])), (q6, .inl (E.2.1, 81, .inl f14)), (q7, .inl (E.2.1, 81, .inl f15))] 56 [(0, .ref q1), (1, .int i2), (2, .ref q3), (3, .int i4), (4, .int i42), (5, .int i46)] [.int z49] _
          refine V_if_gt (dX8_deeper 31 rfl) 62 (by decide) 59 rfl ?_ ?_
          · refine V_aload_n (dX8_deeper 33 rfl) 63 rfl 2 rfl ?_
            refine V_iload (dX8_deeper 34 rfl) 65 rfl 5 rfl ?_
            refine V_iload_n (dX8_deeper 35 rfl) 66 rfl 1 rfl ?_
            refine V_iast 0 rfl (dX8_deeper 36 rfl) 67 rfl [(q3, .inl (E.2.1, n16, .inl (upd f43 i46.toNatClampNeg i2))), (q1, .inr (9, [.int i5, .ref q6, .ref q7, .int i8, .int i9, .int i10, .int i11, .int i12, .int i13])), (q6, .inl (E.2.1, 81, .inl f14)), (q7, .inl (E.2.1, 81, .inl f15))] rfl ?_
            refine V_aload_n (dX8_deeper 37 rfl) 68 rfl 0 rfl ?_
            refine V_iload (dX8_deeper 38 rfl) 70 rfl 5 rfl ?_
            refine V_aload_n (dX8_deeper 39 rfl) 71 rfl 2 rfl ?_
            refine V_iload_n (dX8_deeper 40 rfl) 72 rfl 3 rfl ?_
            refine V_callV (M := (mX8_deeper (n0 + 1))) (wcs := [(q1, .inr (9, [.int i5, .ref q6, .ref q7, .int i8, .int i9, .int i10, .int i11, .int i12, .int i13])), (q6, .inl (E.2.1, 81, .inl f14)), (q7, .inl (E.2.1, 81, .inl f15)), (q3, .inl (E.2.1, n16, .inl (upd f43 i46.toNatClampNeg i2)))]) (wr := []) (mf_X8_deeper n0) tw_1392 tw_1394 tw_43 ⟨(show 2 + n0 + 1 ≤ 2 + (n0 + 1) by omega), (show 8 + (6 + 11) + (44 + n0 * 25) ≤ 44 + (n0 + 1) * 25 by omega)⟩ (dX8_deeper 41 rfl) 75 rfl (ihr q1 q3 q6 q7 i5 i8 i9 i10 i11 i12 i13 f14 f15 n16 (upd f43 i46.toNatClampNeg i2) i46 i4) rfl [1, 2, 3, 0] [] (q0 := 0) rfl rfl rfl rfl (by decide) rfl rfl rfl rfl (Nat.le_of_ble_eq_true rfl) (bc) (bs) (show (bc) + 0 ≤ (bc) by omega) (show (bs) + 0 ≤ (bs) by omega) (fun z50 v w hz => ?_)
            obtain ⟨rfl, rfl⟩ := hz
            show V E K (mX8_deeper (n0 + 1)) (Qm E K (mX8_deeper (n0 + 1)) (zX8_deeper E q1 q6 q7 q3 i5 i8 i9 i10 i11 i12 i13 f14 f15 n16)) (bc) (bs) [(q1, .inr (9, [.int i5, .ref q6, .ref q7, .int i8, .int i9, .int i10, .int i11, .int i12, .int i13])), (q6, .inl (E.2.1, 81, .inl f14)), (q7, .inl (E.2.1, 81, .inl f15)), (q3, .inl (E.2.1, n16, .inl z50.2))] 75 [(0, .ref q1), (1, .int i2), (2, .ref q3), (3, .int i4), (4, .int i42), (5, .int i46)] [.int z50.1] _
            refine V_if_eq (dX8_deeper 42 rfl) 80 (by decide) 78 rfl ?_ ?_
            · refine V_pick [0, 1, 2, 3, 4] [(0, .ref q1), (1, .int i2), (2, .ref q3), (3, .int i4), (4, .int i42)] rfl ?_
              exact hk48 z50.2
            · refine V_iconst (1 : Int32) (by decide) (dX8_deeper 43 rfl) 79 rfl ?_
              exact V_zret rfl (by decide) (dX8_deeper 44 rfl) ⟨rfl, rfl⟩
          · refine V_goto (dX8_deeper 32 rfl) 80 (by decide) ?_
            refine V_world [1, 2, 3, 0] [(q1, .inr (9, [.int i5, .ref q6, .ref q7, .int i8, .int i9, .int i10, .int i11, .int i12, .int i13])), (q6, .inl (E.2.1, 81, .inl f14)), (q7, .inl (E.2.1, 81, .inl f15)), (q3, .inl (E.2.1, n16, .inl f43))] rfl rfl rfl ?_
            refine V_pick [0, 1, 2, 3, 4] [(0, .ref q1), (1, .int i2), (2, .ref q3), (3, .int i4), (4, .int i42)] rfl ?_
            exact hk48 f43
    · intro k44 hk45
      refine V_if_eq (dX8_deeper 13 rfl) 38 (by decide) 26 rfl ?_ ?_
      · refine V_iload (dX8_deeper 21 rfl) 40 rfl 4 rfl ?_
        exact hk45 i42
      · refine V_aload_n (dX8_deeper 14 rfl) 27 rfl 0 rfl ?_
        refine V_get gf_M_17 0 rfl rfl (dX8_deeper 15 rfl) 30 rfl ?_
        refine V_iconst (1 : Int32) (by decide) (dX8_deeper 16 rfl) 31 rfl ?_
        refine V_isub (dX8_deeper 17 rfl) 32 rfl ?_
        refine V_iload (dX8_deeper 18 rfl) 34 rfl 4 rfl ?_
        refine V_isub (dX8_deeper 19 rfl) 35 rfl ?_
        refine V_goto (dX8_deeper 20 rfl) 40 (by decide) ?_
        exact hk45 ((i5 - (1 : Int32)) - i42)
set_option maxRecDepth 20000 in
theorem vLX8_deeper_L13 {E : EX} {K : KX} (hs : K.l.stackTraces = false) (n0 : Nat) {rf : Int32 → Int32 → Int32 → Int32 → Int32 → Int32 → Int32 → (Nat → Int32) → (Nat → Int32) → Nat → (Nat → Int32) → Int32 → Int32 → Option (Int32 × (Nat → Int32))} (ihr : ∀ (q1 q3 q6 q7 : Nat) (i5 i8 i9 i10 i11 i12 i13 : Int32) (f14 f15 : Nat → Int32) (n16 : Nat) (f17 : Nat → Int32) (i2 i4 : Int32), Ct E K.l (mX8_deeper n0) [.ref q1, .int i2, .ref q3, .int i4] [(q1, .inr (9, [.int i5, .ref q6, .ref q7, .int i8, .int i9, .int i10, .int i11, .int i12, .int i13])), (q6, .inl (E.2.1, 81, .inl f14)), (q7, .inl (E.2.1, 81, .inl f15)), (q3, .inl (E.2.1, n16, .inl f17))] (rf i5 i8 i9 i10 i11 i12 i13 f14 f15 n16 f17 i2 i4) (zX8_deeper E q1 q6 q7 q3 i5 i8 i9 i10 i11 i12 i13 f14 f15 n16)) (q1 q6 q7 q3 : Nat) (i5 i8 i9 i10 i11 i12 i13 : Int32) (f14 f15 : Nat → Int32) (n16 : Nat) (i2 i4 : Int32) (bc bs : Nat)   : ∀ (n : Nat) (i42 : Int32) (f43 : Nat → Int32), V E K (mX8_deeper (n0 + 1)) (Qm E K (mX8_deeper (n0 + 1)) (zX8_deeper E q1 q6 q7 q3 i5 i8 i9 i10 i11 i12 i13 f14 f15 n16)) (bc) (bs) [(q1, .inr (9, [.int i5, .ref q6, .ref q7, .int i8, .int i9, .int i10, .int i11, .int i12, .int i13])), (q6, .inl (E.2.1, 81, .inl f14)), (q7, .inl (E.2.1, 81, .inl f15)), (q3, .inl (E.2.1, n16, .inl f43))] 13 [(0, .ref q1), (1, .int i2), (2, .ref q3), (3, .int i4), (4, .int i42)] [] (LX8_deeper_L13 rf i5 i8 i9 i10 i11 i12 i13 f14 f15 n16 i2 i4 n i42 f43 )
  | 0, _, _ => V_none
  | n + 1, i42, f43 => vBX8_deeper_L13 hs n0 ihr q1 q6 q7 q3 i5 i8 i9 i10 i11 i12 i13 f14 f15 n16 i2 i4 bc bs i42 f43 (fun i42 f43 => vLX8_deeper_L13 hs n0 ihr q1 q6 q7 q3 i5 i8 i9 i10 i11 i12 i13 f14 f15 n16 i2 i4 bc bs  n i42 f43) 
set_option maxRecDepth 20000 in
theorem k0X8_deeper {E : EX} : ∀ (n0 : Nat) {l : Launch} (hl : l.stackTraces = false) (q1 q3 q6 q7 : Nat) (i5 i8 i9 i10 i11 i12 i13 : Int32) (f14 f15 : Nat → Int32) (n16 : Nat) (f17 : Nat → Int32) (i2 i4 : Int32), Ct E l (mX8_deeper n0) [.ref q1, .int i2, .ref q3, .int i4] [(q1, .inr (9, [.int i5, .ref q6, .ref q7, .int i8, .int i9, .int i10, .int i11, .int i12, .int i13])), (q6, .inl (E.2.1, 81, .inl f14)), (q7, .inl (E.2.1, 81, .inl f15)), (q3, .inl (E.2.1, n16, .inl f17))] (fX8_deeper n0 i5 i8 i9 i10 i11 i12 i13 f14 f15 n16 f17 i2 i4) (zX8_deeper E q1 q6 q7 q3 i5 i8 i9 i10 i11 i12 i13 f14 f15 n16) := by
  intro n0
  induction n0 with
  | zero => intro l hl q1 q3 q6 q7 i5 i8 i9 i10 i11 i12 i13 f14 f15 n16 f17 i2 i4; exact Ct_none
  | succ n0 ihr0 =>
    intro l hl q1 q3 q6 q7 i5 i8 i9 i10 i11 i12 i13 f14 f15 n16 f17 i2 i4
    refine Ct_of hl (mf_X8_deeper (n0 + 1)).1 (Nat.le_of_ble_eq_true rfl) (fun K hs => by
      have ihr := @ihr0 K.l hs
      refine V_less 0 0 (Nat.le_refl _) (Nat.le_refl _) ?_
      refine V_pick [0, 1, 2, 3] [(0, .ref q1), (1, .int i2), (2, .ref q3), (3, .int i4)] rfl ?_
      show V E K (mX8_deeper (n0 + 1)) (Qm E K (mX8_deeper (n0 + 1)) (zX8_deeper E q1 q6 q7 q3 i5 i8 i9 i10 i11 i12 i13 f14 f15 n16)) 0 0 [(q1, .inr (9, [.int i5, .ref q6, .ref q7, .int i8, .int i9, .int i10, .int i11, .int i12, .int i13])), (q6, .inl (E.2.1, 81, .inl f14)), (q7, .inl (E.2.1, 81, .inl f15)), (q3, .inl (E.2.1, n16, .inl f17))] 0 [(0, .ref q1), (1, .int i2), (2, .ref q3), (3, .int i4)] [] (bX8_deeper (fX8_deeper n0) i5 i8 i9 i10 i11 i12 i13 f14 f15 n16 f17 i2 i4)
      unfold bX8_deeper
      refine V_iload_n (dX8_deeper 0 rfl) 1 rfl 1 rfl ?_
      refine V_aload_n (dX8_deeper 1 rfl) 2 rfl 0 rfl ?_
      refine V_get gf_M_30 0 rfl rfl (dX8_deeper 2 rfl) 5 rfl ?_
      refine V_icmp_ne (dX8_deeper 3 rfl) 10 (by decide) 8 rfl ?_ ?_
      · refine V_iconst (0 : Int32) (by decide) (dX8_deeper 6 rfl) 11 rfl ?_
        refine V_istore (dX8_deeper 7 rfl) 13 rfl [(0, .ref q1), (1, .int i2), (2, .ref q3), (3, .int i4), (4, .int (0 : Int32))] (Nat.le_of_ble_eq_true rfl) rfl ?_
        refine vLX8_deeper_L13 hs n0 ihr q1 q6 q7 q3 i5 i8 i9 i10 i11 i12 i13 f14 f15 n16 i2 i4 0 0  600 (0 : Int32) f17
      · refine V_iconst (1 : Int32) (by decide) (dX8_deeper 4 rfl) 9 rfl ?_
        exact V_zret rfl (by decide) (dX8_deeper 5 rfl) ⟨rfl, rfl⟩)
set_option maxRecDepth 20000 in
theorem kX8_deeper {E : EX} {l : Launch} (hl : l.stackTraces = false) (n0 : Nat) (q1 q3 q6 q7 : Nat) (i5 i8 i9 i10 i11 i12 i13 : Int32) (f14 f15 : Nat → Int32) (n16 : Nat) (f17 : Nat → Int32) (i2 i4 : Int32) : Ct E l (mX8_deeper n0) [.ref q1, .int i2, .ref q3, .int i4] [(q1, .inr (9, [.int i5, .ref q6, .ref q7, .int i8, .int i9, .int i10, .int i11, .int i12, .int i13])), (q6, .inl (E.2.1, 81, .inl f14)), (q7, .inl (E.2.1, 81, .inl f15)), (q3, .inl (E.2.1, n16, .inl f17))] (fX8_deeper n0 i5 i8 i9 i10 i11 i12 i13 f14 f15 n16 f17 i2 i4) (zX8_deeper E q1 q6 q7 q3 i5 i8 i9 i10 i11 i12 i13 f14 f15 n16) := k0X8_deeper n0 hl q1 q3 q6 q7 i5 i8 i9 i10 i11 i12 i13 f14 f15 n16 f17 i2 i4
set_option maxRecDepth 20000 in
theorem vBX8_trackBy_L9 {E : EX} {K : KX} (hs : K.l.stackTraces = false) (q1 q4 q5 q14 : Nat) (i3 i6 i7 i8 i9 i10 i11 : Int32) (f12 f13 : Nat → Int32) (i2 : Int32) (n32 : Nat) (bc bs : Nat) (i31 : Int32) (f33 : Nat → Int32) {rec : Int32 → (Nat → Int32) → Option (Option (Nat × (Nat → Int32)))} {k1 : (Nat → Int32) → Option (Option (Nat × (Nat → Int32)))} (hrec : ∀ (i31 : Int32) (f33 : Nat → Int32), V E K mX8_trackBy (Qm E K mX8_trackBy (zX8_trackBy E q1 q4 q5 i3 i6 i7 i8 i9 i10 i11 f12 f13)) (bc) (bs) [(q1, .inr (9, [.int i3, .ref q4, .ref q5, .int i6, .int i7, .int i8, .int i9, .int i10, .int i11])), (q4, .inl (E.2.1, 81, .inl f12)), (q5, .inl (E.2.1, 81, .inl f13)), (q14, .inl (E.2.1, n32, .inl f33))] 9 [(0, .ref q1), (1, .int i2), (2, .ref q14), (3, .int i31)] [] (rec i31 f33)) (hk1 : ∀ (f34 : Nat → Int32), V E K mX8_trackBy (Qm E K mX8_trackBy (zX8_trackBy E q1 q4 q5 i3 i6 i7 i8 i9 i10 i11 f12 f13)) (bc) (bs) [(q1, .inr (9, [.int i3, .ref q4, .ref q5, .int i6, .int i7, .int i8, .int i9, .int i10, .int i11])), (q4, .inl (E.2.1, 81, .inl f12)), (q5, .inl (E.2.1, 81, .inl f13)), (q14, .inl (E.2.1, n32, .inl f34))] 27 [(0, .ref q1), (1, .int i2), (2, .ref q14)] [] (k1 f34)) : V E K mX8_trackBy (Qm E K mX8_trackBy (zX8_trackBy E q1 q4 q5 i3 i6 i7 i8 i9 i10 i11 f12 f13)) (bc) (bs) [(q1, .inr (9, [.int i3, .ref q4, .ref q5, .int i6, .int i7, .int i8, .int i9, .int i10, .int i11])), (q4, .inl (E.2.1, 81, .inl f12)), (q5, .inl (E.2.1, 81, .inl f13)), (q14, .inl (E.2.1, n32, .inl f33))] 9 [(0, .ref q1), (1, .int i2), (2, .ref q14), (3, .int i31)] [] (BX8_trackBy_L9  i3 n32 i31 f33 rec k1) := by
  unfold BX8_trackBy_L9
  refine V_iload_n (dX8_trackBy_p0 6 rfl) 10 rfl 3 rfl ?_
  refine V_aload_n (dX8_trackBy_p0 7 rfl) 11 rfl 0 rfl ?_
  refine V_get gf_M_17 0 rfl rfl (dX8_trackBy_p0 8 rfl) 14 rfl ?_
  refine V_icmp_ge (dX8_trackBy_p0 9 rfl) 27 (by decide) 17 rfl ?_ ?_
  · refine V_pick [0, 1, 2] [(0, .ref q1), (1, .int i2), (2, .ref q14)] rfl ?_
    exact hk1 f33
  · refine V_aload_n (dX8_trackBy_p0 10 rfl) 18 rfl 2 rfl ?_
    refine V_iload_n (dX8_trackBy_p0 11 rfl) 19 rfl 3 rfl ?_
    refine V_iconst (-1 : Int32) (by decide) (dX8_trackBy_p0 12 rfl) 20 rfl ?_
    refine V_iast 3 rfl (dX8_trackBy_p0 13 rfl) 21 rfl [(q1, .inr (9, [.int i3, .ref q4, .ref q5, .int i6, .int i7, .int i8, .int i9, .int i10, .int i11])), (q4, .inl (E.2.1, 81, .inl f12)), (q5, .inl (E.2.1, 81, .inl f13)), (q14, .inl (E.2.1, n32, .inl (upd f33 i31.toNatClampNeg (-1 : Int32))))] rfl ?_
    refine V_iinc (dX8_trackBy_p0 14 rfl) 24 rfl 3 rfl (i31 + (1 : Int32)) rfl [(0, .ref q1), (1, .int i2), (2, .ref q14), (3, .int (i31 + (1 : Int32)))] (Nat.le_of_ble_eq_true rfl) rfl ?_
    refine V_goto (dX8_trackBy_p0 15 rfl) 9 (by decide) ?_
    exact hrec (i31 + (1 : Int32)) (upd f33 i31.toNatClampNeg (-1 : Int32))
set_option maxRecDepth 20000 in
theorem vLX8_trackBy_L9 {E : EX} {K : KX} (hs : K.l.stackTraces = false) (q1 q4 q5 q14 : Nat) (i3 i6 i7 i8 i9 i10 i11 : Int32) (f12 f13 : Nat → Int32) (i2 : Int32) (n32 : Nat) (bc bs : Nat) {k1 : (Nat → Int32) → Option (Option (Nat × (Nat → Int32)))} (hk1 : ∀ (f34 : Nat → Int32), V E K mX8_trackBy (Qm E K mX8_trackBy (zX8_trackBy E q1 q4 q5 i3 i6 i7 i8 i9 i10 i11 f12 f13)) (bc) (bs) [(q1, .inr (9, [.int i3, .ref q4, .ref q5, .int i6, .int i7, .int i8, .int i9, .int i10, .int i11])), (q4, .inl (E.2.1, 81, .inl f12)), (q5, .inl (E.2.1, 81, .inl f13)), (q14, .inl (E.2.1, n32, .inl f34))] 27 [(0, .ref q1), (1, .int i2), (2, .ref q14)] [] (k1 f34)) : ∀ (n : Nat) (i31 : Int32) (f33 : Nat → Int32), V E K mX8_trackBy (Qm E K mX8_trackBy (zX8_trackBy E q1 q4 q5 i3 i6 i7 i8 i9 i10 i11 f12 f13)) (bc) (bs) [(q1, .inr (9, [.int i3, .ref q4, .ref q5, .int i6, .int i7, .int i8, .int i9, .int i10, .int i11])), (q4, .inl (E.2.1, 81, .inl f12)), (q5, .inl (E.2.1, 81, .inl f13)), (q14, .inl (E.2.1, n32, .inl f33))] 9 [(0, .ref q1), (1, .int i2), (2, .ref q14), (3, .int i31)] [] (LX8_trackBy_L9  i3 n32 n i31 f33 k1)
  | 0, _, _ => V_none
  | n + 1, i31, f33 => vBX8_trackBy_L9 hs q1 q4 q5 q14 i3 i6 i7 i8 i9 i10 i11 f12 f13 i2 n32 bc bs i31 f33 (fun i31 f33 => vLX8_trackBy_L9 hs q1 q4 q5 q14 i3 i6 i7 i8 i9 i10 i11 f12 f13 i2 n32 bc bs hk1 n i31 f33) hk1
set_option maxRecDepth 20000 in
theorem vBX8_trackBy_L88 {E : EX} {K : KX} (hs : K.l.stackTraces = false) (q1 q4 q5 q14 : Nat) (i3 i6 i7 i8 i9 i10 i11 : Int32) (f12 f13 : Nat → Int32) (n62 : Nat) (f42 : Nat → Int32) (bc bs : Nat) (i60 i61 : Int32) {rec : Int32 → Int32 → Option (Option (Nat × (Nat → Int32)))} {k1 : Int32 → Option (Option (Nat × (Nat → Int32)))} (hrec : ∀ (i60 i61 : Int32), V E K mX8_trackBy (Qm E K mX8_trackBy (zX8_trackBy E q1 q4 q5 i3 i6 i7 i8 i9 i10 i11 f12 f13)) (bc) (bs) [(q1, .inr (9, [.int i3, .ref q4, .ref q5, .int i6, .int i7, .int i8, .int i9, .int i10, .int i11])), (q4, .inl (E.2.1, 81, .inl f12)), (q5, .inl (E.2.1, 81, .inl f13)), (q14, .inl (E.2.1, n62, .inl f42))] 88 [(0, .ref q1), (2, .ref q14), (3, .int i60), (4, .int i61)] [] (rec i60 i61)) (hk1 : ∀ (i64 : Int32), V E K mX8_trackBy (Qm E K mX8_trackBy (zX8_trackBy E q1 q4 q5 i3 i6 i7 i8 i9 i10 i11 f12 f13)) (bc) (bs) [(q1, .inr (9, [.int i3, .ref q4, .ref q5, .int i6, .int i7, .int i8, .int i9, .int i10, .int i11])), (q4, .inl (E.2.1, 81, .inl f12)), (q5, .inl (E.2.1, 81, .inl f13)), (q14, .inl (E.2.1, n62, .inl f42))] 109 [(0, .ref q1), (2, .ref q14), (3, .int i64)] [] (k1 i64)) : V E K mX8_trackBy (Qm E K mX8_trackBy (zX8_trackBy E q1 q4 q5 i3 i6 i7 i8 i9 i10 i11 f12 f13)) (bc) (bs) [(q1, .inr (9, [.int i3, .ref q4, .ref q5, .int i6, .int i7, .int i8, .int i9, .int i10, .int i11])), (q4, .inl (E.2.1, 81, .inl f12)), (q5, .inl (E.2.1, 81, .inl f13)), (q14, .inl (E.2.1, n62, .inl f42))] 88 [(0, .ref q1), (2, .ref q14), (3, .int i60), (4, .int i61)] [] (BX8_trackBy_L88  i6 n62 f42 i60 i61 rec k1) := by
  unfold BX8_trackBy_L88
  refine V_iload (dX8_trackBy_p0 52 rfl) 90 rfl 3 rfl ?_
  refine V_aload_n (dX8_trackBy_p0 53 rfl) 91 rfl 0 rfl ?_
  refine V_get gf_M_27 0 rfl rfl (dX8_trackBy_p0 54 rfl) 94 rfl ?_
  refine V_icmp_eq (dX8_trackBy_p0 55 rfl) 109 (by decide) 97 rfl ?_ ?_
  · refine V_pick [0, 1, 2] [(0, .ref q1), (2, .ref q14), (3, .int i60)] rfl ?_
    exact hk1 i60
  · refine V_iinc (dX8_trackBy_p0 56 rfl) 100 rfl 2 rfl (i60 + (1 : Int32)) rfl [(0, .ref q1), (2, .ref q14), (3, .int (i60 + (1 : Int32))), (4, .int i61)] (Nat.le_of_ble_eq_true rfl) rfl ?_
    refine V_aload_n (dX8_trackBy_p0 57 rfl) 101 rfl 1 rfl ?_
    refine V_iload (dX8_trackBy_p0 58 rfl) 103 rfl 3 rfl ?_
    refine V_iald 3 rfl (dX8_trackBy_p0 59 rfl) 104 rfl ?_
    refine V_nmI (fun i63 => ?_)
    refine V_istore (dX8_trackBy_p0 60 rfl) 106 rfl [(0, .ref q1), (2, .ref q14), (3, .int (i60 + (1 : Int32))), (4, .int i63)] (Nat.le_of_ble_eq_true rfl) rfl ?_
    refine V_goto (dX8_trackBy_p0 61 rfl) 88 (by decide) ?_
    exact hrec (i60 + (1 : Int32)) i63
set_option maxRecDepth 20000 in
theorem vLX8_trackBy_L88 {E : EX} {K : KX} (hs : K.l.stackTraces = false) (q1 q4 q5 q14 : Nat) (i3 i6 i7 i8 i9 i10 i11 : Int32) (f12 f13 : Nat → Int32) (n62 : Nat) (f42 : Nat → Int32) (bc bs : Nat) {k1 : Int32 → Option (Option (Nat × (Nat → Int32)))} (hk1 : ∀ (i64 : Int32), V E K mX8_trackBy (Qm E K mX8_trackBy (zX8_trackBy E q1 q4 q5 i3 i6 i7 i8 i9 i10 i11 f12 f13)) (bc) (bs) [(q1, .inr (9, [.int i3, .ref q4, .ref q5, .int i6, .int i7, .int i8, .int i9, .int i10, .int i11])), (q4, .inl (E.2.1, 81, .inl f12)), (q5, .inl (E.2.1, 81, .inl f13)), (q14, .inl (E.2.1, n62, .inl f42))] 109 [(0, .ref q1), (2, .ref q14), (3, .int i64)] [] (k1 i64)) : ∀ (n : Nat) (i60 i61 : Int32), V E K mX8_trackBy (Qm E K mX8_trackBy (zX8_trackBy E q1 q4 q5 i3 i6 i7 i8 i9 i10 i11 f12 f13)) (bc) (bs) [(q1, .inr (9, [.int i3, .ref q4, .ref q5, .int i6, .int i7, .int i8, .int i9, .int i10, .int i11])), (q4, .inl (E.2.1, 81, .inl f12)), (q5, .inl (E.2.1, 81, .inl f13)), (q14, .inl (E.2.1, n62, .inl f42))] 88 [(0, .ref q1), (2, .ref q14), (3, .int i60), (4, .int i61)] [] (LX8_trackBy_L88  i6 n62 f42 n i60 i61 k1)
  | 0, _, _ => V_none
  | n + 1, i60, i61 => vBX8_trackBy_L88 hs q1 q4 q5 q14 i3 i6 i7 i8 i9 i10 i11 f12 f13 n62 f42 bc bs i60 i61 (fun i60 i61 => vLX8_trackBy_L88 hs q1 q4 q5 q14 i3 i6 i7 i8 i9 i10 i11 f12 f13 n62 f42 bc bs hk1 n i60 i61) hk1
set_option maxRecDepth 20000 in
theorem vBX8_trackBy_L125 {E : EX} {K : KX} (hs : K.l.stackTraces = false) (q1 q4 q5 q14 q65 : Nat) (i3 i6 i7 i8 i9 i10 i11 : Int32) (f12 f13 : Nat → Int32) (n89 : Nat) (f42 : Nat → Int32) (n90 : Nat) (bc bs : Nat) (i87 i88 : Int32) (f91 : Nat → Int32) {rec : Int32 → Int32 → (Nat → Int32) → Option (Option (Nat × (Nat → Int32)))}  (hrec : ∀ (i87 i88 : Int32) (f91 : Nat → Int32), V E K mX8_trackBy (Qm E K mX8_trackBy (zX8_trackBy E q1 q4 q5 i3 i6 i7 i8 i9 i10 i11 f12 f13)) (bc) (bs) [(q1, .inr (9, [.int i3, .ref q4, .ref q5, .int i6, .int i7, .int i8, .int i9, .int i10, .int i11])), (q4, .inl (E.2.1, 81, .inl f12)), (q5, .inl (E.2.1, 81, .inl f13)), (q14, .inl (E.2.1, n89, .inl f42)), (q65, .inl (E.2.1, n90, .inl f91))] 125 [(2, .ref q14), (4, .ref q65), (5, .int i87), (6, .int i88)] [] (rec i87 i88 f91))  : V E K mX8_trackBy (Qm E K mX8_trackBy (zX8_trackBy E q1 q4 q5 i3 i6 i7 i8 i9 i10 i11 f12 f13)) (bc) (bs) [(q1, .inr (9, [.int i3, .ref q4, .ref q5, .int i6, .int i7, .int i8, .int i9, .int i10, .int i11])), (q4, .inl (E.2.1, 81, .inl f12)), (q5, .inl (E.2.1, 81, .inl f13)), (q14, .inl (E.2.1, n89, .inl f42)), (q65, .inl (E.2.1, n90, .inl f91))] 125 [(2, .ref q14), (4, .ref q65), (5, .int i87), (6, .int i88)] [] (BX8_trackBy_L125  n89 f42 n90 i87 i88 f91 rec ) := by
  unfold BX8_trackBy_L125
  refine V_iload (dX8_trackBy_p1 2 rfl) 127 rfl 3 rfl ?_
  refine V_if_lt (dX8_trackBy_p1 3 rfl) 149 (by decide) 130 rfl ?_ ?_
  · refine V_aload (dX8_trackBy_p1 14 rfl) 151 rfl 1 rfl ?_
    refine V_world [0, 1, 2, 4] [(q1, .inr (9, [.int i3, .ref q4, .ref q5, .int i6, .int i7, .int i8, .int i9, .int i10, .int i11])), (q4, .inl (E.2.1, 81, .inl f12)), (q5, .inl (E.2.1, 81, .inl f13)), (q65, .inl (E.2.1, n90, .inl f91))] rfl rfl rfl ?_
    exact V_aret rfl (Or.inr ⟨_, rfl⟩) (Or.inr ⟨_, rfl⟩) (dX8_trackBy_p1 15 rfl) (Or.inr ⟨n90, f91, q65, rfl, rfl, rfl⟩)
  · refine V_aload (dX8_trackBy_p1 4 rfl) 132 rfl 1 rfl ?_
    refine V_iload (dX8_trackBy_p1 5 rfl) 134 rfl 3 rfl ?_
    refine V_iload (dX8_trackBy_p1 6 rfl) 136 rfl 2 rfl ?_
    refine V_iast 4 rfl (dX8_trackBy_p1 7 rfl) 137 rfl [(q1, .inr (9, [.int i3, .ref q4, .ref q5, .int i6, .int i7, .int i8, .int i9, .int i10, .int i11])), (q4, .inl (E.2.1, 81, .inl f12)), (q5, .inl (E.2.1, 81, .inl f13)), (q14, .inl (E.2.1, n89, .inl f42)), (q65, .inl (E.2.1, n90, .inl (upd f91 i88.toNatClampNeg i87)))] rfl ?_
    refine V_aload_n (dX8_trackBy_p1 8 rfl) 138 rfl 0 rfl ?_
    refine V_iload (dX8_trackBy_p1 9 rfl) 140 rfl 2 rfl ?_
    refine V_iald 3 rfl (dX8_trackBy_p1 10 rfl) 141 rfl ?_
    refine V_nmI (fun i92 => ?_)
    refine V_istore (dX8_trackBy_p1 11 rfl) 143 rfl [(2, .ref q14), (4, .ref q65), (5, .int i92), (6, .int i88)] (Nat.le_of_ble_eq_true rfl) rfl ?_
    refine V_iinc (dX8_trackBy_p1 12 rfl) 146 rfl 3 rfl (i88 + (-1 : Int32)) rfl [(2, .ref q14), (4, .ref q65), (5, .int i92), (6, .int (i88 + (-1 : Int32)))] (Nat.le_of_ble_eq_true rfl) rfl ?_
    refine V_goto (dX8_trackBy_p1 13 rfl) 125 (by decide) ?_
    exact hrec i92 (i88 + (-1 : Int32)) (upd f91 i88.toNatClampNeg i87)
set_option maxRecDepth 20000 in
theorem vLX8_trackBy_L125 {E : EX} {K : KX} (hs : K.l.stackTraces = false) (q1 q4 q5 q14 q65 : Nat) (i3 i6 i7 i8 i9 i10 i11 : Int32) (f12 f13 : Nat → Int32) (n89 : Nat) (f42 : Nat → Int32) (n90 : Nat) (bc bs : Nat)   : ∀ (n : Nat) (i87 i88 : Int32) (f91 : Nat → Int32), V E K mX8_trackBy (Qm E K mX8_trackBy (zX8_trackBy E q1 q4 q5 i3 i6 i7 i8 i9 i10 i11 f12 f13)) (bc) (bs) [(q1, .inr (9, [.int i3, .ref q4, .ref q5, .int i6, .int i7, .int i8, .int i9, .int i10, .int i11])), (q4, .inl (E.2.1, 81, .inl f12)), (q5, .inl (E.2.1, 81, .inl f13)), (q14, .inl (E.2.1, n89, .inl f42)), (q65, .inl (E.2.1, n90, .inl f91))] 125 [(2, .ref q14), (4, .ref q65), (5, .int i87), (6, .int i88)] [] (LX8_trackBy_L125  n89 f42 n90 n i87 i88 f91 )
  | 0, _, _, _ => V_none
  | n + 1, i87, i88, f91 => vBX8_trackBy_L125 hs q1 q4 q5 q14 q65 i3 i6 i7 i8 i9 i10 i11 f12 f13 n89 f42 n90 bc bs i87 i88 f91 (fun i87 i88 f91 => vLX8_trackBy_L125 hs q1 q4 q5 q14 q65 i3 i6 i7 i8 i9 i10 i11 f12 f13 n89 f42 n90 bc bs  n i87 i88 f91) 
set_option maxRecDepth 20000 in
theorem kX8_trackBy {E : EX} {l : Launch} (hl : l.stackTraces = false) (q1 q4 q5 : Nat) (i3 i6 i7 i8 i9 i10 i11 : Int32) (f12 f13 : Nat → Int32) (i2 : Int32) : Ct E l mX8_trackBy [.ref q1, .int i2] [(q1, .inr (9, [.int i3, .ref q4, .ref q5, .int i6, .int i7, .int i8, .int i9, .int i10, .int i11])), (q4, .inl (E.2.1, 81, .inl f12)), (q5, .inl (E.2.1, 81, .inl f13))] (fX8_trackBy i3 i6 i7 i8 i9 i10 i11 f12 f13 i2) (zX8_trackBy E q1 q4 q5 i3 i6 i7 i8 i9 i10 i11 f12 f13) := Ct_of hl mf_X8_trackBy.1 (Nat.le_of_ble_eq_true rfl) (fun K hs => by
  refine V_less 3 48 (Nat.le_refl _) (Nat.le_refl _) ?_
  refine V_pick [0, 1] [(0, .ref q1), (1, .int i2)] rfl ?_
  unfold fX8_trackBy
  refine V_aload_n (dX8_trackBy_p0 0 rfl) 1 rfl 0 rfl ?_
  refine V_get gf_M_17 0 rfl rfl (dX8_trackBy_p0 1 rfl) 4 rfl ?_
  refine V_newi (by decide) tw_116 (dX8_trackBy_p0 2 rfl) 6 rfl 2 32 (show 2 + 1 ≤ 3 from Nat.le_of_ble_eq_true rfl) (show 32 + 16 ≤ 48 from Nat.le_of_ble_eq_true rfl) (fun q14 => ?_)
  refine V_eqW (ws2 := [(q1, .inr (9, [.int i3, .ref q4, .ref q5, .int i6, .int i7, .int i8, .int i9, .int i10, .int i11])), (q4, .inl (E.2.1, 81, .inl f12)), (q5, .inl (E.2.1, 81, .inl f13)), (q14, .inl (E.2.1, i3.toNatClampNeg, .inl (fun _ => 0)))]) rfl ?_
  refine V_astore_n (dX8_trackBy_p0 3 rfl) 7 rfl [(0, .ref q1), (1, .int i2), (2, .ref q14)] (Nat.le_of_ble_eq_true rfl) rfl ?_
  refine V_iconst (0 : Int32) (by decide) (dX8_trackBy_p0 4 rfl) 8 rfl ?_
  refine V_istore_n (dX8_trackBy_p0 5 rfl) 9 rfl [(0, .ref q1), (1, .int i2), (2, .ref q14), (3, .int (0 : Int32))] (Nat.le_of_ble_eq_true rfl) rfl ?_
  refine vLX8_trackBy_L9 hs q1 q4 q5 q14 i3 i6 i7 i8 i9 i10 i11 f12 f13 i2 i3.toNatClampNeg 2 32 ?_ 600 (0 : Int32) (fun _ => 0)
  intro f34
  show V E K mX8_trackBy (Qm E K mX8_trackBy (zX8_trackBy E q1 q4 q5 i3 i6 i7 i8 i9 i10 i11 f12 f13)) 2 32 [(q1, .inr (9, [.int i3, .ref q4, .ref q5, .int i6, .int i7, .int i8, .int i9, .int i10, .int i11])), (q4, .inl (E.2.1, 81, .inl f12)), (q5, .inl (E.2.1, 81, .inl f13)), (q14, .inl (E.2.1, i3.toNatClampNeg, .inl f34))] 27 [(0, .ref q1), (1, .int i2), (2, .ref q14)] [] _
  refine V_aload_n (dX8_trackBy_p0 16 rfl) 28 rfl 2 rfl ?_
  refine V_aload_n (dX8_trackBy_p0 17 rfl) 29 rfl 0 rfl ?_
  refine V_get gf_M_27 0 rfl rfl (dX8_trackBy_p0 18 rfl) 32 rfl ?_
  refine V_aload_n (dX8_trackBy_p0 19 rfl) 33 rfl 0 rfl ?_
  refine V_get gf_M_27 0 rfl rfl (dX8_trackBy_p0 20 rfl) 36 rfl ?_
  refine V_iast 3 rfl (dX8_trackBy_p0 21 rfl) 37 rfl [(q1, .inr (9, [.int i3, .ref q4, .ref q5, .int i6, .int i7, .int i8, .int i9, .int i10, .int i11])), (q4, .inl (E.2.1, 81, .inl f12)), (q5, .inl (E.2.1, 81, .inl f13)), (q14, .inl (E.2.1, i3.toNatClampNeg, .inl (upd f34 i6.toNatClampNeg i6)))] rfl ?_
  refine V_iload_n (dX8_trackBy_p0 22 rfl) 38 rfl 1 rfl ?_
  refine V_jn (fun (k35 : (Nat → Int32) → Option (Option (Nat × (Nat → Int32)))) => ∀ (f42 : Nat → Int32), V E K mX8_trackBy (Qm E K mX8_trackBy (zX8_trackBy E q1 q4 q5 i3 i6 i7 i8 i9 i10 i11 f12 f13)) 1 16 [(q1, .inr (9, [.int i3, .ref q4, .ref q5, .int i6, .int i7, .int i8, .int i9, .int i10, .int i11])), (q4, .inl (E.2.1, 81, .inl f12)), (q5, .inl (E.2.1, 81, .inl f13)), (q14, .inl (E.2.1, i3.toNatClampNeg, .inl f42))] 69 [(0, .ref q1), (2, .ref q14)] [] (k35 f42)) ?_ ?_
  · intro f42
    show V E K mX8_trackBy (Qm E K mX8_trackBy (zX8_trackBy E q1 q4 q5 i3 i6 i7 i8 i9 i10 i11 f12 f13)) 1 16 [(q1, .inr (9, [.int i3, .ref q4, .ref q5, .int i6, .int i7, .int i8, .int i9, .int i10, .int i11])), (q4, .inl (E.2.1, 81, .inl f12)), (q5, .inl (E.2.1, 81, .inl f13)), (q14, .inl (E.2.1, i3.toNatClampNeg, .inl f42))] 69 [(0, .ref q1), (2, .ref q14)] [] _
    refine V_aload_n (dX8_trackBy_p0 40 rfl) 70 rfl 1 rfl ?_
    refine V_aload_n (dX8_trackBy_p0 41 rfl) 71 rfl 0 rfl ?_
    refine V_get gf_M_30 0 rfl rfl (dX8_trackBy_p0 42 rfl) 74 rfl ?_
    refine V_iald 3 rfl (dX8_trackBy_p0 43 rfl) 75 rfl ?_
    refine V_if_ge (dX8_trackBy_p0 44 rfl) 80 (by decide) 78 rfl ?_ ?_
    · refine V_iconst (1 : Int32) (by decide) (dX8_trackBy_p0 47 rfl) 81 rfl ?_
      refine V_istore_n (dX8_trackBy_p0 48 rfl) 82 rfl [(0, .ref q1), (2, .ref q14), (3, .int (1 : Int32))] (Nat.le_of_ble_eq_true rfl) rfl ?_
      refine V_aload_n (dX8_trackBy_p0 49 rfl) 83 rfl 0 rfl ?_
      refine V_get gf_M_30 0 rfl rfl (dX8_trackBy_p0 50 rfl) 86 rfl ?_
      refine V_istore (dX8_trackBy_p0 51 rfl) 88 rfl [(0, .ref q1), (2, .ref q14), (3, .int (1 : Int32)), (4, .int i7)] (Nat.le_of_ble_eq_true rfl) rfl ?_
      refine vLX8_trackBy_L88 hs q1 q4 q5 q14 i3 i6 i7 i8 i9 i10 i11 f12 f13 i3.toNatClampNeg f42 1 16 ?_ 600 (1 : Int32) i7
      intro i64
      show V E K mX8_trackBy (Qm E K mX8_trackBy (zX8_trackBy E q1 q4 q5 i3 i6 i7 i8 i9 i10 i11 f12 f13)) 1 16 [(q1, .inr (9, [.int i3, .ref q4, .ref q5, .int i6, .int i7, .int i8, .int i9, .int i10, .int i11])), (q4, .inl (E.2.1, 81, .inl f12)), (q5, .inl (E.2.1, 81, .inl f13)), (q14, .inl (E.2.1, i3.toNatClampNeg, .inl f42))] 109 [(0, .ref q1), (2, .ref q14), (3, .int i64)] [] _
      refine V_iload_n (dX8_trackBy_p0 62 rfl) 110 rfl 2 rfl ?_
      refine V_newi (by decide) tw_116 (dX8_trackBy_p0 63 rfl) 112 rfl 0 0 (show 0 + 1 ≤ 1 from Nat.le_of_ble_eq_true rfl) (show 0 + 16 ≤ 16 from Nat.le_of_ble_eq_true rfl) (fun q65 => ?_)
      refine V_eqW (ws2 := [(q1, .inr (9, [.int i3, .ref q4, .ref q5, .int i6, .int i7, .int i8, .int i9, .int i10, .int i11])), (q4, .inl (E.2.1, 81, .inl f12)), (q5, .inl (E.2.1, 81, .inl f13)), (q14, .inl (E.2.1, i3.toNatClampNeg, .inl f42)), (q65, .inl (E.2.1, i64.toNatClampNeg, .inl (fun _ => 0)))]) rfl ?_
      refine V_astore (dX8_trackBy_p0 64 rfl) 114 rfl [(0, .ref q1), (2, .ref q14), (3, .int i64), (4, .ref q65)] (Nat.le_of_ble_eq_true rfl) rfl ?_
      refine V_aload_n (dX8_trackBy_p0 65 rfl) 115 rfl 0 rfl ?_
      refine V_get gf_M_30 0 rfl rfl (dX8_trackBy_p0 66 rfl) 118 rfl ?_
      refine V_istore (dX8_trackBy_p0 67 rfl) 120 rfl [(0, .ref q1), (2, .ref q14), (3, .int i64), (4, .ref q65), (5, .int i7)] (Nat.le_of_ble_eq_true rfl) rfl ?_
      refine V_iload_n (dX8_trackBy_p0 68 rfl) 121 rfl 2 rfl ?_
      refine V_iconst (1 : Int32) (by decide) (dX8_trackBy_p0 69 rfl) 122 rfl ?_
      refine V_isub (dX8_trackBy_p1 0 rfl) 123 rfl ?_
      refine V_nmI (fun i66 => ?_)
      refine V_istore (dX8_trackBy_p1 1 rfl) 125 rfl [(0, .ref q1), (2, .ref q14), (3, .int i64), (4, .ref q65), (5, .int i7), (6, .int i66)] (Nat.le_of_ble_eq_true rfl) rfl ?_
      refine V_pick [1, 3, 4, 5] [(2, .ref q14), (4, .ref q65), (5, .int i7), (6, .int i66)] rfl ?_
      refine vLX8_trackBy_L125 hs q1 q4 q5 q14 q65 i3 i6 i7 i8 i9 i10 i11 f12 f13 i3.toNatClampNeg f42 i64.toNatClampNeg 0 0  600 i7 i66 (fun _ => 0)
    · refine V_null (dX8_trackBy_p0 45 rfl) 79 rfl ?_
      refine V_world [0, 1, 2] [(q1, .inr (9, [.int i3, .ref q4, .ref q5, .int i6, .int i7, .int i8, .int i9, .int i10, .int i11])), (q4, .inl (E.2.1, 81, .inl f12)), (q5, .inl (E.2.1, 81, .inl f13))] rfl rfl rfl ?_
      exact V_aret rfl (Or.inr ⟨_, rfl⟩) (Or.inl rfl) (dX8_trackBy_p0 46 rfl) (Or.inl ⟨rfl, rfl, rfl⟩)
  · intro k35 hk36
    refine V_if_ne (dX8_trackBy_p0 23 rfl) 49 (by decide) 41 rfl ?_ ?_
    · refine V_aload_n (dX8_trackBy_p0 28 rfl) 50 rfl 0 rfl ?_
      refine V_aload_n (dX8_trackBy_p0 29 rfl) 51 rfl 0 rfl ?_
      refine V_get gf_M_27 0 rfl rfl (dX8_trackBy_p0 30 rfl) 54 rfl ?_
      refine V_aload_n (dX8_trackBy_p0 31 rfl) 55 rfl 2 rfl ?_
      refine V_iload_n (dX8_trackBy_p0 32 rfl) 56 rfl 1 rfl ?_
      refine V_iconst (2 : Int32) (by decide) (dX8_trackBy_p0 33 rfl) 57 rfl ?_
      refine V_jn (fun (k37 : Int32 → Option (Option (Nat × (Nat → Int32)))) => ∀ (i39 : Int32), V E K mX8_trackBy (Qm E K mX8_trackBy (zX8_trackBy E q1 q4 q5 i3 i6 i7 i8 i9 i10 i11 f12 f13)) 1 16 [(q1, .inr (9, [.int i3, .ref q4, .ref q5, .int i6, .int i7, .int i8, .int i9, .int i10, .int i11])), (q4, .inl (E.2.1, 81, .inl f12)), (q5, .inl (E.2.1, 81, .inl f13)), (q14, .inl (E.2.1, i3.toNatClampNeg, .inl (upd f34 i6.toNatClampNeg i6)))] 65 [(0, .ref q1), (2, .ref q14)] [.int i39, .ref q14, .int i6, .ref q1] (k37 i39)) ?_ ?_
      · intro i39
        show V E K mX8_trackBy (Qm E K mX8_trackBy (zX8_trackBy E q1 q4 q5 i3 i6 i7 i8 i9 i10 i11 f12 f13)) 1 16 [(q1, .inr (9, [.int i3, .ref q4, .ref q5, .int i6, .int i7, .int i8, .int i9, .int i10, .int i11])), (q4, .inl (E.2.1, 81, .inl f12)), (q5, .inl (E.2.1, 81, .inl f13)), (q14, .inl (E.2.1, i3.toNatClampNeg, .inl (upd f34 i6.toNatClampNeg i6)))] 65 [(0, .ref q1), (2, .ref q14)] [.int i39, .ref q14, .int i6, .ref q1] _
        refine V_callV (M := mX8_trackBy) (wcs := [(q1, .inr (9, [.int i3, .ref q4, .ref q5, .int i6, .int i7, .int i8, .int i9, .int i10, .int i11])), (q4, .inl (E.2.1, 81, .inl f12)), (q5, .inl (E.2.1, 81, .inl f13)), (q14, .inl (E.2.1, i3.toNatClampNeg, .inl (upd f34 i6.toNatClampNeg i6)))]) (wr := []) (mf_X8_deeper 11) tw_1392 tw_1394 tw_43 ⟨Nat.le_of_ble_eq_true rfl, Nat.le_of_ble_eq_true rfl⟩ (dX8_trackBy_p0 38 rfl) 68 rfl (kX8_deeper hs 11 q1 q14 q4 q5 i3 i6 i7 i8 i9 i10 i11 f12 f13 i3.toNatClampNeg (upd f34 i6.toNatClampNeg i6) i6 i39) rfl [0, 1, 2, 3] [] (q0 := 0) rfl rfl rfl rfl (by decide) rfl rfl rfl rfl (Nat.le_of_ble_eq_true rfl) 1 16 (show 1 + 0 ≤ 1 from Nat.le_of_ble_eq_true rfl) (show 16 + 0 ≤ 16 from Nat.le_of_ble_eq_true rfl) (fun z40 v w hz => ?_)
        obtain ⟨rfl, rfl⟩ := hz
        show V E K mX8_trackBy (Qm E K mX8_trackBy (zX8_trackBy E q1 q4 q5 i3 i6 i7 i8 i9 i10 i11 f12 f13)) 1 16 [(q1, .inr (9, [.int i3, .ref q4, .ref q5, .int i6, .int i7, .int i8, .int i9, .int i10, .int i11])), (q4, .inl (E.2.1, 81, .inl f12)), (q5, .inl (E.2.1, 81, .inl f13)), (q14, .inl (E.2.1, i3.toNatClampNeg, .inl z40.2))] 68 [(0, .ref q1), (2, .ref q14)] [.int z40.1] _
        refine V_pop rfl (dX8_trackBy_p0 39 rfl) 69 rfl ?_
        exact hk36 z40.2
      · intro k37 hk38
        refine V_icmp_ne (dX8_trackBy_p0 34 rfl) 64 (by decide) 60 rfl ?_ ?_
        · refine V_iconst (0 : Int32) (by decide) (dX8_trackBy_p0 37 rfl) 65 rfl ?_
          refine V_less 1 16 (show 1 ≤ 2 from Nat.le_of_ble_eq_true rfl) (show 16 ≤ 32 from Nat.le_of_ble_eq_true rfl) ?_
          refine V_pick [0, 2] [(0, .ref q1), (2, .ref q14)] rfl ?_
          exact hk38 (0 : Int32)
        · refine V_iconst (1 : Int32) (by decide) (dX8_trackBy_p0 35 rfl) 61 rfl ?_
          refine V_goto (dX8_trackBy_p0 36 rfl) 65 (by decide) ?_
          refine V_less 1 16 (show 1 ≤ 2 from Nat.le_of_ble_eq_true rfl) (show 16 ≤ 32 from Nat.le_of_ble_eq_true rfl) ?_
          refine V_pick [0, 2] [(0, .ref q1), (2, .ref q14)] rfl ?_
          exact hk38 (1 : Int32)
    · refine V_aload_n (dX8_trackBy_p0 24 rfl) 42 rfl 0 rfl ?_
      refine V_aload_n (dX8_trackBy_p0 25 rfl) 43 rfl 2 rfl ?_
      refine V_callV (M := mX8_trackBy) (wcs := [(q1, .inr (9, [.int i3, .ref q4, .ref q5, .int i6, .int i7, .int i8, .int i9, .int i10, .int i11])), (q4, .inl (E.2.1, 81, .inl f12)), (q5, .inl (E.2.1, 81, .inl f13)), (q14, .inl (E.2.1, i3.toNatClampNeg, .inl (upd f34 i6.toNatClampNeg i6)))]) (wr := []) mf_X8_byLayers tw_1384 tw_1386 tw_41 ⟨Nat.le_of_ble_eq_true rfl, Nat.le_of_ble_eq_true rfl⟩ (dX8_trackBy_p0 26 rfl) 46 rfl (kX8_byLayers hs q1 q14 q4 q5 i3 i6 i7 i8 i9 i10 i11 f12 f13 i3.toNatClampNeg (upd f34 i6.toNatClampNeg i6)) rfl [0, 1, 2, 3] [] (q0 := 0) rfl rfl rfl rfl (by decide) rfl rfl rfl rfl (Nat.le_of_ble_eq_true rfl) 1 16 (show 1 + 1 ≤ 2 from Nat.le_of_ble_eq_true rfl) (show 16 + 16 ≤ 32 from Nat.le_of_ble_eq_true rfl) (fun z41 v w hz => ?_)
      obtain ⟨rfl, rfl⟩ := hz
      show V E K mX8_trackBy (Qm E K mX8_trackBy (zX8_trackBy E q1 q4 q5 i3 i6 i7 i8 i9 i10 i11 f12 f13)) 1 16 [(q1, .inr (9, [.int i3, .ref q4, .ref q5, .int i6, .int i7, .int i8, .int i9, .int i10, .int i11])), (q4, .inl (E.2.1, 81, .inl f12)), (q5, .inl (E.2.1, 81, .inl f13)), (q14, .inl (E.2.1, i3.toNatClampNeg, .inl z41))] 46 [(0, .ref q1), (1, .int i2), (2, .ref q14)] [] _
      refine V_goto (dX8_trackBy_p0 27 rfl) 69 (by decide) ?_
      refine V_pick [0, 2] [(0, .ref q1), (2, .ref q14)] rfl ?_
      exact hk36 z41)
set_option maxRecDepth 20000 in
theorem vBX8_stepNow_L18 {E : EX} {K : KX} (hs : K.l.stackTraces = false) (q1 q4 q5 q17 : Nat) (i3 i6 i7 i8 i9 i10 i11 : Int32) (f12 f13 : Nat → Int32) (n15 : Nat) (f16 : Nat → Int32) (bc bs : Nat) (i36 i37 : Int32) {rec : Int32 → Int32 → Option (Int32 × (Nat → Int32))} {k1 : Int32 → Option (Int32 × (Nat → Int32))} (hrec : ∀ (i36 i37 : Int32), V E K mX8_stepNow (Qm E K mX8_stepNow (zX8_stepNow E q1 q4 q5 i3 i6 i7 i8 i9 i10 i11 f12)) (bc) (bs) [(q1, .inr (9, [.int i3, .ref q4, .ref q5, .int i6, .int i7, .int i8, .int i9, .int i10, .int i11])), (q4, .inl (E.2.1, 81, .inl f12)), (q5, .inl (E.2.1, 81, .inl f13)), (q17, .inl (E.2.1, n15, .inl f16))] 18 [(0, .ref q1), (2, .ref q17), (3, .int i36), (4, .int i37)] [] (rec i36 i37)) (hk1 : ∀ (i40 : Int32), V E K mX8_stepNow (Qm E K mX8_stepNow (zX8_stepNow E q1 q4 q5 i3 i6 i7 i8 i9 i10 i11 f12)) (bc) (bs) [(q1, .inr (9, [.int i3, .ref q4, .ref q5, .int i6, .int i7, .int i8, .int i9, .int i10, .int i11])), (q4, .inl (E.2.1, 81, .inl f12)), (q5, .inl (E.2.1, 81, .inl f13)), (q17, .inl (E.2.1, n15, .inl f16))] 50 [(0, .ref q1), (2, .ref q17), (3, .int i40)] [] (k1 i40)) : V E K mX8_stepNow (Qm E K mX8_stepNow (zX8_stepNow E q1 q4 q5 i3 i6 i7 i8 i9 i10 i11 f12)) (bc) (bs) [(q1, .inr (9, [.int i3, .ref q4, .ref q5, .int i6, .int i7, .int i8, .int i9, .int i10, .int i11])), (q4, .inl (E.2.1, 81, .inl f12)), (q5, .inl (E.2.1, 81, .inl f13)), (q17, .inl (E.2.1, n15, .inl f16))] 18 [(0, .ref q1), (2, .ref q17), (3, .int i36), (4, .int i37)] [] (BX8_stepNow_L18  f12 f13 n15 f16 i36 i37 rec k1) := by
  unfold BX8_stepNow_L18
  refine V_iload (dX8_stepNow 12 rfl) 20 rfl 3 rfl ?_
  refine V_aload_n (dX8_stepNow 13 rfl) 21 rfl 1 rfl ?_
  refine V_alen 3 rfl (Int32.ofNat n15) rfl (dX8_stepNow 14 rfl) 22 rfl ?_
  refine V_icmp_ge (dX8_stepNow 15 rfl) 50 (by decide) 25 rfl ?_ ?_
  · refine V_pick [0, 1, 2] [(0, .ref q1), (2, .ref q17), (3, .int i36)] rfl ?_
    exact hk1 i36
  · refine V_iload_n (dX8_stepNow 16 rfl) 26 rfl 2 rfl ?_
    refine V_aload_n (dX8_stepNow 17 rfl) 27 rfl 0 rfl ?_
    refine V_aload_n (dX8_stepNow 18 rfl) 28 rfl 1 rfl ?_
    refine V_iload (dX8_stepNow 19 rfl) 30 rfl 3 rfl ?_
    refine V_iconst (1 : Int32) (by decide) (dX8_stepNow 20 rfl) 31 rfl ?_
    refine V_isub (dX8_stepNow 21 rfl) 32 rfl ?_
    refine V_iald 3 rfl (dX8_stepNow 22 rfl) 33 rfl ?_
    refine V_aload_n (dX8_stepNow 23 rfl) 34 rfl 1 rfl ?_
    refine V_iload (dX8_stepNow 24 rfl) 36 rfl 3 rfl ?_
    refine V_iald 3 rfl (dX8_stepNow 25 rfl) 37 rfl ?_
    refine V_callV (M := mX8_stepNow) (wcs := [(q1, .inr (9, [.int i3, .ref q4, .ref q5, .int i6, .int i7, .int i8, .int i9, .int i10, .int i11])), (q4, .inl (E.2.1, 81, .inl f12)), (q5, .inl (E.2.1, 81, .inl f13))]) (wr := [(q17, .inl (E.2.1, n15, .inl f16))]) mf_X8_left tw_1388 tw_1390 tw_42 ⟨Nat.le_of_ble_eq_true rfl, Nat.le_of_ble_eq_true rfl⟩ (dX8_stepNow 26 rfl) 40 rfl (kX8_left hs q1 q4 q5 i3 i6 i7 i8 i9 i10 i11 f12 f13 (f16 (i37 - (1 : Int32)).toNatClampNeg) (f16 i37.toNatClampNeg)) rfl [0, 1, 2] [3] (q0 := 0) rfl rfl rfl rfl (by decide) rfl rfl rfl rfl (Nat.le_of_ble_eq_true rfl) (bc) (bs) (show (bc) + 0 ≤ (bc) by omega) (show (bs) + 0 ≤ (bs) by omega) (fun z38 v w hz => ?_)
    obtain ⟨rfl, rfl⟩ := hz
    show V E K mX8_stepNow (Qm E K mX8_stepNow (zX8_stepNow E q1 q4 q5 i3 i6 i7 i8 i9 i10 i11 f12)) (bc) (bs) [(q17, .inl (E.2.1, n15, .inl f16)), (q1, .inr (9, [.int i3, .ref q4, .ref q5, .int i6, .int i7, .int i8, .int i9, .int i10, .int i11])), (q4, .inl (E.2.1, 81, .inl f12)), (q5, .inl (E.2.1, 81, .inl f13))] 40 [(0, .ref q1), (2, .ref q17), (3, .int i36), (4, .int i37)] [.int z38, .int i36] _
    refine V_mmin tw_1397 tw_341 tw_82 tw_342 (Nat.le_of_ble_eq_true rfl) (Nat.le_of_ble_eq_true rfl) (dX8_stepNow 27 rfl) 43 rfl ?_
    refine V_nmI (fun i39 => ?_)
    refine V_istore_n (dX8_stepNow 28 rfl) 44 rfl [(0, .ref q1), (2, .ref q17), (3, .int i39), (4, .int i37)] (Nat.le_of_ble_eq_true rfl) rfl ?_
    refine V_iinc (dX8_stepNow 29 rfl) 47 rfl 3 rfl (i37 + (1 : Int32)) rfl [(0, .ref q1), (2, .ref q17), (3, .int i39), (4, .int (i37 + (1 : Int32)))] (Nat.le_of_ble_eq_true rfl) rfl ?_
    refine V_goto (dX8_stepNow 30 rfl) 18 (by decide) ?_
    refine V_world [1, 2, 3, 0] [(q1, .inr (9, [.int i3, .ref q4, .ref q5, .int i6, .int i7, .int i8, .int i9, .int i10, .int i11])), (q4, .inl (E.2.1, 81, .inl f12)), (q5, .inl (E.2.1, 81, .inl f13)), (q17, .inl (E.2.1, n15, .inl f16))] rfl rfl rfl ?_
    exact hrec i39 (i37 + (1 : Int32))
set_option maxRecDepth 20000 in
theorem vLX8_stepNow_L18 {E : EX} {K : KX} (hs : K.l.stackTraces = false) (q1 q4 q5 q17 : Nat) (i3 i6 i7 i8 i9 i10 i11 : Int32) (f12 f13 : Nat → Int32) (n15 : Nat) (f16 : Nat → Int32) (bc bs : Nat) {k1 : Int32 → Option (Int32 × (Nat → Int32))} (hk1 : ∀ (i40 : Int32), V E K mX8_stepNow (Qm E K mX8_stepNow (zX8_stepNow E q1 q4 q5 i3 i6 i7 i8 i9 i10 i11 f12)) (bc) (bs) [(q1, .inr (9, [.int i3, .ref q4, .ref q5, .int i6, .int i7, .int i8, .int i9, .int i10, .int i11])), (q4, .inl (E.2.1, 81, .inl f12)), (q5, .inl (E.2.1, 81, .inl f13)), (q17, .inl (E.2.1, n15, .inl f16))] 50 [(0, .ref q1), (2, .ref q17), (3, .int i40)] [] (k1 i40)) : ∀ (n : Nat) (i36 i37 : Int32), V E K mX8_stepNow (Qm E K mX8_stepNow (zX8_stepNow E q1 q4 q5 i3 i6 i7 i8 i9 i10 i11 f12)) (bc) (bs) [(q1, .inr (9, [.int i3, .ref q4, .ref q5, .int i6, .int i7, .int i8, .int i9, .int i10, .int i11])), (q4, .inl (E.2.1, 81, .inl f12)), (q5, .inl (E.2.1, 81, .inl f13)), (q17, .inl (E.2.1, n15, .inl f16))] 18 [(0, .ref q1), (2, .ref q17), (3, .int i36), (4, .int i37)] [] (LX8_stepNow_L18  f12 f13 n15 f16 n i36 i37 k1)
  | 0, _, _ => V_none
  | n + 1, i36, i37 => vBX8_stepNow_L18 hs q1 q4 q5 q17 i3 i6 i7 i8 i9 i10 i11 f12 f13 n15 f16 bc bs i36 i37 (fun i36 i37 => vLX8_stepNow_L18 hs q1 q4 q5 q17 i3 i6 i7 i8 i9 i10 i11 f12 f13 n15 f16 bc bs hk1 n i36 i37) hk1
set_option maxRecDepth 20000 in
theorem vBX8_stepNow_L53 {E : EX} {K : KX} (hs : K.l.stackTraces = false) (q1 q4 q5 q17 : Nat) (i3 i6 i7 i8 i9 i10 i11 : Int32) (f12 : Nat → Int32) (i40 : Int32) (n15 : Nat) (f16 : Nat → Int32) (bc bs : Nat) (i58 : Int32) (f59 : Nat → Int32) {rec : Int32 → (Nat → Int32) → Option (Int32 × (Nat → Int32))}  (hrec : ∀ (i58 : Int32) (f59 : Nat → Int32), V E K mX8_stepNow (Qm E K mX8_stepNow (zX8_stepNow E q1 q4 q5 i3 i6 i7 i8 i9 i10 i11 f12)) (bc) (bs) [(q1, .inr (9, [.int i3, .ref q4, .ref q5, .int i6, .int i7, .int i8, .int i9, .int i10, .int i11])), (q4, .inl (E.2.1, 81, .inl f12)), (q5, .inl (E.2.1, 81, .inl f59)), (q17, .inl (E.2.1, n15, .inl f16))] 53 [(0, .ref q1), (2, .ref q17), (3, .int i40), (4, .int i58)] [] (rec i58 f59))  : V E K mX8_stepNow (Qm E K mX8_stepNow (zX8_stepNow E q1 q4 q5 i3 i6 i7 i8 i9 i10 i11 f12)) (bc) (bs) [(q1, .inr (9, [.int i3, .ref q4, .ref q5, .int i6, .int i7, .int i8, .int i9, .int i10, .int i11])), (q4, .inl (E.2.1, 81, .inl f12)), (q5, .inl (E.2.1, 81, .inl f59)), (q17, .inl (E.2.1, n15, .inl f16))] 53 [(0, .ref q1), (2, .ref q17), (3, .int i40), (4, .int i58)] [] (BX8_stepNow_L53  i40 n15 f16 i58 f59 rec ) := by
  unfold BX8_stepNow_L53
  refine V_iload (dX8_stepNow 33 rfl) 55 rfl 3 rfl ?_
  refine V_aload_n (dX8_stepNow 34 rfl) 56 rfl 1 rfl ?_
  refine V_alen 3 rfl (Int32.ofNat n15) rfl (dX8_stepNow 35 rfl) 57 rfl ?_
  refine V_icmp_ge (dX8_stepNow 36 rfl) 81 (by decide) 60 rfl ?_ ?_
  · refine V_iload_n (dX8_stepNow 50 rfl) 82 rfl 2 rfl ?_
    refine V_world [0, 1, 2] [(q1, .inr (9, [.int i3, .ref q4, .ref q5, .int i6, .int i7, .int i8, .int i9, .int i10, .int i11])), (q4, .inl (E.2.1, 81, .inl f12)), (q5, .inl (E.2.1, 81, .inl f59))] rfl rfl rfl ?_
    exact V_iret rfl (dX8_stepNow 51 rfl) ⟨rfl, rfl⟩
  · refine V_aload_n (dX8_stepNow 37 rfl) 61 rfl 0 rfl ?_
    refine V_aload_n (dX8_stepNow 38 rfl) 62 rfl 1 rfl ?_
    refine V_iload (dX8_stepNow 39 rfl) 64 rfl 3 rfl ?_
    refine V_iconst (1 : Int32) (by decide) (dX8_stepNow 40 rfl) 65 rfl ?_
    refine V_isub (dX8_stepNow 41 rfl) 66 rfl ?_
    refine V_iald 3 rfl (dX8_stepNow 42 rfl) 67 rfl ?_
    refine V_aload_n (dX8_stepNow 43 rfl) 68 rfl 1 rfl ?_
    refine V_iload (dX8_stepNow 44 rfl) 70 rfl 3 rfl ?_
    refine V_iald 3 rfl (dX8_stepNow 45 rfl) 71 rfl ?_
    refine V_iload_n (dX8_stepNow 46 rfl) 72 rfl 2 rfl ?_
    refine V_callV (M := mX8_stepNow) (wcs := [(q1, .inr (9, [.int i3, .ref q4, .ref q5, .int i6, .int i7, .int i8, .int i9, .int i10, .int i11])), (q5, .inl (E.2.1, 81, .inl f59))]) (wr := [(q4, .inl (E.2.1, 81, .inl f12)), (q17, .inl (E.2.1, n15, .inl f16))]) mf_X8_flowOn tw_1398 tw_1400 tw_44 ⟨Nat.le_of_ble_eq_true rfl, Nat.le_of_ble_eq_true rfl⟩ (dX8_stepNow 47 rfl) 75 rfl (kX8_flowOn hs q1 q5 i3 (.ref q4) i6 i7 i8 i9 i10 i11 f59 (f16 (i58 - (1 : Int32)).toNatClampNeg) (f16 i58.toNatClampNeg) i40) rfl [0, 2] [1, 3] (q0 := 0) rfl rfl rfl rfl (by decide) rfl rfl rfl rfl (Nat.le_of_ble_eq_true rfl) (bc) (bs) (show (bc) + 0 ≤ (bc) by omega) (show (bs) + 0 ≤ (bs) by omega) (fun z60 v w hz => ?_)
    obtain ⟨rfl, rfl⟩ := hz
    show V E K mX8_stepNow (Qm E K mX8_stepNow (zX8_stepNow E q1 q4 q5 i3 i6 i7 i8 i9 i10 i11 f12)) (bc) (bs) [(q4, .inl (E.2.1, 81, .inl f12)), (q17, .inl (E.2.1, n15, .inl f16)), (q1, .inr (9, [.int i3, .ref q4, .ref q5, .int i6, .int i7, .int i8, .int i9, .int i10, .int i11])), (q5, .inl (E.2.1, 81, .inl z60))] 75 [(0, .ref q1), (2, .ref q17), (3, .int i40), (4, .int i58)] [] _
    refine V_iinc (dX8_stepNow 48 rfl) 78 rfl 3 rfl (i58 + (1 : Int32)) rfl [(0, .ref q1), (2, .ref q17), (3, .int i40), (4, .int (i58 + (1 : Int32)))] (Nat.le_of_ble_eq_true rfl) rfl ?_
    refine V_goto (dX8_stepNow 49 rfl) 53 (by decide) ?_
    refine V_world [2, 0, 3, 1] [(q1, .inr (9, [.int i3, .ref q4, .ref q5, .int i6, .int i7, .int i8, .int i9, .int i10, .int i11])), (q4, .inl (E.2.1, 81, .inl f12)), (q5, .inl (E.2.1, 81, .inl z60)), (q17, .inl (E.2.1, n15, .inl f16))] rfl rfl rfl ?_
    exact hrec (i58 + (1 : Int32)) z60
set_option maxRecDepth 20000 in
theorem vLX8_stepNow_L53 {E : EX} {K : KX} (hs : K.l.stackTraces = false) (q1 q4 q5 q17 : Nat) (i3 i6 i7 i8 i9 i10 i11 : Int32) (f12 : Nat → Int32) (i40 : Int32) (n15 : Nat) (f16 : Nat → Int32) (bc bs : Nat)   : ∀ (n : Nat) (i58 : Int32) (f59 : Nat → Int32), V E K mX8_stepNow (Qm E K mX8_stepNow (zX8_stepNow E q1 q4 q5 i3 i6 i7 i8 i9 i10 i11 f12)) (bc) (bs) [(q1, .inr (9, [.int i3, .ref q4, .ref q5, .int i6, .int i7, .int i8, .int i9, .int i10, .int i11])), (q4, .inl (E.2.1, 81, .inl f12)), (q5, .inl (E.2.1, 81, .inl f59)), (q17, .inl (E.2.1, n15, .inl f16))] 53 [(0, .ref q1), (2, .ref q17), (3, .int i40), (4, .int i58)] [] (LX8_stepNow_L53  i40 n15 f16 n i58 f59 )
  | 0, _, _ => V_none
  | n + 1, i58, f59 => vBX8_stepNow_L53 hs q1 q4 q5 q17 i3 i6 i7 i8 i9 i10 i11 f12 i40 n15 f16 bc bs i58 f59 (fun i58 f59 => vLX8_stepNow_L53 hs q1 q4 q5 q17 i3 i6 i7 i8 i9 i10 i11 f12 i40 n15 f16 bc bs  n i58 f59) 
set_option maxRecDepth 20000 in
theorem kX8_stepNow {E : EX} {l : Launch} (hl : l.stackTraces = false) (q1 q4 q5 : Nat) (i3 i6 i7 i8 i9 i10 i11 : Int32) (f12 f13 : Nat → Int32) (i2 : Int32) : Ct E l mX8_stepNow [.ref q1, .int i2] [(q1, .inr (9, [.int i3, .ref q4, .ref q5, .int i6, .int i7, .int i8, .int i9, .int i10, .int i11])), (q4, .inl (E.2.1, 81, .inl f12)), (q5, .inl (E.2.1, 81, .inl f13))] (fX8_stepNow i3 i6 i7 i8 i9 i10 i11 f12 f13 i2) (zX8_stepNow E q1 q4 q5 i3 i6 i7 i8 i9 i10 i11 f12) := Ct_of hl mf_X8_stepNow.1 (Nat.le_of_ble_eq_true rfl) (fun K hs => by
  refine V_less 3 48 (Nat.le_refl _) (Nat.le_refl _) ?_
  refine V_pick [0, 1] [(0, .ref q1), (1, .int i2)] rfl ?_
  unfold fX8_stepNow
  refine V_aload_n (dX8_stepNow 0 rfl) 1 rfl 0 rfl ?_
  refine V_iload_n (dX8_stepNow 1 rfl) 2 rfl 1 rfl ?_
  refine V_callV (M := mX8_stepNow) (wcs := [(q1, .inr (9, [.int i3, .ref q4, .ref q5, .int i6, .int i7, .int i8, .int i9, .int i10, .int i11])), (q4, .inl (E.2.1, 81, .inl f12)), (q5, .inl (E.2.1, 81, .inl f13))]) (wr := []) mf_X8_trackBy tw_1380 tw_1382 tw_40 ⟨Nat.le_of_ble_eq_true rfl, Nat.le_of_ble_eq_true rfl⟩ (dX8_stepNow 2 rfl) 5 rfl (kX8_trackBy hs q1 q4 q5 i3 i6 i7 i8 i9 i10 i11 f12 f13 i2) rfl [0, 1, 2] [] (q0 := 0) rfl rfl rfl rfl (by decide) rfl rfl rfl rfl (Nat.le_of_ble_eq_true rfl) 0 0 (show 0 + 3 ≤ 3 from Nat.le_of_ble_eq_true rfl) (show 0 + 48 ≤ 48 from Nat.le_of_ble_eq_true rfl) (fun z14 v w hz => ?_)
  rcases hz with ⟨e0, rfl, rfl⟩ | ⟨n15, f16, q17, e0, rfl, rfl⟩
  · refine V_eq (oc_none e0) ?_
    show V E K mX8_stepNow (Qm E K mX8_stepNow (zX8_stepNow E q1 q4 q5 i3 i6 i7 i8 i9 i10 i11 f12)) 0 0 [(q1, .inr (9, [.int i3, .ref q4, .ref q5, .int i6, .int i7, .int i8, .int i9, .int i10, .int i11])), (q4, .inl (E.2.1, 81, .inl f12)), (q5, .inl (E.2.1, 81, .inl f13))] 5 [(0, .ref q1), (1, .int i2)] [.null] _
    refine V_astore_nN (dX8_stepNow 3 rfl) 6 rfl [(0, .ref q1), (1, .int i2), (2, .null)] (Nat.le_of_ble_eq_true rfl) rfl ?_
    refine V_aload_nN (dX8_stepNow 4 rfl) 7 rfl 2 rfl ?_
    refine V_ifnonnullN (dX8_stepNow 5 rfl) 10 rfl ?_
    refine V_iconst (0 : Int32) (by decide) (dX8_stepNow 6 rfl) 11 rfl ?_
    exact V_iret rfl (dX8_stepNow 7 rfl) ⟨rfl, rfl⟩
  · refine V_eq (oc_some e0) ?_
    show V E K mX8_stepNow (Qm E K mX8_stepNow (zX8_stepNow E q1 q4 q5 i3 i6 i7 i8 i9 i10 i11 f12)) 0 0 [(q1, .inr (9, [.int i3, .ref q4, .ref q5, .int i6, .int i7, .int i8, .int i9, .int i10, .int i11])), (q4, .inl (E.2.1, 81, .inl f12)), (q5, .inl (E.2.1, 81, .inl f13)), (q17, .inl (E.2.1, n15, .inl f16))] 5 [(0, .ref q1), (1, .int i2)] [.ref q17] _
    refine V_astore_n (dX8_stepNow 3 rfl) 6 rfl [(0, .ref q1), (1, .int i2), (2, .ref q17)] (Nat.le_of_ble_eq_true rfl) rfl ?_
    refine V_aload_n (dX8_stepNow 4 rfl) 7 rfl 2 rfl ?_
    refine V_ifnonnull (dX8_stepNow 5 rfl) 12 (by decide) ?_
    refine V_ldc (M := mX8_stepNow) (v := (2147483647 : Int32)) tw_1396 (dX8_stepNow 8 rfl) 14 rfl ?_
    refine V_istore_n (dX8_stepNow 9 rfl) 15 rfl [(0, .ref q1), (1, .int i2), (2, .ref q17), (3, .int (2147483647 : Int32))] (Nat.le_of_ble_eq_true rfl) rfl ?_
    refine V_iconst (1 : Int32) (by decide) (dX8_stepNow 10 rfl) 16 rfl ?_
    refine V_istore (dX8_stepNow 11 rfl) 18 rfl [(0, .ref q1), (1, .int i2), (2, .ref q17), (3, .int (2147483647 : Int32)), (4, .int (1 : Int32))] (Nat.le_of_ble_eq_true rfl) rfl ?_
    refine V_pick [0, 2, 3, 4] [(0, .ref q1), (2, .ref q17), (3, .int (2147483647 : Int32)), (4, .int (1 : Int32))] rfl ?_
    refine vLX8_stepNow_L18 hs q1 q4 q5 q17 i3 i6 i7 i8 i9 i10 i11 f12 f13 n15 f16 0 0 ?_ 600 (2147483647 : Int32) (1 : Int32)
    intro i40
    show V E K mX8_stepNow (Qm E K mX8_stepNow (zX8_stepNow E q1 q4 q5 i3 i6 i7 i8 i9 i10 i11 f12)) 0 0 [(q1, .inr (9, [.int i3, .ref q4, .ref q5, .int i6, .int i7, .int i8, .int i9, .int i10, .int i11])), (q4, .inl (E.2.1, 81, .inl f12)), (q5, .inl (E.2.1, 81, .inl f13)), (q17, .inl (E.2.1, n15, .inl f16))] 50 [(0, .ref q1), (2, .ref q17), (3, .int i40)] [] _
    refine V_iconst (1 : Int32) (by decide) (dX8_stepNow 31 rfl) 51 rfl ?_
    refine V_istore (dX8_stepNow 32 rfl) 53 rfl [(0, .ref q1), (2, .ref q17), (3, .int i40), (4, .int (1 : Int32))] (Nat.le_of_ble_eq_true rfl) rfl ?_
    refine vLX8_stepNow_L53 hs q1 q4 q5 q17 i3 i6 i7 i8 i9 i10 i11 f12 i40 n15 f16 0 0  600 (1 : Int32) f13)
set_option maxRecDepth 20000 in
theorem vBX8_nextPart_L43 {E : EX} {K : KX} (hs : K.l.stackTraces = false) (q1 q2 : Nat) (i3 : Int32) (v4 v5 : Value) (i6 i7 i8 i9 i10 i11 i54 i56 : Int32) (f12 : Nat → Int32) (bc bs : Nat) (i74 i75 : Int32) {rec : Int32 → Int32 → Option ((Nat → Int32) × Option (Nat × (Nat → Int32)))} {k1 : Int32 → Option ((Nat → Int32) × Option (Nat × (Nat → Int32)))} (hrec : ∀ (i74 i75 : Int32), V E K mX8_nextPart (Qm E K mX8_nextPart (zX8_nextPart E q1 q2 i3 v4 v5 i6 i7 i8 i9 i10 i11)) (bc) (bs) [(q1, .inr (9, [.int i3, v4, v5, .int i6, .int i7, .int i8, .int i9, .int i10, .int i11])), (q2, .inl (E.2.1, 81, .inl f12))] 43 [(0, .ref q1), (1, .ref q2), (2, .int i54), (3, .int i74), (4, .int i56), (5, .int i75)] [] (rec i74 i75)) (hk1 : ∀ (i79 : Int32), V E K mX8_nextPart (Qm E K mX8_nextPart (zX8_nextPart E q1 q2 i3 v4 v5 i6 i7 i8 i9 i10 i11)) (bc) (bs) [(q1, .inr (9, [.int i3, v4, v5, .int i6, .int i7, .int i8, .int i9, .int i10, .int i11])), (q2, .inl (E.2.1, 81, .inl f12))] 74 [(0, .ref q1), (1, .ref q2), (2, .int i54), (3, .int i79), (4, .int i56)] [] (k1 i79)) : V E K mX8_nextPart (Qm E K mX8_nextPart (zX8_nextPart E q1 q2 i3 v4 v5 i6 i7 i8 i9 i10 i11)) (bc) (bs) [(q1, .inr (9, [.int i3, v4, v5, .int i6, .int i7, .int i8, .int i9, .int i10, .int i11])), (q2, .inl (E.2.1, 81, .inl f12))] 43 [(0, .ref q1), (1, .ref q2), (2, .int i54), (3, .int i74), (4, .int i56), (5, .int i75)] [] (BX8_nextPart_L43  i3 i56 f12 i74 i75 rec k1) := by
  unfold BX8_nextPart_L43
  refine V_iload (dX8_nextPart_p0 24 rfl) 45 rfl 5 rfl ?_
  refine V_aload_n (dX8_nextPart_p0 25 rfl) 46 rfl 0 rfl ?_
  refine V_get gf_M_17 0 rfl rfl (dX8_nextPart_p0 26 rfl) 49 rfl ?_
  refine V_icmp_ge (dX8_nextPart_p0 27 rfl) 74 (by decide) 52 rfl ?_ ?_
  · refine V_pick [0, 1, 2, 3, 4] [(0, .ref q1), (1, .ref q2), (2, .int i54), (3, .int i74), (4, .int i56)] rfl ?_
    exact hk1 i74
  · refine V_aload_n (dX8_nextPart_p0 28 rfl) 53 rfl 1 rfl ?_
    refine V_iload (dX8_nextPart_p0 29 rfl) 55 rfl 4 rfl ?_
    refine V_bipush (9 : Int32) (by decide) (dX8_nextPart_p0 30 rfl) 57 rfl ?_
    refine V_imul (dX8_nextPart_p0 31 rfl) 58 rfl ?_
    refine V_iload (dX8_nextPart_p0 32 rfl) 60 rfl 5 rfl ?_
    refine V_iadd (dX8_nextPart_p0 33 rfl) 61 rfl ?_
    refine V_iald 1 rfl (dX8_nextPart_p0 34 rfl) 62 rfl ?_
    refine V_jn (fun (k76 : Int32 → Option ((Nat → Int32) × Option (Nat × (Nat → Int32)))) => ∀ (i78 : Int32), V E K mX8_nextPart (Qm E K mX8_nextPart (zX8_nextPart E q1 q2 i3 v4 v5 i6 i7 i8 i9 i10 i11)) (bc) (bs) [(q1, .inr (9, [.int i3, v4, v5, .int i6, .int i7, .int i8, .int i9, .int i10, .int i11])), (q2, .inl (E.2.1, 81, .inl f12))] 68 [(0, .ref q1), (1, .ref q2), (2, .int i54), (3, .int i78), (4, .int i56), (5, .int i75)] [] (k76 i78)) ?_ ?_
    · intro i78
      show V E K mX8_nextPart (Qm E K mX8_nextPart (zX8_nextPart E q1 q2 i3 v4 v5 i6 i7 i8 i9 i10 i11)) (bc) (bs) [(q1, .inr (9, [.int i3, v4, v5, .int i6, .int i7, .int i8, .int i9, .int i10, .int i11])), (q2, .inl (E.2.1, 81, .inl f12))] 68 [(0, .ref q1), (1, .ref q2), (2, .int i54), (3, .int i78), (4, .int i56), (5, .int i75)] [] _
      refine V_iinc (dX8_nextPart_p0 38 rfl) 71 rfl 5 rfl (i75 + (1 : Int32)) rfl [(0, .ref q1), (1, .ref q2), (2, .int i54), (3, .int i78), (4, .int i56), (5, .int (i75 + (1 : Int32)))] (Nat.le_of_ble_eq_true rfl) rfl ?_
      refine V_goto (dX8_nextPart_p0 39 rfl) 43 (by decide) ?_
      exact hrec i78 (i75 + (1 : Int32))
    · intro k76 hk77
      refine V_if_le (dX8_nextPart_p0 35 rfl) 68 (by decide) 65 rfl ?_ ?_
      · exact hk77 i74
      · refine V_iload (dX8_nextPart_p0 36 rfl) 67 rfl 4 rfl ?_
        refine V_istore_n (dX8_nextPart_p0 37 rfl) 68 rfl [(0, .ref q1), (1, .ref q2), (2, .int i54), (3, .int i56), (4, .int i56), (5, .int i75)] (Nat.le_of_ble_eq_true rfl) rfl ?_
        exact hk77 i56
set_option maxRecDepth 20000 in
theorem vLX8_nextPart_L43 {E : EX} {K : KX} (hs : K.l.stackTraces = false) (q1 q2 : Nat) (i3 : Int32) (v4 v5 : Value) (i6 i7 i8 i9 i10 i11 i54 i56 : Int32) (f12 : Nat → Int32) (bc bs : Nat) {k1 : Int32 → Option ((Nat → Int32) × Option (Nat × (Nat → Int32)))} (hk1 : ∀ (i79 : Int32), V E K mX8_nextPart (Qm E K mX8_nextPart (zX8_nextPart E q1 q2 i3 v4 v5 i6 i7 i8 i9 i10 i11)) (bc) (bs) [(q1, .inr (9, [.int i3, v4, v5, .int i6, .int i7, .int i8, .int i9, .int i10, .int i11])), (q2, .inl (E.2.1, 81, .inl f12))] 74 [(0, .ref q1), (1, .ref q2), (2, .int i54), (3, .int i79), (4, .int i56)] [] (k1 i79)) : ∀ (n : Nat) (i74 i75 : Int32), V E K mX8_nextPart (Qm E K mX8_nextPart (zX8_nextPart E q1 q2 i3 v4 v5 i6 i7 i8 i9 i10 i11)) (bc) (bs) [(q1, .inr (9, [.int i3, v4, v5, .int i6, .int i7, .int i8, .int i9, .int i10, .int i11])), (q2, .inl (E.2.1, 81, .inl f12))] 43 [(0, .ref q1), (1, .ref q2), (2, .int i54), (3, .int i74), (4, .int i56), (5, .int i75)] [] (LX8_nextPart_L43  i3 i56 f12 n i74 i75 k1)
  | 0, _, _ => V_none
  | n + 1, i74, i75 => vBX8_nextPart_L43 hs q1 q2 i3 v4 v5 i6 i7 i8 i9 i10 i11 i54 i56 f12 bc bs i74 i75 (fun i74 i75 => vLX8_nextPart_L43 hs q1 q2 i3 v4 v5 i6 i7 i8 i9 i10 i11 i54 i56 f12 bc bs hk1 n i74 i75) hk1
set_option maxRecDepth 20000 in
theorem vBX8_nextPart_L31 {E : EX} {K : KX} (hs : K.l.stackTraces = false) (q1 q2 : Nat) (i3 : Int32) (v4 v5 : Value) (i6 i7 i8 i9 i10 i11 i54 : Int32) (f12 : Nat → Int32) (bc bs : Nat) (i55 i56 : Int32) {rec : Int32 → Int32 → Option ((Nat → Int32) × Option (Nat × (Nat → Int32)))} {k1 : Int32 → Option ((Nat → Int32) × Option (Nat × (Nat → Int32)))} (hrec : ∀ (i55 i56 : Int32), V E K mX8_nextPart (Qm E K mX8_nextPart (zX8_nextPart E q1 q2 i3 v4 v5 i6 i7 i8 i9 i10 i11)) (bc) (bs) [(q1, .inr (9, [.int i3, v4, v5, .int i6, .int i7, .int i8, .int i9, .int i10, .int i11])), (q2, .inl (E.2.1, 81, .inl f12))] 31 [(0, .ref q1), (1, .ref q2), (2, .int i54), (3, .int i55), (4, .int i56)] [] (rec i55 i56)) (hk1 : ∀ (i80 : Int32), V E K mX8_nextPart (Qm E K mX8_nextPart (zX8_nextPart E q1 q2 i3 v4 v5 i6 i7 i8 i9 i10 i11)) (bc) (bs) [(q1, .inr (9, [.int i3, v4, v5, .int i6, .int i7, .int i8, .int i9, .int i10, .int i11])), (q2, .inl (E.2.1, 81, .inl f12))] 80 [(0, .ref q1), (1, .ref q2), (2, .int i54), (3, .int i80)] [] (k1 i80)) : V E K mX8_nextPart (Qm E K mX8_nextPart (zX8_nextPart E q1 q2 i3 v4 v5 i6 i7 i8 i9 i10 i11)) (bc) (bs) [(q1, .inr (9, [.int i3, v4, v5, .int i6, .int i7, .int i8, .int i9, .int i10, .int i11])), (q2, .inl (E.2.1, 81, .inl f12))] 31 [(0, .ref q1), (1, .ref q2), (2, .int i54), (3, .int i55), (4, .int i56)] [] (BX8_nextPart_L31  i3 i54 f12 i55 i56 rec k1) := by
  unfold BX8_nextPart_L31
  refine V_iload (dX8_nextPart_p0 18 rfl) 33 rfl 4 rfl ?_
  refine V_if_lt (dX8_nextPart_p0 19 rfl) 80 (by decide) 36 rfl ?_ ?_
  · refine V_pick [0, 1, 2, 3] [(0, .ref q1), (1, .ref q2), (2, .int i54), (3, .int i55)] rfl ?_
    exact hk1 i55
  · refine V_iload_n (dX8_nextPart_p0 20 rfl) 37 rfl 2 rfl ?_
    refine V_if_ne (dX8_nextPart_p0 21 rfl) 80 (by decide) 40 rfl ?_ ?_
    · refine V_pick [0, 1, 2, 3] [(0, .ref q1), (1, .ref q2), (2, .int i54), (3, .int i55)] rfl ?_
      exact hk1 i55
    · refine V_iconst (0 : Int32) (by decide) (dX8_nextPart_p0 22 rfl) 41 rfl ?_
      refine V_istore (dX8_nextPart_p0 23 rfl) 43 rfl [(0, .ref q1), (1, .ref q2), (2, .int i54), (3, .int i55), (4, .int i56), (5, .int (0 : Int32))] (Nat.le_of_ble_eq_true rfl) rfl ?_
      refine vLX8_nextPart_L43 hs q1 q2 i3 v4 v5 i6 i7 i8 i9 i10 i11 i54 i56 f12 (bc) (bs) ?_ 600 i55 (0 : Int32)
      intro i79
      show V E K mX8_nextPart (Qm E K mX8_nextPart (zX8_nextPart E q1 q2 i3 v4 v5 i6 i7 i8 i9 i10 i11)) (bc) (bs) [(q1, .inr (9, [.int i3, v4, v5, .int i6, .int i7, .int i8, .int i9, .int i10, .int i11])), (q2, .inl (E.2.1, 81, .inl f12))] 74 [(0, .ref q1), (1, .ref q2), (2, .int i54), (3, .int i79), (4, .int i56)] [] _
      refine V_iinc (dX8_nextPart_p0 40 rfl) 77 rfl 4 rfl (i56 + (-1 : Int32)) rfl [(0, .ref q1), (1, .ref q2), (2, .int i54), (3, .int i79), (4, .int (i56 + (-1 : Int32)))] (Nat.le_of_ble_eq_true rfl) rfl ?_
      refine V_goto (dX8_nextPart_p0 41 rfl) 31 (by decide) ?_
      exact hrec i79 (i56 + (-1 : Int32))
set_option maxRecDepth 20000 in
theorem vLX8_nextPart_L31 {E : EX} {K : KX} (hs : K.l.stackTraces = false) (q1 q2 : Nat) (i3 : Int32) (v4 v5 : Value) (i6 i7 i8 i9 i10 i11 i54 : Int32) (f12 : Nat → Int32) (bc bs : Nat) {k1 : Int32 → Option ((Nat → Int32) × Option (Nat × (Nat → Int32)))} (hk1 : ∀ (i80 : Int32), V E K mX8_nextPart (Qm E K mX8_nextPart (zX8_nextPart E q1 q2 i3 v4 v5 i6 i7 i8 i9 i10 i11)) (bc) (bs) [(q1, .inr (9, [.int i3, v4, v5, .int i6, .int i7, .int i8, .int i9, .int i10, .int i11])), (q2, .inl (E.2.1, 81, .inl f12))] 80 [(0, .ref q1), (1, .ref q2), (2, .int i54), (3, .int i80)] [] (k1 i80)) : ∀ (n : Nat) (i55 i56 : Int32), V E K mX8_nextPart (Qm E K mX8_nextPart (zX8_nextPart E q1 q2 i3 v4 v5 i6 i7 i8 i9 i10 i11)) (bc) (bs) [(q1, .inr (9, [.int i3, v4, v5, .int i6, .int i7, .int i8, .int i9, .int i10, .int i11])), (q2, .inl (E.2.1, 81, .inl f12))] 31 [(0, .ref q1), (1, .ref q2), (2, .int i54), (3, .int i55), (4, .int i56)] [] (LX8_nextPart_L31  i3 i54 f12 n i55 i56 k1)
  | 0, _, _ => V_none
  | n + 1, i55, i56 => vBX8_nextPart_L31 hs q1 q2 i3 v4 v5 i6 i7 i8 i9 i10 i11 i54 f12 bc bs i55 i56 (fun i55 i56 => vLX8_nextPart_L31 hs q1 q2 i3 v4 v5 i6 i7 i8 i9 i10 i11 i54 f12 bc bs hk1 n i55 i56) hk1
set_option maxRecDepth 20000 in
theorem vBX8_nextPart_L132 {E : EX} {K : KX} (hs : K.l.stackTraces = false) (q1 q2 q81 : Nat) (i3 : Int32) (v4 v5 : Value) (i6 i7 i8 i9 i10 i11 i152 i153 i154 i158 : Int32) (f12 : Nat → Int32) (n156 : Nat) (f157 : Nat → Int32) (bc bs : Nat) (i177 : Int32) {rec : Int32 → Option ((Nat → Int32) × Option (Nat × (Nat → Int32)))} {k1 : Int32 → Option ((Nat → Int32) × Option (Nat × (Nat → Int32)))} (hrec : ∀ (i177 : Int32), V E K mX8_nextPart (Qm E K mX8_nextPart (zX8_nextPart E q1 q2 i3 v4 v5 i6 i7 i8 i9 i10 i11)) (bc) (bs) [(q1, .inr (9, [.int i3, v4, v5, .int i6, .int i7, .int i8, .int i9, .int i10, .int i11])), (q2, .inl (E.2.1, 81, .inl f12)), (q81, .inl (E.2.1, n156, .inl f157))] 132 [(0, .ref q1), (1, .ref q2), (2, .int i152), (4, .ref q81), (5, .int i153), (6, .int i154), (8, .int i158), (9, .int i177)] [] (rec i177)) (hk1 : ∀ (i178 : Int32), V E K mX8_nextPart (Qm E K mX8_nextPart (zX8_nextPart E q1 q2 i3 v4 v5 i6 i7 i8 i9 i10 i11)) (bc) (bs) [(q1, .inr (9, [.int i3, v4, v5, .int i6, .int i7, .int i8, .int i9, .int i10, .int i11])), (q2, .inl (E.2.1, 81, .inl f12)), (q81, .inl (E.2.1, n156, .inl f157))] 151 [(0, .ref q1), (1, .ref q2), (2, .int i152), (4, .ref q81), (5, .int i153), (6, .int i154), (9, .int i178)] [] (k1 i178)) : V E K mX8_nextPart (Qm E K mX8_nextPart (zX8_nextPart E q1 q2 i3 v4 v5 i6 i7 i8 i9 i10 i11)) (bc) (bs) [(q1, .inr (9, [.int i3, v4, v5, .int i6, .int i7, .int i8, .int i9, .int i10, .int i11])), (q2, .inl (E.2.1, 81, .inl f12)), (q81, .inl (E.2.1, n156, .inl f157))] 132 [(0, .ref q1), (1, .ref q2), (2, .int i152), (4, .ref q81), (5, .int i153), (6, .int i154), (8, .int i158), (9, .int i177)] [] (BX8_nextPart_L132  i158 f12 i177 rec k1) := by
  unfold BX8_nextPart_L132
  refine V_aload_n (dX8_nextPart_p1 4 rfl) 133 rfl 1 rfl ?_
  refine V_iload (dX8_nextPart_p1 5 rfl) 135 rfl 6 rfl ?_
  refine V_bipush (9 : Int32) (by decide) (dX8_nextPart_p1 6 rfl) 137 rfl ?_
  refine V_imul (dX8_nextPart_p1 7 rfl) 138 rfl ?_
  refine V_iload (dX8_nextPart_p1 8 rfl) 140 rfl 7 rfl ?_
  refine V_iadd (dX8_nextPart_p1 9 rfl) 141 rfl ?_
  refine V_iald 1 rfl (dX8_nextPart_p1 10 rfl) 142 rfl ?_
  refine V_if_gt (dX8_nextPart_p1 11 rfl) 151 (by decide) 145 rfl ?_ ?_
  · refine V_pick [0, 1, 2, 3, 4, 5, 7] [(0, .ref q1), (1, .ref q2), (2, .int i152), (4, .ref q81), (5, .int i153), (6, .int i154), (9, .int i177)] rfl ?_
    exact hk1 i177
  · refine V_iinc (dX8_nextPart_p1 12 rfl) 148 rfl 7 rfl (i177 + (1 : Int32)) rfl [(0, .ref q1), (1, .ref q2), (2, .int i152), (4, .ref q81), (5, .int i153), (6, .int i154), (8, .int i158), (9, .int (i177 + (1 : Int32)))] (Nat.le_of_ble_eq_true rfl) rfl ?_
    refine V_goto (dX8_nextPart_p1 13 rfl) 132 (by decide) ?_
    exact hrec (i177 + (1 : Int32))
set_option maxRecDepth 20000 in
theorem vLX8_nextPart_L132 {E : EX} {K : KX} (hs : K.l.stackTraces = false) (q1 q2 q81 : Nat) (i3 : Int32) (v4 v5 : Value) (i6 i7 i8 i9 i10 i11 i152 i153 i154 i158 : Int32) (f12 : Nat → Int32) (n156 : Nat) (f157 : Nat → Int32) (bc bs : Nat) {k1 : Int32 → Option ((Nat → Int32) × Option (Nat × (Nat → Int32)))} (hk1 : ∀ (i178 : Int32), V E K mX8_nextPart (Qm E K mX8_nextPart (zX8_nextPart E q1 q2 i3 v4 v5 i6 i7 i8 i9 i10 i11)) (bc) (bs) [(q1, .inr (9, [.int i3, v4, v5, .int i6, .int i7, .int i8, .int i9, .int i10, .int i11])), (q2, .inl (E.2.1, 81, .inl f12)), (q81, .inl (E.2.1, n156, .inl f157))] 151 [(0, .ref q1), (1, .ref q2), (2, .int i152), (4, .ref q81), (5, .int i153), (6, .int i154), (9, .int i178)] [] (k1 i178)) : ∀ (n : Nat) (i177 : Int32), V E K mX8_nextPart (Qm E K mX8_nextPart (zX8_nextPart E q1 q2 i3 v4 v5 i6 i7 i8 i9 i10 i11)) (bc) (bs) [(q1, .inr (9, [.int i3, v4, v5, .int i6, .int i7, .int i8, .int i9, .int i10, .int i11])), (q2, .inl (E.2.1, 81, .inl f12)), (q81, .inl (E.2.1, n156, .inl f157))] 132 [(0, .ref q1), (1, .ref q2), (2, .int i152), (4, .ref q81), (5, .int i153), (6, .int i154), (8, .int i158), (9, .int i177)] [] (LX8_nextPart_L132  i158 f12 n i177 k1)
  | 0, _ => V_none
  | n + 1, i177 => vBX8_nextPart_L132 hs q1 q2 q81 i3 v4 v5 i6 i7 i8 i9 i10 i11 i152 i153 i154 i158 f12 n156 f157 bc bs i177 (fun i177 => vLX8_nextPart_L132 hs q1 q2 q81 i3 v4 v5 i6 i7 i8 i9 i10 i11 i152 i153 i154 i158 f12 n156 f157 bc bs hk1 n i177) hk1
set_option maxRecDepth 20000 in
theorem vBX8_nextPart_L154 {E : EX} {K : KX} (hs : K.l.stackTraces = false) (q1 q2 q81 : Nat) (i3 : Int32) (v4 v5 : Value) (i6 i7 i8 i9 i10 i11 i152 i153 i178 : Int32) (f12 : Nat → Int32) (n156 : Nat) (f157 : Nat → Int32) (bc bs : Nat) (i200 i201 : Int32) {rec : Int32 → Int32 → Option ((Nat → Int32) × Option (Nat × (Nat → Int32)))} {k1 : Int32 → Option ((Nat → Int32) × Option (Nat × (Nat → Int32)))} (hrec : ∀ (i200 i201 : Int32), V E K mX8_nextPart (Qm E K mX8_nextPart (zX8_nextPart E q1 q2 i3 v4 v5 i6 i7 i8 i9 i10 i11)) (bc) (bs) [(q1, .inr (9, [.int i3, v4, v5, .int i6, .int i7, .int i8, .int i9, .int i10, .int i11])), (q2, .inl (E.2.1, 81, .inl f12)), (q81, .inl (E.2.1, n156, .inl f157))] 154 [(0, .ref q1), (1, .ref q2), (2, .int i152), (4, .ref q81), (5, .int i153), (6, .int i200), (9, .int i178), (10, .int i201)] [] (rec i200 i201)) (hk1 : ∀ (i205 : Int32), V E K mX8_nextPart (Qm E K mX8_nextPart (zX8_nextPart E q1 q2 i3 v4 v5 i6 i7 i8 i9 i10 i11)) (bc) (bs) [(q1, .inr (9, [.int i3, v4, v5, .int i6, .int i7, .int i8, .int i9, .int i10, .int i11])), (q2, .inl (E.2.1, 81, .inl f12)), (q81, .inl (E.2.1, n156, .inl f157))] 181 [(0, .ref q1), (1, .ref q2), (2, .int i152), (4, .ref q81), (5, .int i153), (6, .int i205), (9, .int i178)] [] (k1 i205)) : V E K mX8_nextPart (Qm E K mX8_nextPart (zX8_nextPart E q1 q2 i3 v4 v5 i6 i7 i8 i9 i10 i11)) (bc) (bs) [(q1, .inr (9, [.int i3, v4, v5, .int i6, .int i7, .int i8, .int i9, .int i10, .int i11])), (q2, .inl (E.2.1, 81, .inl f12)), (q81, .inl (E.2.1, n156, .inl f157))] 154 [(0, .ref q1), (1, .ref q2), (2, .int i152), (4, .ref q81), (5, .int i153), (6, .int i200), (9, .int i178), (10, .int i201)] [] (BX8_nextPart_L154  i153 i178 n156 f157 i200 i201 rec k1) := by
  unfold BX8_nextPart_L154
  refine V_iload (dX8_nextPart_p1 16 rfl) 156 rfl 7 rfl ?_
  refine V_iload (dX8_nextPart_p1 17 rfl) 158 rfl 4 rfl ?_
  refine V_icmp_ge (dX8_nextPart_p1 18 rfl) 181 (by decide) 161 rfl ?_ ?_
  · refine V_pick [0, 1, 2, 3, 4, 5, 6] [(0, .ref q1), (1, .ref q2), (2, .int i152), (4, .ref q81), (5, .int i153), (6, .int i200), (9, .int i178)] rfl ?_
    exact hk1 i200
  · refine V_aload (dX8_nextPart_p1 19 rfl) 163 rfl 3 rfl ?_
    refine V_iload (dX8_nextPart_p1 20 rfl) 165 rfl 7 rfl ?_
    refine V_iald 2 rfl (dX8_nextPart_p1 21 rfl) 166 rfl ?_
    refine V_iload (dX8_nextPart_p1 22 rfl) 168 rfl 6 rfl ?_
    refine V_jn (fun (k202 : Int32 → Option ((Nat → Int32) × Option (Nat × (Nat → Int32)))) => ∀ (i204 : Int32), V E K mX8_nextPart (Qm E K mX8_nextPart (zX8_nextPart E q1 q2 i3 v4 v5 i6 i7 i8 i9 i10 i11)) (bc) (bs) [(q1, .inr (9, [.int i3, v4, v5, .int i6, .int i7, .int i8, .int i9, .int i10, .int i11])), (q2, .inl (E.2.1, 81, .inl f12)), (q81, .inl (E.2.1, n156, .inl f157))] 175 [(0, .ref q1), (1, .ref q2), (2, .int i152), (4, .ref q81), (5, .int i153), (6, .int i204), (9, .int i178), (10, .int i201)] [] (k202 i204)) ?_ ?_
    · intro i204
      show V E K mX8_nextPart (Qm E K mX8_nextPart (zX8_nextPart E q1 q2 i3 v4 v5 i6 i7 i8 i9 i10 i11)) (bc) (bs) [(q1, .inr (9, [.int i3, v4, v5, .int i6, .int i7, .int i8, .int i9, .int i10, .int i11])), (q2, .inl (E.2.1, 81, .inl f12)), (q81, .inl (E.2.1, n156, .inl f157))] 175 [(0, .ref q1), (1, .ref q2), (2, .int i152), (4, .ref q81), (5, .int i153), (6, .int i204), (9, .int i178), (10, .int i201)] [] _
      refine V_iinc (dX8_nextPart_p1 26 rfl) 178 rfl 7 rfl (i201 + (1 : Int32)) rfl [(0, .ref q1), (1, .ref q2), (2, .int i152), (4, .ref q81), (5, .int i153), (6, .int i204), (9, .int i178), (10, .int (i201 + (1 : Int32)))] (Nat.le_of_ble_eq_true rfl) rfl ?_
      refine V_goto (dX8_nextPart_p1 27 rfl) 154 (by decide) ?_
      exact hrec i204 (i201 + (1 : Int32))
    · intro k202 hk203
      refine V_icmp_ne (dX8_nextPart_p1 23 rfl) 175 (by decide) 171 rfl ?_ ?_
      · exact hk203 i200
      · refine V_iload (dX8_nextPart_p1 24 rfl) 173 rfl 7 rfl ?_
        refine V_istore (dX8_nextPart_p1 25 rfl) 175 rfl [(0, .ref q1), (1, .ref q2), (2, .int i152), (4, .ref q81), (5, .int i153), (6, .int i201), (9, .int i178), (10, .int i201)] (Nat.le_of_ble_eq_true rfl) rfl ?_
        exact hk203 i201
set_option maxRecDepth 20000 in
theorem vLX8_nextPart_L154 {E : EX} {K : KX} (hs : K.l.stackTraces = false) (q1 q2 q81 : Nat) (i3 : Int32) (v4 v5 : Value) (i6 i7 i8 i9 i10 i11 i152 i153 i178 : Int32) (f12 : Nat → Int32) (n156 : Nat) (f157 : Nat → Int32) (bc bs : Nat) {k1 : Int32 → Option ((Nat → Int32) × Option (Nat × (Nat → Int32)))} (hk1 : ∀ (i205 : Int32), V E K mX8_nextPart (Qm E K mX8_nextPart (zX8_nextPart E q1 q2 i3 v4 v5 i6 i7 i8 i9 i10 i11)) (bc) (bs) [(q1, .inr (9, [.int i3, v4, v5, .int i6, .int i7, .int i8, .int i9, .int i10, .int i11])), (q2, .inl (E.2.1, 81, .inl f12)), (q81, .inl (E.2.1, n156, .inl f157))] 181 [(0, .ref q1), (1, .ref q2), (2, .int i152), (4, .ref q81), (5, .int i153), (6, .int i205), (9, .int i178)] [] (k1 i205)) : ∀ (n : Nat) (i200 i201 : Int32), V E K mX8_nextPart (Qm E K mX8_nextPart (zX8_nextPart E q1 q2 i3 v4 v5 i6 i7 i8 i9 i10 i11)) (bc) (bs) [(q1, .inr (9, [.int i3, v4, v5, .int i6, .int i7, .int i8, .int i9, .int i10, .int i11])), (q2, .inl (E.2.1, 81, .inl f12)), (q81, .inl (E.2.1, n156, .inl f157))] 154 [(0, .ref q1), (1, .ref q2), (2, .int i152), (4, .ref q81), (5, .int i153), (6, .int i200), (9, .int i178), (10, .int i201)] [] (LX8_nextPart_L154  i153 i178 n156 f157 n i200 i201 k1)
  | 0, _, _ => V_none
  | n + 1, i200, i201 => vBX8_nextPart_L154 hs q1 q2 q81 i3 v4 v5 i6 i7 i8 i9 i10 i11 i152 i153 i178 f12 n156 f157 bc bs i200 i201 (fun i200 i201 => vLX8_nextPart_L154 hs q1 q2 q81 i3 v4 v5 i6 i7 i8 i9 i10 i11 i152 i153 i178 f12 n156 f157 bc bs hk1 n i200 i201) hk1
set_option maxRecDepth 20000 in
theorem vBX8_nextPart_L110 {E : EX} {K : KX} (hs : K.l.stackTraces = false) (q1 q2 q81 : Nat) (i3 : Int32) (v4 v5 : Value) (i6 i7 i8 i9 i10 i11 i152 : Int32) (f12 : Nat → Int32) (n156 : Nat) (bc bs : Nat) (i153 i154 i155 : Int32) (f157 : Nat → Int32) {rec : Int32 → Int32 → Int32 → (Nat → Int32) → Option ((Nat → Int32) × Option (Nat × (Nat → Int32)))} {k1 : Int32 → Int32 → Int32 → (Nat → Int32) → Option ((Nat → Int32) × Option (Nat × (Nat → Int32)))} (hrec : ∀ (i153 i154 i155 : Int32) (f157 : Nat → Int32), V E K mX8_nextPart (Qm E K mX8_nextPart (zX8_nextPart E q1 q2 i3 v4 v5 i6 i7 i8 i9 i10 i11)) (bc) (bs) [(q1, .inr (9, [.int i3, v4, v5, .int i6, .int i7, .int i8, .int i9, .int i10, .int i11])), (q2, .inl (E.2.1, 81, .inl f12)), (q81, .inl (E.2.1, n156, .inl f157))] 110 [(0, .ref q1), (1, .ref q2), (2, .int i152), (4, .ref q81), (5, .int i153), (6, .int i154), (7, .int i155)] [] (rec i153 i154 i155 f157)) (hk1 : ∀ (i211 i212 i213 : Int32) (f214 : Nat → Int32), V E K mX8_nextPart (Qm E K mX8_nextPart (zX8_nextPart E q1 q2 i3 v4 v5 i6 i7 i8 i9 i10 i11)) (bc) (bs) [(q1, .inr (9, [.int i3, v4, v5, .int i6, .int i7, .int i8, .int i9, .int i10, .int i11])), (q2, .inl (E.2.1, 81, .inl f12)), (q81, .inl (E.2.1, n156, .inl f214))] 219 [(1, .ref q2), (2, .int i152), (4, .ref q81), (5, .int i211), (6, .int i212), (7, .int i213)] [] (k1 i211 i212 i213 f214)) : V E K mX8_nextPart (Qm E K mX8_nextPart (zX8_nextPart E q1 q2 i3 v4 v5 i6 i7 i8 i9 i10 i11)) (bc) (bs) [(q1, .inr (9, [.int i3, v4, v5, .int i6, .int i7, .int i8, .int i9, .int i10, .int i11])), (q2, .inl (E.2.1, 81, .inl f12)), (q81, .inl (E.2.1, n156, .inl f157))] 110 [(0, .ref q1), (1, .ref q2), (2, .int i152), (4, .ref q81), (5, .int i153), (6, .int i154), (7, .int i155)] [] (BX8_nextPart_L110  i7 i152 f12 n156 i153 i154 i155 f157 rec k1) := by
  unfold BX8_nextPart_L110
  refine V_iload (dX8_nextPart_p0 62 rfl) 112 rfl 5 rfl ?_
  refine V_if_ge (dX8_nextPart_p0 63 rfl) 219 (by decide) 115 rfl ?_ ?_
  · refine V_pick [1, 2, 3, 4, 5, 6] [(1, .ref q2), (2, .int i152), (4, .ref q81), (5, .int i153), (6, .int i154), (7, .int i155)] rfl ?_
    exact hk1 i153 i154 i155 f157
  · refine V_iload (dX8_nextPart_p0 64 rfl) 117 rfl 6 rfl ?_
    refine V_if_ne (dX8_nextPart_p0 65 rfl) 219 (by decide) 120 rfl ?_ ?_
    · refine V_pick [1, 2, 3, 4, 5, 6] [(1, .ref q2), (2, .int i152), (4, .ref q81), (5, .int i153), (6, .int i154), (7, .int i155)] rfl ?_
      exact hk1 i153 i154 i155 f157
    · refine V_aload (dX8_nextPart_p0 66 rfl) 122 rfl 3 rfl ?_
      refine V_iload (dX8_nextPart_p0 67 rfl) 124 rfl 4 rfl ?_
      refine V_iconst (1 : Int32) (by decide) (dX8_nextPart_p0 68 rfl) 125 rfl ?_
      refine V_isub (dX8_nextPart_p0 69 rfl) 126 rfl ?_
      refine V_iald 2 rfl (dX8_nextPart_p1 0 rfl) 127 rfl ?_
      refine V_nmI (fun i158 => ?_)
      refine V_istore (dX8_nextPart_p1 1 rfl) 129 rfl [(0, .ref q1), (1, .ref q2), (2, .int i152), (4, .ref q81), (5, .int i153), (6, .int i154), (7, .int i155), (8, .int i158)] (Nat.le_of_ble_eq_true rfl) rfl ?_
      refine V_iconst (0 : Int32) (by decide) (dX8_nextPart_p1 2 rfl) 130 rfl ?_
      refine V_istore (dX8_nextPart_p1 3 rfl) 132 rfl [(0, .ref q1), (1, .ref q2), (2, .int i152), (4, .ref q81), (5, .int i153), (6, .int i154), (7, .int i155), (8, .int i158), (9, .int (0 : Int32))] (Nat.le_of_ble_eq_true rfl) rfl ?_
      refine V_pick [0, 1, 2, 3, 4, 5, 7, 8] [(0, .ref q1), (1, .ref q2), (2, .int i152), (4, .ref q81), (5, .int i153), (6, .int i154), (8, .int i158), (9, .int (0 : Int32))] rfl ?_
      refine vLX8_nextPart_L132 hs q1 q2 q81 i3 v4 v5 i6 i7 i8 i9 i10 i11 i152 i153 i154 i158 f12 n156 f157 (bc) (bs) ?_ 600 (0 : Int32)
      intro i178
      show V E K mX8_nextPart (Qm E K mX8_nextPart (zX8_nextPart E q1 q2 i3 v4 v5 i6 i7 i8 i9 i10 i11)) (bc) (bs) [(q1, .inr (9, [.int i3, v4, v5, .int i6, .int i7, .int i8, .int i9, .int i10, .int i11])), (q2, .inl (E.2.1, 81, .inl f12)), (q81, .inl (E.2.1, n156, .inl f157))] 151 [(0, .ref q1), (1, .ref q2), (2, .int i152), (4, .ref q81), (5, .int i153), (6, .int i154), (9, .int i178)] [] _
      refine V_iconst (0 : Int32) (by decide) (dX8_nextPart_p1 14 rfl) 152 rfl ?_
      refine V_istore (dX8_nextPart_p1 15 rfl) 154 rfl [(0, .ref q1), (1, .ref q2), (2, .int i152), (4, .ref q81), (5, .int i153), (6, .int i154), (9, .int i178), (10, .int (0 : Int32))] (Nat.le_of_ble_eq_true rfl) rfl ?_
      refine vLX8_nextPart_L154 hs q1 q2 q81 i3 v4 v5 i6 i7 i8 i9 i10 i11 i152 i153 i178 f12 n156 f157 (bc) (bs) ?_ 600 i154 (0 : Int32)
      intro i205
      show V E K mX8_nextPart (Qm E K mX8_nextPart (zX8_nextPart E q1 q2 i3 v4 v5 i6 i7 i8 i9 i10 i11)) (bc) (bs) [(q1, .inr (9, [.int i3, v4, v5, .int i6, .int i7, .int i8, .int i9, .int i10, .int i11])), (q2, .inl (E.2.1, 81, .inl f12)), (q81, .inl (E.2.1, n156, .inl f157))] 181 [(0, .ref q1), (1, .ref q2), (2, .int i152), (4, .ref q81), (5, .int i153), (6, .int i205), (9, .int i178)] [] _
      refine V_aload (dX8_nextPart_p1 28 rfl) 183 rfl 3 rfl ?_
      refine V_iload (dX8_nextPart_p1 29 rfl) 185 rfl 4 rfl ?_
      refine V_iload (dX8_nextPart_p1 30 rfl) 187 rfl 6 rfl ?_
      refine V_iast 2 rfl (dX8_nextPart_p1 31 rfl) 188 rfl [(q1, .inr (9, [.int i3, v4, v5, .int i6, .int i7, .int i8, .int i9, .int i10, .int i11])), (q2, .inl (E.2.1, 81, .inl f12)), (q81, .inl (E.2.1, n156, .inl (upd f157 i153.toNatClampNeg i178)))] rfl ?_
      refine V_iinc (dX8_nextPart_p1 32 rfl) 191 rfl 4 rfl (i153 + (1 : Int32)) rfl [(0, .ref q1), (1, .ref q2), (2, .int i152), (4, .ref q81), (5, .int (i153 + (1 : Int32))), (6, .int i205), (9, .int i178)] (Nat.le_of_ble_eq_true rfl) rfl ?_
      refine V_iload (dX8_nextPart_p1 33 rfl) 193 rfl 5 rfl ?_
      refine V_jn (fun (k206 : Int32 → Option ((Nat → Int32) × Option (Nat × (Nat → Int32)))) => ∀ (i210 : Int32), V E K mX8_nextPart (Qm E K mX8_nextPart (zX8_nextPart E q1 q2 i3 v4 v5 i6 i7 i8 i9 i10 i11)) (bc) (bs) [(q1, .inr (9, [.int i3, v4, v5, .int i6, .int i7, .int i8, .int i9, .int i10, .int i11])), (q2, .inl (E.2.1, 81, .inl f12)), (q81, .inl (E.2.1, n156, .inl (upd f157 i153.toNatClampNeg i178)))] 214 [(0, .ref q1), (1, .ref q2), (2, .int i152), (4, .ref q81), (5, .int (i153 + (1 : Int32))), (6, .int i205)] [.int i210] (k206 i210)) ?_ ?_
      · intro i210
        show V E K mX8_nextPart (Qm E K mX8_nextPart (zX8_nextPart E q1 q2 i3 v4 v5 i6 i7 i8 i9 i10 i11)) (bc) (bs) [(q1, .inr (9, [.int i3, v4, v5, .int i6, .int i7, .int i8, .int i9, .int i10, .int i11])), (q2, .inl (E.2.1, 81, .inl f12)), (q81, .inl (E.2.1, n156, .inl (upd f157 i153.toNatClampNeg i178)))] 214 [(0, .ref q1), (1, .ref q2), (2, .int i152), (4, .ref q81), (5, .int (i153 + (1 : Int32))), (6, .int i205)] [.int i210] _
        refine V_istore (dX8_nextPart_p1 44 rfl) 216 rfl [(0, .ref q1), (1, .ref q2), (2, .int i152), (4, .ref q81), (5, .int (i153 + (1 : Int32))), (6, .int i205), (7, .int i210)] (Nat.le_of_ble_eq_true rfl) rfl ?_
        refine V_goto (dX8_nextPart_p1 45 rfl) 110 (by decide) ?_
        exact hrec (i153 + (1 : Int32)) i205 i210 (upd f157 i153.toNatClampNeg i178)
      · intro k206 hk207
        refine V_jn (fun (k208 : Unit → Option ((Nat → Int32) × Option (Nat × (Nat → Int32)))) => ∀ (_ : Unit), V E K mX8_nextPart (Qm E K mX8_nextPart (zX8_nextPart E q1 q2 i3 v4 v5 i6 i7 i8 i9 i10 i11)) (bc) (bs) [(q1, .inr (9, [.int i3, v4, v5, .int i6, .int i7, .int i8, .int i9, .int i10, .int i11])), (q2, .inl (E.2.1, 81, .inl f12)), (q81, .inl (E.2.1, n156, .inl (upd f157 i153.toNatClampNeg i178)))] 213 [(0, .ref q1), (1, .ref q2), (2, .int i152), (4, .ref q81), (5, .int (i153 + (1 : Int32))), (6, .int i205)] [] (k208 ())) ?_ ?_
        · intro _
          show V E K mX8_nextPart (Qm E K mX8_nextPart (zX8_nextPart E q1 q2 i3 v4 v5 i6 i7 i8 i9 i10 i11)) (bc) (bs) [(q1, .inr (9, [.int i3, v4, v5, .int i6, .int i7, .int i8, .int i9, .int i10, .int i11])), (q2, .inl (E.2.1, 81, .inl f12)), (q81, .inl (E.2.1, n156, .inl (upd f157 i153.toNatClampNeg i178)))] 213 [(0, .ref q1), (1, .ref q2), (2, .int i152), (4, .ref q81), (5, .int (i153 + (1 : Int32))), (6, .int i205)] [] _
          refine V_iconst (0 : Int32) (by decide) (dX8_nextPart_p1 43 rfl) 214 rfl ?_
          exact hk207 (0 : Int32)
        · intro k208 hk209
          refine V_if_ge (dX8_nextPart_p1 34 rfl) 213 (by decide) 196 rfl ?_ ?_
          · refine V_pick [0, 1, 2, 3, 4, 5] [(0, .ref q1), (1, .ref q2), (2, .int i152), (4, .ref q81), (5, .int (i153 + (1 : Int32))), (6, .int i205)] rfl ?_
            exact hk209 ()
          · refine V_iload_n (dX8_nextPart_p1 35 rfl) 197 rfl 2 rfl ?_
            refine V_if_le (dX8_nextPart_p1 36 rfl) 213 (by decide) 200 rfl ?_ ?_
            · refine V_pick [0, 1, 2, 3, 4, 5] [(0, .ref q1), (1, .ref q2), (2, .int i152), (4, .ref q81), (5, .int (i153 + (1 : Int32))), (6, .int i205)] rfl ?_
              exact hk209 ()
            · refine V_iload (dX8_nextPart_p1 37 rfl) 202 rfl 6 rfl ?_
              refine V_aload_n (dX8_nextPart_p1 38 rfl) 203 rfl 0 rfl ?_
              refine V_get gf_M_30 0 rfl rfl (dX8_nextPart_p1 39 rfl) 206 rfl ?_
              refine V_icmp_ne (dX8_nextPart_p1 40 rfl) 213 (by decide) 209 rfl ?_ ?_
              · refine V_pick [0, 1, 2, 3, 4, 5] [(0, .ref q1), (1, .ref q2), (2, .int i152), (4, .ref q81), (5, .int (i153 + (1 : Int32))), (6, .int i205)] rfl ?_
                exact hk209 ()
              · refine V_iconst (1 : Int32) (by decide) (dX8_nextPart_p1 41 rfl) 210 rfl ?_
                refine V_goto (dX8_nextPart_p1 42 rfl) 214 (by decide) ?_
                refine V_pick [0, 1, 2, 3, 4, 5] [(0, .ref q1), (1, .ref q2), (2, .int i152), (4, .ref q81), (5, .int (i153 + (1 : Int32))), (6, .int i205)] rfl ?_
                exact hk207 (1 : Int32)
set_option maxRecDepth 20000 in
theorem vLX8_nextPart_L110 {E : EX} {K : KX} (hs : K.l.stackTraces = false) (q1 q2 q81 : Nat) (i3 : Int32) (v4 v5 : Value) (i6 i7 i8 i9 i10 i11 i152 : Int32) (f12 : Nat → Int32) (n156 : Nat) (bc bs : Nat) {k1 : Int32 → Int32 → Int32 → (Nat → Int32) → Option ((Nat → Int32) × Option (Nat × (Nat → Int32)))} (hk1 : ∀ (i211 i212 i213 : Int32) (f214 : Nat → Int32), V E K mX8_nextPart (Qm E K mX8_nextPart (zX8_nextPart E q1 q2 i3 v4 v5 i6 i7 i8 i9 i10 i11)) (bc) (bs) [(q1, .inr (9, [.int i3, v4, v5, .int i6, .int i7, .int i8, .int i9, .int i10, .int i11])), (q2, .inl (E.2.1, 81, .inl f12)), (q81, .inl (E.2.1, n156, .inl f214))] 219 [(1, .ref q2), (2, .int i152), (4, .ref q81), (5, .int i211), (6, .int i212), (7, .int i213)] [] (k1 i211 i212 i213 f214)) : ∀ (n : Nat) (i153 i154 i155 : Int32) (f157 : Nat → Int32), V E K mX8_nextPart (Qm E K mX8_nextPart (zX8_nextPart E q1 q2 i3 v4 v5 i6 i7 i8 i9 i10 i11)) (bc) (bs) [(q1, .inr (9, [.int i3, v4, v5, .int i6, .int i7, .int i8, .int i9, .int i10, .int i11])), (q2, .inl (E.2.1, 81, .inl f12)), (q81, .inl (E.2.1, n156, .inl f157))] 110 [(0, .ref q1), (1, .ref q2), (2, .int i152), (4, .ref q81), (5, .int i153), (6, .int i154), (7, .int i155)] [] (LX8_nextPart_L110  i7 i152 f12 n156 n i153 i154 i155 f157 k1)
  | 0, _, _, _, _ => V_none
  | n + 1, i153, i154, i155, f157 => vBX8_nextPart_L110 hs q1 q2 q81 i3 v4 v5 i6 i7 i8 i9 i10 i11 i152 f12 n156 bc bs i153 i154 i155 f157 (fun i153 i154 i155 f157 => vLX8_nextPart_L110 hs q1 q2 q81 i3 v4 v5 i6 i7 i8 i9 i10 i11 i152 f12 n156 bc bs hk1 n i153 i154 i155 f157) hk1
set_option maxRecDepth 20000 in
theorem vBX8_nextPart_L246 {E : EX} {K : KX} (hs : K.l.stackTraces = false) (q1 q2 q81 : Nat) (i3 : Int32) (v4 v5 : Value) (i6 i7 i8 i9 i10 i11 i211 i217 i213 : Int32) (f12 : Nat → Int32) (n243 : Nat) (f214 : Nat → Int32) (bc bs : Nat) (i241 i242 : Int32) {rec : Int32 → Int32 → Option ((Nat → Int32) × Option (Nat × (Nat → Int32)))} {k1 : Int32 → Option ((Nat → Int32) × Option (Nat × (Nat → Int32)))} (hrec : ∀ (i241 i242 : Int32), V E K mX8_nextPart (Qm E K mX8_nextPart (zX8_nextPart E q1 q2 i3 v4 v5 i6 i7 i8 i9 i10 i11)) (bc) (bs) [(q1, .inr (9, [.int i3, v4, v5, .int i6, .int i7, .int i8, .int i9, .int i10, .int i11])), (q2, .inl (E.2.1, 81, .inl f12)), (q81, .inl (E.2.1, n243, .inl f214))] 246 [(1, .ref q2), (4, .ref q81), (5, .int i211), (6, .int i217), (7, .int i213), (8, .int i241), (9, .int i242)] [] (rec i241 i242)) (hk1 : ∀ (i245 : Int32), V E K mX8_nextPart (Qm E K mX8_nextPart (zX8_nextPart E q1 q2 i3 v4 v5 i6 i7 i8 i9 i10 i11)) (bc) (bs) [(q1, .inr (9, [.int i3, v4, v5, .int i6, .int i7, .int i8, .int i9, .int i10, .int i11])), (q2, .inl (E.2.1, 81, .inl f12)), (q81, .inl (E.2.1, n243, .inl f214))] 284 [(1, .ref q2), (4, .ref q81), (5, .int i211), (6, .int i217), (7, .int i213), (8, .int i245)] [] (k1 i245)) : V E K mX8_nextPart (Qm E K mX8_nextPart (zX8_nextPart E q1 q2 i3 v4 v5 i6 i7 i8 i9 i10 i11)) (bc) (bs) [(q1, .inr (9, [.int i3, v4, v5, .int i6, .int i7, .int i8, .int i9, .int i10, .int i11])), (q2, .inl (E.2.1, 81, .inl f12)), (q81, .inl (E.2.1, n243, .inl f214))] 246 [(1, .ref q2), (4, .ref q81), (5, .int i211), (6, .int i217), (7, .int i213), (8, .int i241), (9, .int i242)] [] (BX8_nextPart_L246  i211 f12 n243 f214 i241 i242 rec k1) := by
  unfold BX8_nextPart_L246
  refine V_iload (dX8_nextPart_p1 60 rfl) 248 rfl 6 rfl ?_
  refine V_iload (dX8_nextPart_p1 61 rfl) 250 rfl 2 rfl ?_
  refine V_icmp_ge (dX8_nextPart_p1 62 rfl) 284 (by decide) 253 rfl ?_ ?_
  · refine V_pick [0, 1, 2, 3, 4, 5] [(1, .ref q2), (4, .ref q81), (5, .int i211), (6, .int i217), (7, .int i213), (8, .int i241)] rfl ?_
    exact hk1 i241
  · refine V_iload (dX8_nextPart_p1 63 rfl) 255 rfl 5 rfl ?_
    refine V_aload_n (dX8_nextPart_p1 64 rfl) 256 rfl 0 rfl ?_
    refine V_aload (dX8_nextPart_p1 65 rfl) 258 rfl 1 rfl ?_
    refine V_iload (dX8_nextPart_p1 66 rfl) 260 rfl 6 rfl ?_
    refine V_iconst (1 : Int32) (by decide) (dX8_nextPart_p1 67 rfl) 261 rfl ?_
    refine V_isub (dX8_nextPart_p1 68 rfl) 262 rfl ?_
    refine V_iald 2 rfl (dX8_nextPart_p1 69 rfl) 263 rfl ?_
    refine V_bipush (9 : Int32) (by decide) (dX8_nextPart_p2 0 rfl) 265 rfl ?_
    refine V_imul (dX8_nextPart_p2 1 rfl) 266 rfl ?_
    refine V_aload (dX8_nextPart_p2 2 rfl) 268 rfl 1 rfl ?_
    refine V_iload (dX8_nextPart_p2 3 rfl) 270 rfl 6 rfl ?_
    refine V_iald 2 rfl (dX8_nextPart_p2 4 rfl) 271 rfl ?_
    refine V_iadd (dX8_nextPart_p2 5 rfl) 272 rfl ?_
    refine V_iald 1 rfl (dX8_nextPart_p2 6 rfl) 273 rfl ?_
    refine V_mmin tw_1397 tw_341 tw_82 tw_342 (Nat.le_of_ble_eq_true rfl) (Nat.le_of_ble_eq_true rfl) (dX8_nextPart_p2 7 rfl) 276 rfl ?_
    refine V_nmI (fun i244 => ?_)
    refine V_istore (dX8_nextPart_p2 8 rfl) 278 rfl [(1, .ref q2), (4, .ref q81), (5, .int i211), (6, .int i217), (7, .int i213), (8, .int i244), (9, .int i242)] (Nat.le_of_ble_eq_true rfl) rfl ?_
    refine V_iinc (dX8_nextPart_p2 9 rfl) 281 rfl 6 rfl (i242 + (1 : Int32)) rfl [(1, .ref q2), (4, .ref q81), (5, .int i211), (6, .int i217), (7, .int i213), (8, .int i244), (9, .int (i242 + (1 : Int32)))] (Nat.le_of_ble_eq_true rfl) rfl ?_
    refine V_goto (dX8_nextPart_p2 10 rfl) 246 (by decide) ?_
    exact hrec i244 (i242 + (1 : Int32))
set_option maxRecDepth 20000 in
theorem vLX8_nextPart_L246 {E : EX} {K : KX} (hs : K.l.stackTraces = false) (q1 q2 q81 : Nat) (i3 : Int32) (v4 v5 : Value) (i6 i7 i8 i9 i10 i11 i211 i217 i213 : Int32) (f12 : Nat → Int32) (n243 : Nat) (f214 : Nat → Int32) (bc bs : Nat) {k1 : Int32 → Option ((Nat → Int32) × Option (Nat × (Nat → Int32)))} (hk1 : ∀ (i245 : Int32), V E K mX8_nextPart (Qm E K mX8_nextPart (zX8_nextPart E q1 q2 i3 v4 v5 i6 i7 i8 i9 i10 i11)) (bc) (bs) [(q1, .inr (9, [.int i3, v4, v5, .int i6, .int i7, .int i8, .int i9, .int i10, .int i11])), (q2, .inl (E.2.1, 81, .inl f12)), (q81, .inl (E.2.1, n243, .inl f214))] 284 [(1, .ref q2), (4, .ref q81), (5, .int i211), (6, .int i217), (7, .int i213), (8, .int i245)] [] (k1 i245)) : ∀ (n : Nat) (i241 i242 : Int32), V E K mX8_nextPart (Qm E K mX8_nextPart (zX8_nextPart E q1 q2 i3 v4 v5 i6 i7 i8 i9 i10 i11)) (bc) (bs) [(q1, .inr (9, [.int i3, v4, v5, .int i6, .int i7, .int i8, .int i9, .int i10, .int i11])), (q2, .inl (E.2.1, 81, .inl f12)), (q81, .inl (E.2.1, n243, .inl f214))] 246 [(1, .ref q2), (4, .ref q81), (5, .int i211), (6, .int i217), (7, .int i213), (8, .int i241), (9, .int i242)] [] (LX8_nextPart_L246  i211 f12 n243 f214 n i241 i242 k1)
  | 0, _, _ => V_none
  | n + 1, i241, i242 => vBX8_nextPart_L246 hs q1 q2 q81 i3 v4 v5 i6 i7 i8 i9 i10 i11 i211 i217 i213 f12 n243 f214 bc bs i241 i242 (fun i241 i242 => vLX8_nextPart_L246 hs q1 q2 q81 i3 v4 v5 i6 i7 i8 i9 i10 i11 i211 i217 i213 f12 n243 f214 bc bs hk1 n i241 i242) hk1
set_option maxRecDepth 20000 in
theorem vBX8_nextPart_L319 {E : EX} {K : KX} (hs : K.l.stackTraces = false) (q1 q2 q81 q246 : Nat) (i3 : Int32) (v4 v5 : Value) (i6 i7 i8 i9 i10 i11 i211 i217 i245 : Int32) (f12 : Nat → Int32) (n271 : Nat) (f214 : Nat → Int32) (n272 : Nat) (bc bs : Nat) (i270 : Int32) (f273 : Nat → Int32) {rec : Int32 → (Nat → Int32) → Option ((Nat → Int32) × Option (Nat × (Nat → Int32)))} {k1 : (Nat → Int32) → Option ((Nat → Int32) × Option (Nat × (Nat → Int32)))} (hrec : ∀ (i270 : Int32) (f273 : Nat → Int32), V E K mX8_nextPart (Qm E K mX8_nextPart (zX8_nextPart E q1 q2 i3 v4 v5 i6 i7 i8 i9 i10 i11)) (bc) (bs) [(q1, .inr (9, [.int i3, v4, v5, .int i6, .int i7, .int i8, .int i9, .int i10, .int i11])), (q2, .inl (E.2.1, 81, .inl f12)), (q81, .inl (E.2.1, n271, .inl f214)), (q246, .inl (E.2.1, n272, .inl f273))] 319 [(1, .ref q2), (4, .ref q81), (5, .int i211), (6, .int i217), (8, .int i245), (9, .ref q246), (10, .int i270)] [] (rec i270 f273)) (hk1 : ∀ (f274 : Nat → Int32), V E K mX8_nextPart (Qm E K mX8_nextPart (zX8_nextPart E q1 q2 i3 v4 v5 i6 i7 i8 i9 i10 i11)) (bc) (bs) [(q1, .inr (9, [.int i3, v4, v5, .int i6, .int i7, .int i8, .int i9, .int i10, .int i11])), (q2, .inl (E.2.1, 81, .inl f12)), (q81, .inl (E.2.1, n271, .inl f214)), (q246, .inl (E.2.1, n272, .inl f274))] 347 [(1, .ref q2), (4, .ref q81), (5, .int i211), (6, .int i217), (8, .int i245), (9, .ref q246)] [] (k1 f274)) : V E K mX8_nextPart (Qm E K mX8_nextPart (zX8_nextPart E q1 q2 i3 v4 v5 i6 i7 i8 i9 i10 i11)) (bc) (bs) [(q1, .inr (9, [.int i3, v4, v5, .int i6, .int i7, .int i8, .int i9, .int i10, .int i11])), (q2, .inl (E.2.1, 81, .inl f12)), (q81, .inl (E.2.1, n271, .inl f214)), (q246, .inl (E.2.1, n272, .inl f273))] 319 [(1, .ref q2), (4, .ref q81), (5, .int i211), (6, .int i217), (8, .int i245), (9, .ref q246), (10, .int i270)] [] (BX8_nextPart_L319  i211 i217 n271 f214 n272 i270 f273 rec k1) := by
  unfold BX8_nextPart_L319
  refine V_iload (dX8_nextPart_p2 32 rfl) 321 rfl 6 rfl ?_
  refine V_iload (dX8_nextPart_p2 33 rfl) 323 rfl 2 rfl ?_
  refine V_icmp_ge (dX8_nextPart_p2 34 rfl) 347 (by decide) 326 rfl ?_ ?_
  · refine V_pick [0, 1, 2, 3, 4, 5] [(1, .ref q2), (4, .ref q81), (5, .int i211), (6, .int i217), (8, .int i245), (9, .ref q246)] rfl ?_
    exact hk1 f273
  · refine V_aload (dX8_nextPart_p2 35 rfl) 328 rfl 5 rfl ?_
    refine V_iload (dX8_nextPart_p2 36 rfl) 330 rfl 6 rfl ?_
    refine V_iload (dX8_nextPart_p2 37 rfl) 332 rfl 3 rfl ?_
    refine V_isub (dX8_nextPart_p2 38 rfl) 333 rfl ?_
    refine V_iconst (2 : Int32) (by decide) (dX8_nextPart_p2 39 rfl) 334 rfl ?_
    refine V_iadd (dX8_nextPart_p2 40 rfl) 335 rfl ?_
    refine V_aload (dX8_nextPart_p2 41 rfl) 337 rfl 1 rfl ?_
    refine V_iload (dX8_nextPart_p2 42 rfl) 339 rfl 6 rfl ?_
    refine V_iald 2 rfl (dX8_nextPart_p2 43 rfl) 340 rfl ?_
    refine V_iast 3 rfl (dX8_nextPart_p2 44 rfl) 341 rfl [(q1, .inr (9, [.int i3, v4, v5, .int i6, .int i7, .int i8, .int i9, .int i10, .int i11])), (q2, .inl (E.2.1, 81, .inl f12)), (q81, .inl (E.2.1, n271, .inl f214)), (q246, .inl (E.2.1, n272, .inl (upd f273 ((i270 - i217) + (2 : Int32)).toNatClampNeg (f214 i270.toNatClampNeg))))] rfl ?_
    refine V_iinc (dX8_nextPart_p2 45 rfl) 344 rfl 6 rfl (i270 + (1 : Int32)) rfl [(1, .ref q2), (4, .ref q81), (5, .int i211), (6, .int i217), (8, .int i245), (9, .ref q246), (10, .int (i270 + (1 : Int32)))] (Nat.le_of_ble_eq_true rfl) rfl ?_
    refine V_goto (dX8_nextPart_p2 46 rfl) 319 (by decide) ?_
    exact hrec (i270 + (1 : Int32)) (upd f273 ((i270 - i217) + (2 : Int32)).toNatClampNeg (f214 i270.toNatClampNeg))
set_option maxRecDepth 20000 in
theorem vLX8_nextPart_L319 {E : EX} {K : KX} (hs : K.l.stackTraces = false) (q1 q2 q81 q246 : Nat) (i3 : Int32) (v4 v5 : Value) (i6 i7 i8 i9 i10 i11 i211 i217 i245 : Int32) (f12 : Nat → Int32) (n271 : Nat) (f214 : Nat → Int32) (n272 : Nat) (bc bs : Nat) {k1 : (Nat → Int32) → Option ((Nat → Int32) × Option (Nat × (Nat → Int32)))} (hk1 : ∀ (f274 : Nat → Int32), V E K mX8_nextPart (Qm E K mX8_nextPart (zX8_nextPart E q1 q2 i3 v4 v5 i6 i7 i8 i9 i10 i11)) (bc) (bs) [(q1, .inr (9, [.int i3, v4, v5, .int i6, .int i7, .int i8, .int i9, .int i10, .int i11])), (q2, .inl (E.2.1, 81, .inl f12)), (q81, .inl (E.2.1, n271, .inl f214)), (q246, .inl (E.2.1, n272, .inl f274))] 347 [(1, .ref q2), (4, .ref q81), (5, .int i211), (6, .int i217), (8, .int i245), (9, .ref q246)] [] (k1 f274)) : ∀ (n : Nat) (i270 : Int32) (f273 : Nat → Int32), V E K mX8_nextPart (Qm E K mX8_nextPart (zX8_nextPart E q1 q2 i3 v4 v5 i6 i7 i8 i9 i10 i11)) (bc) (bs) [(q1, .inr (9, [.int i3, v4, v5, .int i6, .int i7, .int i8, .int i9, .int i10, .int i11])), (q2, .inl (E.2.1, 81, .inl f12)), (q81, .inl (E.2.1, n271, .inl f214)), (q246, .inl (E.2.1, n272, .inl f273))] 319 [(1, .ref q2), (4, .ref q81), (5, .int i211), (6, .int i217), (8, .int i245), (9, .ref q246), (10, .int i270)] [] (LX8_nextPart_L319  i211 i217 n271 f214 n272 n i270 f273 k1)
  | 0, _, _ => V_none
  | n + 1, i270, f273 => vBX8_nextPart_L319 hs q1 q2 q81 q246 i3 v4 v5 i6 i7 i8 i9 i10 i11 i211 i217 i245 f12 n271 f214 n272 bc bs i270 f273 (fun i270 f273 => vLX8_nextPart_L319 hs q1 q2 q81 q246 i3 v4 v5 i6 i7 i8 i9 i10 i11 i211 i217 i245 f12 n271 f214 n272 bc bs hk1 n i270 f273) hk1
set_option maxRecDepth 20000 in
theorem vBX8_nextPart_L353 {E : EX} {K : KX} (hs : K.l.stackTraces = false) (q1 q2 q81 q246 : Nat) (i3 : Int32) (v4 v5 : Value) (i6 i7 i8 i9 i10 i11 i211 i245 : Int32) (n297 : Nat) (f214 : Nat → Int32) (n298 : Nat) (f274 : Nat → Int32) (bc bs : Nat) (i295 : Int32) (f296 : Nat → Int32) {rec : Int32 → (Nat → Int32) → Option ((Nat → Int32) × Option (Nat × (Nat → Int32)))}  (hrec : ∀ (i295 : Int32) (f296 : Nat → Int32), V E K mX8_nextPart (Qm E K mX8_nextPart (zX8_nextPart E q1 q2 i3 v4 v5 i6 i7 i8 i9 i10 i11)) (bc) (bs) [(q1, .inr (9, [.int i3, v4, v5, .int i6, .int i7, .int i8, .int i9, .int i10, .int i11])), (q2, .inl (E.2.1, 81, .inl f296)), (q81, .inl (E.2.1, n297, .inl f214)), (q246, .inl (E.2.1, n298, .inl f274))] 353 [(1, .ref q2), (4, .ref q81), (5, .int i211), (8, .int i245), (9, .ref q246), (10, .int i295)] [] (rec i295 f296))  : V E K mX8_nextPart (Qm E K mX8_nextPart (zX8_nextPart E q1 q2 i3 v4 v5 i6 i7 i8 i9 i10 i11)) (bc) (bs) [(q1, .inr (9, [.int i3, v4, v5, .int i6, .int i7, .int i8, .int i9, .int i10, .int i11])), (q2, .inl (E.2.1, 81, .inl f296)), (q81, .inl (E.2.1, n297, .inl f214)), (q246, .inl (E.2.1, n298, .inl f274))] 353 [(1, .ref q2), (4, .ref q81), (5, .int i211), (8, .int i245), (9, .ref q246), (10, .int i295)] [] (BX8_nextPart_L353  i211 i245 n297 f214 n298 f274 i295 f296 rec ) := by
  unfold BX8_nextPart_L353
  refine V_iload (dX8_nextPart_p2 51 rfl) 355 rfl 5 rfl ?_
  refine V_iload (dX8_nextPart_p2 52 rfl) 357 rfl 2 rfl ?_
  refine V_icmp_ge (dX8_nextPart_p2 53 rfl) 412 (by decide) 360 rfl ?_ ?_
  · refine V_aload (dX8_nextPart_p3 20 rfl) 414 rfl 4 rfl ?_
    refine V_world [0, 1, 3] [(q1, .inr (9, [.int i3, v4, v5, .int i6, .int i7, .int i8, .int i9, .int i10, .int i11])), (q2, .inl (E.2.1, 81, .inl f296)), (q246, .inl (E.2.1, n298, .inl f274))] rfl rfl rfl ?_
    exact V_aret rfl (Or.inr ⟨_, rfl⟩) (Or.inr ⟨_, rfl⟩) (dX8_nextPart_p3 21 rfl) (Or.inr ⟨n298, f274, q246, rfl, rfl, rfl⟩)
  · refine V_aload_n (dX8_nextPart_p2 54 rfl) 361 rfl 0 rfl ?_
    refine V_aload (dX8_nextPart_p2 55 rfl) 363 rfl 1 rfl ?_
    refine V_iload (dX8_nextPart_p2 56 rfl) 365 rfl 5 rfl ?_
    refine V_iconst (1 : Int32) (by decide) (dX8_nextPart_p2 57 rfl) 366 rfl ?_
    refine V_isub (dX8_nextPart_p2 58 rfl) 367 rfl ?_
    refine V_iald 2 rfl (dX8_nextPart_p2 59 rfl) 368 rfl ?_
    refine V_bipush (9 : Int32) (by decide) (dX8_nextPart_p2 60 rfl) 370 rfl ?_
    refine V_imul (dX8_nextPart_p2 61 rfl) 371 rfl ?_
    refine V_aload (dX8_nextPart_p2 62 rfl) 373 rfl 1 rfl ?_
    refine V_iload (dX8_nextPart_p2 63 rfl) 375 rfl 5 rfl ?_
    refine V_iald 2 rfl (dX8_nextPart_p2 64 rfl) 376 rfl ?_
    refine V_iadd (dX8_nextPart_p2 65 rfl) 377 rfl ?_
    refine V_dup2 rfl rfl (dX8_nextPart_p2 66 rfl) 378 rfl ?_
    refine V_iald 1 rfl (dX8_nextPart_p2 67 rfl) 379 rfl ?_
    refine V_iload (dX8_nextPart_p2 68 rfl) 381 rfl 3 rfl ?_
    refine V_isub (dX8_nextPart_p2 69 rfl) 382 rfl ?_
    refine V_iast 1 rfl (dX8_nextPart_p3 0 rfl) 383 rfl [(q1, .inr (9, [.int i3, v4, v5, .int i6, .int i7, .int i8, .int i9, .int i10, .int i11])), (q2, .inl (E.2.1, 81, .inl (upd f296 (((f214 (i295 - (1 : Int32)).toNatClampNeg) * (9 : Int32)) + (f214 i295.toNatClampNeg)).toNatClampNeg ((f296 (((f214 (i295 - (1 : Int32)).toNatClampNeg) * (9 : Int32)) + (f214 i295.toNatClampNeg)).toNatClampNeg) - i245)))), (q81, .inl (E.2.1, n297, .inl f214)), (q246, .inl (E.2.1, n298, .inl f274))] rfl ?_
    refine V_aload_n (dX8_nextPart_p3 1 rfl) 384 rfl 0 rfl ?_
    refine V_aload (dX8_nextPart_p3 2 rfl) 386 rfl 1 rfl ?_
    refine V_iload (dX8_nextPart_p3 3 rfl) 388 rfl 5 rfl ?_
    refine V_iald 2 rfl (dX8_nextPart_p3 4 rfl) 389 rfl ?_
    refine V_bipush (9 : Int32) (by decide) (dX8_nextPart_p3 5 rfl) 391 rfl ?_
    refine V_imul (dX8_nextPart_p3 6 rfl) 392 rfl ?_
    refine V_aload (dX8_nextPart_p3 7 rfl) 394 rfl 1 rfl ?_
    refine V_iload (dX8_nextPart_p3 8 rfl) 396 rfl 5 rfl ?_
    refine V_iconst (1 : Int32) (by decide) (dX8_nextPart_p3 9 rfl) 397 rfl ?_
    refine V_isub (dX8_nextPart_p3 10 rfl) 398 rfl ?_
    refine V_iald 2 rfl (dX8_nextPart_p3 11 rfl) 399 rfl ?_
    refine V_iadd (dX8_nextPart_p3 12 rfl) 400 rfl ?_
    refine V_dup2 rfl rfl (dX8_nextPart_p3 13 rfl) 401 rfl ?_
    refine V_iald 1 rfl (dX8_nextPart_p3 14 rfl) 402 rfl ?_
    refine V_iload (dX8_nextPart_p3 15 rfl) 404 rfl 3 rfl ?_
    refine V_iadd (dX8_nextPart_p3 16 rfl) 405 rfl ?_
    refine V_iast 1 rfl (dX8_nextPart_p3 17 rfl) 406 rfl [(q1, .inr (9, [.int i3, v4, v5, .int i6, .int i7, .int i8, .int i9, .int i10, .int i11])), (q2, .inl (E.2.1, 81, .inl (upd (upd f296 (((f214 (i295 - (1 : Int32)).toNatClampNeg) * (9 : Int32)) + (f214 i295.toNatClampNeg)).toNatClampNeg ((f296 (((f214 (i295 - (1 : Int32)).toNatClampNeg) * (9 : Int32)) + (f214 i295.toNatClampNeg)).toNatClampNeg) - i245)) (((f214 i295.toNatClampNeg) * (9 : Int32)) + (f214 (i295 - (1 : Int32)).toNatClampNeg)).toNatClampNeg (((upd f296 (((f214 (i295 - (1 : Int32)).toNatClampNeg) * (9 : Int32)) + (f214 i295.toNatClampNeg)).toNatClampNeg ((f296 (((f214 (i295 - (1 : Int32)).toNatClampNeg) * (9 : Int32)) + (f214 i295.toNatClampNeg)).toNatClampNeg) - i245)) (((f214 i295.toNatClampNeg) * (9 : Int32)) + (f214 (i295 - (1 : Int32)).toNatClampNeg)).toNatClampNeg) + i245)))), (q81, .inl (E.2.1, n297, .inl f214)), (q246, .inl (E.2.1, n298, .inl f274))] rfl ?_
    refine V_iinc (dX8_nextPart_p3 18 rfl) 409 rfl 5 rfl (i295 + (1 : Int32)) rfl [(1, .ref q2), (4, .ref q81), (5, .int i211), (8, .int i245), (9, .ref q246), (10, .int (i295 + (1 : Int32)))] (Nat.le_of_ble_eq_true rfl) rfl ?_
    refine V_goto (dX8_nextPart_p3 19 rfl) 353 (by decide) ?_
    exact hrec (i295 + (1 : Int32)) (upd (upd f296 (((f214 (i295 - (1 : Int32)).toNatClampNeg) * (9 : Int32)) + (f214 i295.toNatClampNeg)).toNatClampNeg ((f296 (((f214 (i295 - (1 : Int32)).toNatClampNeg) * (9 : Int32)) + (f214 i295.toNatClampNeg)).toNatClampNeg) - i245)) (((f214 i295.toNatClampNeg) * (9 : Int32)) + (f214 (i295 - (1 : Int32)).toNatClampNeg)).toNatClampNeg (((upd f296 (((f214 (i295 - (1 : Int32)).toNatClampNeg) * (9 : Int32)) + (f214 i295.toNatClampNeg)).toNatClampNeg ((f296 (((f214 (i295 - (1 : Int32)).toNatClampNeg) * (9 : Int32)) + (f214 i295.toNatClampNeg)).toNatClampNeg) - i245)) (((f214 i295.toNatClampNeg) * (9 : Int32)) + (f214 (i295 - (1 : Int32)).toNatClampNeg)).toNatClampNeg) + i245))
set_option maxRecDepth 20000 in
theorem vLX8_nextPart_L353 {E : EX} {K : KX} (hs : K.l.stackTraces = false) (q1 q2 q81 q246 : Nat) (i3 : Int32) (v4 v5 : Value) (i6 i7 i8 i9 i10 i11 i211 i245 : Int32) (n297 : Nat) (f214 : Nat → Int32) (n298 : Nat) (f274 : Nat → Int32) (bc bs : Nat)   : ∀ (n : Nat) (i295 : Int32) (f296 : Nat → Int32), V E K mX8_nextPart (Qm E K mX8_nextPart (zX8_nextPart E q1 q2 i3 v4 v5 i6 i7 i8 i9 i10 i11)) (bc) (bs) [(q1, .inr (9, [.int i3, v4, v5, .int i6, .int i7, .int i8, .int i9, .int i10, .int i11])), (q2, .inl (E.2.1, 81, .inl f296)), (q81, .inl (E.2.1, n297, .inl f214)), (q246, .inl (E.2.1, n298, .inl f274))] 353 [(1, .ref q2), (4, .ref q81), (5, .int i211), (8, .int i245), (9, .ref q246), (10, .int i295)] [] (LX8_nextPart_L353  i211 i245 n297 f214 n298 f274 n i295 f296 )
  | 0, _, _ => V_none
  | n + 1, i295, f296 => vBX8_nextPart_L353 hs q1 q2 q81 q246 i3 v4 v5 i6 i7 i8 i9 i10 i11 i211 i245 n297 f214 n298 f274 bc bs i295 f296 (fun i295 f296 => vLX8_nextPart_L353 hs q1 q2 q81 q246 i3 v4 v5 i6 i7 i8 i9 i10 i11 i211 i245 n297 f214 n298 f274 bc bs  n i295 f296) 
set_option maxRecDepth 20000 in
theorem kX8_nextPart {E : EX} {l : Launch} (hl : l.stackTraces = false) (q1 q2 : Nat) (i3 : Int32) (v4 v5 : Value) (i6 i7 i8 i9 i10 i11 : Int32) (f12 : Nat → Int32) : Ct E l mX8_nextPart [.ref q1, .ref q2] [(q1, .inr (9, [.int i3, v4, v5, .int i6, .int i7, .int i8, .int i9, .int i10, .int i11])), (q2, .inl (E.2.1, 81, .inl f12))] (fX8_nextPart i3 i6 i7 f12) (zX8_nextPart E q1 q2 i3 v4 v5 i6 i7 i8 i9 i10 i11) := Ct_of hl mf_X8_nextPart.1 (Nat.le_of_ble_eq_true rfl) (fun K hs => by
  refine V_less 2 32 (Nat.le_refl _) (Nat.le_refl _) ?_
  refine V_pick [0, 1] [(0, .ref q1), (1, .ref q2)] rfl ?_
  unfold fX8_nextPart
  refine V_aload_n (dX8_nextPart_p0 0 rfl) 1 rfl 0 rfl ?_
  refine V_aload_n (dX8_nextPart_p0 1 rfl) 2 rfl 1 rfl ?_
  refine V_aload_n (dX8_nextPart_p0 2 rfl) 3 rfl 0 rfl ?_
  refine V_get gf_M_27 0 rfl rfl (dX8_nextPart_p0 3 rfl) 6 rfl ?_
  refine V_callV (M := mX8_nextPart) (wcs := [(q1, .inr (9, [.int i3, v4, v5, .int i6, .int i7, .int i8, .int i9, .int i10, .int i11])), (q2, .inl (E.2.1, 81, .inl f12))]) (wr := []) mf_X8_fromPlace tw_1307 tw_1309 tw_32 ⟨Nat.le_of_ble_eq_true rfl, Nat.le_of_ble_eq_true rfl⟩ (dX8_nextPart_p0 4 rfl) 9 rfl (kX8_fromPlace hs q1 q2 i3 v4 v5 i6 i7 i8 i9 i10 i11 f12 i6) rfl [0, 1] [] (q0 := 0) rfl rfl rfl rfl (by decide) rfl rfl rfl rfl (Nat.le_of_ble_eq_true rfl) 2 32 (show 2 + 0 ≤ 2 from Nat.le_of_ble_eq_true rfl) (show 32 + 0 ≤ 32 from Nat.le_of_ble_eq_true rfl) (fun z13 v w hz => ?_)
  obtain ⟨rfl, rfl⟩ := hz
  show V E K mX8_nextPart (Qm E K mX8_nextPart (zX8_nextPart E q1 q2 i3 v4 v5 i6 i7 i8 i9 i10 i11)) 2 32 [(q1, .inr (9, [.int i3, v4, v5, .int i6, .int i7, .int i8, .int i9, .int i10, .int i11])), (q2, .inl (E.2.1, 81, .inl f12))] 9 [(0, .ref q1), (1, .ref q2)] [.int z13] _
  refine V_istore_n (dX8_nextPart_p0 5 rfl) 10 rfl [(0, .ref q1), (1, .ref q2), (2, .int z13)] (Nat.le_of_ble_eq_true rfl) rfl ?_
  refine V_iload_n (dX8_nextPart_p0 6 rfl) 11 rfl 2 rfl ?_
  refine V_jn (fun (k14 : Int32 → Option ((Nat → Int32) × Option (Nat × (Nat → Int32)))) => ∀ (i16 : Int32), V E K mX8_nextPart (Qm E K mX8_nextPart (zX8_nextPart E q1 q2 i3 v4 v5 i6 i7 i8 i9 i10 i11)) 2 32 [(q1, .inr (9, [.int i3, v4, v5, .int i6, .int i7, .int i8, .int i9, .int i10, .int i11])), (q2, .inl (E.2.1, 81, .inl f12))] 22 [(0, .ref q1), (1, .ref q2), (2, .int z13)] [.int i16] (k14 i16)) ?_ ?_
  · intro i16
    show V E K mX8_nextPart (Qm E K mX8_nextPart (zX8_nextPart E q1 q2 i3 v4 v5 i6 i7 i8 i9 i10 i11)) 2 32 [(q1, .inr (9, [.int i3, v4, v5, .int i6, .int i7, .int i8, .int i9, .int i10, .int i11])), (q2, .inl (E.2.1, 81, .inl f12))] 22 [(0, .ref q1), (1, .ref q2), (2, .int z13)] [.int i16] _
    refine V_istore_n (dX8_nextPart_p0 12 rfl) 23 rfl [(0, .ref q1), (1, .ref q2), (2, .int z13), (3, .int i16)] (Nat.le_of_ble_eq_true rfl) rfl ?_
    refine V_aload_n (dX8_nextPart_p0 13 rfl) 24 rfl 0 rfl ?_
    refine V_get gf_M_17 0 rfl rfl (dX8_nextPart_p0 14 rfl) 27 rfl ?_
    refine V_iconst (1 : Int32) (by decide) (dX8_nextPart_p0 15 rfl) 28 rfl ?_
    refine V_isub (dX8_nextPart_p0 16 rfl) 29 rfl ?_
    refine V_nmI (fun i17 => ?_)
    refine V_istore (dX8_nextPart_p0 17 rfl) 31 rfl [(0, .ref q1), (1, .ref q2), (2, .int z13), (3, .int i16), (4, .int i17)] (Nat.le_of_ble_eq_true rfl) rfl ?_
    refine vLX8_nextPart_L31 hs q1 q2 i3 v4 v5 i6 i7 i8 i9 i10 i11 z13 f12 2 32 ?_ 600 i16 i17
    intro i80
    show V E K mX8_nextPart (Qm E K mX8_nextPart (zX8_nextPart E q1 q2 i3 v4 v5 i6 i7 i8 i9 i10 i11)) 2 32 [(q1, .inr (9, [.int i3, v4, v5, .int i6, .int i7, .int i8, .int i9, .int i10, .int i11])), (q2, .inl (E.2.1, 81, .inl f12))] 80 [(0, .ref q1), (1, .ref q2), (2, .int z13), (3, .int i80)] [] _
    refine V_iload_n (dX8_nextPart_p0 42 rfl) 81 rfl 3 rfl ?_
    refine V_if_ge (dX8_nextPart_p0 43 rfl) 86 (by decide) 84 rfl ?_ ?_
    · refine V_aload_n (dX8_nextPart_p0 46 rfl) 87 rfl 0 rfl ?_
      refine V_get gf_M_17 0 rfl rfl (dX8_nextPart_p0 47 rfl) 90 rfl ?_
      refine V_iconst (1 : Int32) (by decide) (dX8_nextPart_p0 48 rfl) 91 rfl ?_
      refine V_iadd (dX8_nextPart_p0 49 rfl) 92 rfl ?_
      refine V_newi (by decide) tw_116 (dX8_nextPart_p0 50 rfl) 94 rfl 1 16 (show 1 + 1 ≤ 2 from Nat.le_of_ble_eq_true rfl) (show 16 + 16 ≤ 32 from Nat.le_of_ble_eq_true rfl) (fun q81 => ?_)
      refine V_eqW (ws2 := [(q1, .inr (9, [.int i3, v4, v5, .int i6, .int i7, .int i8, .int i9, .int i10, .int i11])), (q2, .inl (E.2.1, 81, .inl f12)), (q81, .inl (E.2.1, ((i3 + (1 : Int32)).toNatClampNeg), .inl (fun _ => 0)))]) rfl ?_
      refine V_astore (dX8_nextPart_p0 51 rfl) 96 rfl [(0, .ref q1), (1, .ref q2), (2, .int z13), (3, .int i80), (4, .ref q81)] (Nat.le_of_ble_eq_true rfl) rfl ?_
      refine V_iconst (1 : Int32) (by decide) (dX8_nextPart_p0 52 rfl) 97 rfl ?_
      refine V_istore (dX8_nextPart_p0 53 rfl) 99 rfl [(0, .ref q1), (1, .ref q2), (2, .int z13), (3, .int i80), (4, .ref q81), (5, .int (1 : Int32))] (Nat.le_of_ble_eq_true rfl) rfl ?_
      refine V_aload (dX8_nextPart_p0 54 rfl) 101 rfl 4 rfl ?_
      refine V_iconst (0 : Int32) (by decide) (dX8_nextPart_p0 55 rfl) 102 rfl ?_
      refine V_iload_n (dX8_nextPart_p0 56 rfl) 103 rfl 3 rfl ?_
      refine V_iast 2 rfl (dX8_nextPart_p0 57 rfl) 104 rfl [(q1, .inr (9, [.int i3, v4, v5, .int i6, .int i7, .int i8, .int i9, .int i10, .int i11])), (q2, .inl (E.2.1, 81, .inl f12)), (q81, .inl (E.2.1, ((i3 + (1 : Int32)).toNatClampNeg), .inl (upd (fun _ => 0) (0 : Int32).toNatClampNeg i80)))] rfl ?_
      refine V_iconst (-1 : Int32) (by decide) (dX8_nextPart_p0 58 rfl) 105 rfl ?_
      refine V_istore (dX8_nextPart_p0 59 rfl) 107 rfl [(0, .ref q1), (1, .ref q2), (2, .int z13), (3, .int i80), (4, .ref q81), (5, .int (1 : Int32)), (6, .int (-1 : Int32))] (Nat.le_of_ble_eq_true rfl) rfl ?_
      refine V_iconst (0 : Int32) (by decide) (dX8_nextPart_p0 60 rfl) 108 rfl ?_
      refine V_istore (dX8_nextPart_p0 61 rfl) 110 rfl [(0, .ref q1), (1, .ref q2), (2, .int z13), (3, .int i80), (4, .ref q81), (5, .int (1 : Int32)), (6, .int (-1 : Int32)), (7, .int (0 : Int32))] (Nat.le_of_ble_eq_true rfl) rfl ?_
      refine V_pick [0, 1, 2, 4, 5, 6, 7] [(0, .ref q1), (1, .ref q2), (2, .int z13), (4, .ref q81), (5, .int (1 : Int32)), (6, .int (-1 : Int32)), (7, .int (0 : Int32))] rfl ?_
      refine vLX8_nextPart_L110 hs q1 q2 q81 i3 v4 v5 i6 i7 i8 i9 i10 i11 z13 f12 ((i3 + (1 : Int32)).toNatClampNeg) 1 16 ?_ 600 (1 : Int32) (-1 : Int32) (0 : Int32) (upd (fun _ => 0) (0 : Int32).toNatClampNeg i80)
      intro i211 i212 i213 f214
      show V E K mX8_nextPart (Qm E K mX8_nextPart (zX8_nextPart E q1 q2 i3 v4 v5 i6 i7 i8 i9 i10 i11)) 1 16 [(q1, .inr (9, [.int i3, v4, v5, .int i6, .int i7, .int i8, .int i9, .int i10, .int i11])), (q2, .inl (E.2.1, 81, .inl f12)), (q81, .inl (E.2.1, ((i3 + (1 : Int32)).toNatClampNeg), .inl f214))] 219 [(1, .ref q2), (2, .int z13), (4, .ref q81), (5, .int i211), (6, .int i212), (7, .int i213)] [] _
      refine V_iload (dX8_nextPart_p1 46 rfl) 221 rfl 5 rfl ?_
      refine V_jn (fun (k215 : Int32 → Option ((Nat → Int32) × Option (Nat × (Nat → Int32)))) => ∀ (i217 : Int32), V E K mX8_nextPart (Qm E K mX8_nextPart (zX8_nextPart E q1 q2 i3 v4 v5 i6 i7 i8 i9 i10 i11)) 1 16 [(q1, .inr (9, [.int i3, v4, v5, .int i6, .int i7, .int i8, .int i9, .int i10, .int i11])), (q2, .inl (E.2.1, 81, .inl f12)), (q81, .inl (E.2.1, ((i3 + (1 : Int32)).toNatClampNeg), .inl f214))] 227 [(1, .ref q2), (2, .int z13), (4, .ref q81), (5, .int i211), (6, .int i217), (7, .int i213)] [] (k215 i217)) ?_ ?_
      · intro i217
        show V E K mX8_nextPart (Qm E K mX8_nextPart (zX8_nextPart E q1 q2 i3 v4 v5 i6 i7 i8 i9 i10 i11)) 1 16 [(q1, .inr (9, [.int i3, v4, v5, .int i6, .int i7, .int i8, .int i9, .int i10, .int i11])), (q2, .inl (E.2.1, 81, .inl f12)), (q81, .inl (E.2.1, ((i3 + (1 : Int32)).toNatClampNeg), .inl f214))] 227 [(1, .ref q2), (2, .int z13), (4, .ref q81), (5, .int i211), (6, .int i217), (7, .int i213)] [] _
        refine V_iload (dX8_nextPart_p1 50 rfl) 229 rfl 5 rfl ?_
        refine V_jn (fun (k218 : Int32 → Option ((Nat → Int32) × Option (Nat × (Nat → Int32)))) => ∀ (i220 : Int32), V E K mX8_nextPart (Qm E K mX8_nextPart (zX8_nextPart E q1 q2 i3 v4 v5 i6 i7 i8 i9 i10 i11)) 1 16 [(q1, .inr (9, [.int i3, v4, v5, .int i6, .int i7, .int i8, .int i9, .int i10, .int i11])), (q2, .inl (E.2.1, 81, .inl f12)), (q81, .inl (E.2.1, ((i3 + (1 : Int32)).toNatClampNeg), .inl f214))] 238 [(1, .ref q2), (4, .ref q81), (5, .int i211), (6, .int i217), (7, .int i213)] [.int i220] (k218 i220)) ?_ ?_
        · intro i220
          show V E K mX8_nextPart (Qm E K mX8_nextPart (zX8_nextPart E q1 q2 i3 v4 v5 i6 i7 i8 i9 i10 i11)) 1 16 [(q1, .inr (9, [.int i3, v4, v5, .int i6, .int i7, .int i8, .int i9, .int i10, .int i11])), (q2, .inl (E.2.1, 81, .inl f12)), (q81, .inl (E.2.1, ((i3 + (1 : Int32)).toNatClampNeg), .inl f214))] 238 [(1, .ref q2), (4, .ref q81), (5, .int i211), (6, .int i217), (7, .int i213)] [.int i220] _
          refine V_istore (dX8_nextPart_p1 55 rfl) 240 rfl [(1, .ref q2), (4, .ref q81), (5, .int i211), (6, .int i217), (7, .int i213), (8, .int i220)] (Nat.le_of_ble_eq_true rfl) rfl ?_
          refine V_iload (dX8_nextPart_p1 56 rfl) 242 rfl 3 rfl ?_
          refine V_iconst (1 : Int32) (by decide) (dX8_nextPart_p1 57 rfl) 243 rfl ?_
          refine V_iadd (dX8_nextPart_p1 58 rfl) 244 rfl ?_
          refine V_nmI (fun i221 => ?_)
          refine V_istore (dX8_nextPart_p1 59 rfl) 246 rfl [(1, .ref q2), (4, .ref q81), (5, .int i211), (6, .int i217), (7, .int i213), (8, .int i220), (9, .int i221)] (Nat.le_of_ble_eq_true rfl) rfl ?_
          refine vLX8_nextPart_L246 hs q1 q2 q81 i3 v4 v5 i6 i7 i8 i9 i10 i11 i211 i217 i213 f12 ((i3 + (1 : Int32)).toNatClampNeg) f214 1 16 ?_ 600 i220 i221
          intro i245
          show V E K mX8_nextPart (Qm E K mX8_nextPart (zX8_nextPart E q1 q2 i3 v4 v5 i6 i7 i8 i9 i10 i11)) 1 16 [(q1, .inr (9, [.int i3, v4, v5, .int i6, .int i7, .int i8, .int i9, .int i10, .int i11])), (q2, .inl (E.2.1, 81, .inl f12)), (q81, .inl (E.2.1, ((i3 + (1 : Int32)).toNatClampNeg), .inl f214))] 284 [(1, .ref q2), (4, .ref q81), (5, .int i211), (6, .int i217), (7, .int i213), (8, .int i245)] [] _
          refine V_iload (dX8_nextPart_p2 11 rfl) 286 rfl 2 rfl ?_
          refine V_iload (dX8_nextPart_p2 12 rfl) 288 rfl 3 rfl ?_
          refine V_isub (dX8_nextPart_p2 13 rfl) 289 rfl ?_
          refine V_iconst (2 : Int32) (by decide) (dX8_nextPart_p2 14 rfl) 290 rfl ?_
          refine V_iadd (dX8_nextPart_p2 15 rfl) 291 rfl ?_
          refine V_newi (by decide) tw_116 (dX8_nextPart_p2 16 rfl) 293 rfl 0 0 (show 0 + 1 ≤ 1 from Nat.le_of_ble_eq_true rfl) (show 0 + 16 ≤ 16 from Nat.le_of_ble_eq_true rfl) (fun q246 => ?_)
          refine V_eqW (ws2 := [(q1, .inr (9, [.int i3, v4, v5, .int i6, .int i7, .int i8, .int i9, .int i10, .int i11])), (q2, .inl (E.2.1, 81, .inl f12)), (q81, .inl (E.2.1, ((i3 + (1 : Int32)).toNatClampNeg), .inl f214)), (q246, .inl (E.2.1, (((i211 - i217) + (2 : Int32)).toNatClampNeg), .inl (fun _ => 0)))]) rfl ?_
          refine V_astore (dX8_nextPart_p2 17 rfl) 295 rfl [(1, .ref q2), (4, .ref q81), (5, .int i211), (6, .int i217), (7, .int i213), (8, .int i245), (9, .ref q246)] (Nat.le_of_ble_eq_true rfl) rfl ?_
          refine V_aload (dX8_nextPart_p2 18 rfl) 297 rfl 6 rfl ?_
          refine V_iconst (0 : Int32) (by decide) (dX8_nextPart_p2 19 rfl) 298 rfl ?_
          refine V_iload (dX8_nextPart_p2 20 rfl) 300 rfl 4 rfl ?_
          refine V_jn (fun (k247 : Int32 → Option ((Nat → Int32) × Option (Nat × (Nat → Int32)))) => ∀ (i249 : Int32), V E K mX8_nextPart (Qm E K mX8_nextPart (zX8_nextPart E q1 q2 i3 v4 v5 i6 i7 i8 i9 i10 i11)) 0 0 [(q1, .inr (9, [.int i3, v4, v5, .int i6, .int i7, .int i8, .int i9, .int i10, .int i11])), (q2, .inl (E.2.1, 81, .inl f12)), (q81, .inl (E.2.1, ((i3 + (1 : Int32)).toNatClampNeg), .inl f214)), (q246, .inl (E.2.1, (((i211 - i217) + (2 : Int32)).toNatClampNeg), .inl (fun _ => 0)))] 308 [(1, .ref q2), (4, .ref q81), (5, .int i211), (6, .int i217), (8, .int i245), (9, .ref q246)] [.int i249, .int (0 : Int32), .ref q246] (k247 i249)) ?_ ?_
          · intro i249
            show V E K mX8_nextPart (Qm E K mX8_nextPart (zX8_nextPart E q1 q2 i3 v4 v5 i6 i7 i8 i9 i10 i11)) 0 0 [(q1, .inr (9, [.int i3, v4, v5, .int i6, .int i7, .int i8, .int i9, .int i10, .int i11])), (q2, .inl (E.2.1, 81, .inl f12)), (q81, .inl (E.2.1, ((i3 + (1 : Int32)).toNatClampNeg), .inl f214)), (q246, .inl (E.2.1, (((i211 - i217) + (2 : Int32)).toNatClampNeg), .inl (fun _ => 0)))] 308 [(1, .ref q2), (4, .ref q81), (5, .int i211), (6, .int i217), (8, .int i245), (9, .ref q246)] [.int i249, .int (0 : Int32), .ref q246] _
            refine V_iast 3 rfl (dX8_nextPart_p2 25 rfl) 309 rfl [(q1, .inr (9, [.int i3, v4, v5, .int i6, .int i7, .int i8, .int i9, .int i10, .int i11])), (q2, .inl (E.2.1, 81, .inl f12)), (q81, .inl (E.2.1, ((i3 + (1 : Int32)).toNatClampNeg), .inl f214)), (q246, .inl (E.2.1, (((i211 - i217) + (2 : Int32)).toNatClampNeg), .inl (upd (fun _ => 0) (0 : Int32).toNatClampNeg i249)))] rfl ?_
            refine V_aload (dX8_nextPart_p2 26 rfl) 311 rfl 5 rfl ?_
            refine V_iconst (1 : Int32) (by decide) (dX8_nextPart_p2 27 rfl) 312 rfl ?_
            refine V_iload (dX8_nextPart_p2 28 rfl) 314 rfl 4 rfl ?_
            refine V_iast 3 rfl (dX8_nextPart_p2 29 rfl) 315 rfl [(q1, .inr (9, [.int i3, v4, v5, .int i6, .int i7, .int i8, .int i9, .int i10, .int i11])), (q2, .inl (E.2.1, 81, .inl f12)), (q81, .inl (E.2.1, ((i3 + (1 : Int32)).toNatClampNeg), .inl f214)), (q246, .inl (E.2.1, (((i211 - i217) + (2 : Int32)).toNatClampNeg), .inl (upd (upd (fun _ => 0) (0 : Int32).toNatClampNeg i249) (1 : Int32).toNatClampNeg i245)))] rfl ?_
            refine V_iload (dX8_nextPart_p2 30 rfl) 317 rfl 3 rfl ?_
            refine V_istore (dX8_nextPart_p2 31 rfl) 319 rfl [(1, .ref q2), (4, .ref q81), (5, .int i211), (6, .int i217), (8, .int i245), (9, .ref q246), (10, .int i217)] (Nat.le_of_ble_eq_true rfl) rfl ?_
            refine vLX8_nextPart_L319 hs q1 q2 q81 q246 i3 v4 v5 i6 i7 i8 i9 i10 i11 i211 i217 i245 f12 ((i3 + (1 : Int32)).toNatClampNeg) f214 (((i211 - i217) + (2 : Int32)).toNatClampNeg) 0 0 ?_ 600 i217 (upd (upd (fun _ => 0) (0 : Int32).toNatClampNeg i249) (1 : Int32).toNatClampNeg i245)
            intro f274
            show V E K mX8_nextPart (Qm E K mX8_nextPart (zX8_nextPart E q1 q2 i3 v4 v5 i6 i7 i8 i9 i10 i11)) 0 0 [(q1, .inr (9, [.int i3, v4, v5, .int i6, .int i7, .int i8, .int i9, .int i10, .int i11])), (q2, .inl (E.2.1, 81, .inl f12)), (q81, .inl (E.2.1, ((i3 + (1 : Int32)).toNatClampNeg), .inl f214)), (q246, .inl (E.2.1, (((i211 - i217) + (2 : Int32)).toNatClampNeg), .inl f274))] 347 [(1, .ref q2), (4, .ref q81), (5, .int i211), (6, .int i217), (8, .int i245), (9, .ref q246)] [] _
            refine V_iload (dX8_nextPart_p2 47 rfl) 349 rfl 3 rfl ?_
            refine V_iconst (1 : Int32) (by decide) (dX8_nextPart_p2 48 rfl) 350 rfl ?_
            refine V_iadd (dX8_nextPart_p2 49 rfl) 351 rfl ?_
            refine V_nmI (fun i275 => ?_)
            refine V_istore (dX8_nextPart_p2 50 rfl) 353 rfl [(1, .ref q2), (4, .ref q81), (5, .int i211), (6, .int i217), (8, .int i245), (9, .ref q246), (10, .int i275)] (Nat.le_of_ble_eq_true rfl) rfl ?_
            refine V_pick [0, 1, 2, 4, 5, 6] [(1, .ref q2), (4, .ref q81), (5, .int i211), (8, .int i245), (9, .ref q246), (10, .int i275)] rfl ?_
            refine vLX8_nextPart_L353 hs q1 q2 q81 q246 i3 v4 v5 i6 i7 i8 i9 i10 i11 i211 i245 ((i3 + (1 : Int32)).toNatClampNeg) f214 (((i211 - i217) + (2 : Int32)).toNatClampNeg) f274 0 0  600 i275 f12
          · intro k247 hk248
            refine V_if_eq (dX8_nextPart_p2 21 rfl) 307 (by decide) 303 rfl ?_ ?_
            · refine V_iconst (0 : Int32) (by decide) (dX8_nextPart_p2 24 rfl) 308 rfl ?_
              refine V_pick [0, 1, 2, 3, 5, 6] [(1, .ref q2), (4, .ref q81), (5, .int i211), (6, .int i217), (8, .int i245), (9, .ref q246)] rfl ?_
              exact hk248 (0 : Int32)
            · refine V_iconst (1 : Int32) (by decide) (dX8_nextPart_p2 22 rfl) 304 rfl ?_
              refine V_goto (dX8_nextPart_p2 23 rfl) 308 (by decide) ?_
              refine V_pick [0, 1, 2, 3, 5, 6] [(1, .ref q2), (4, .ref q81), (5, .int i211), (6, .int i217), (8, .int i245), (9, .ref q246)] rfl ?_
              exact hk248 (1 : Int32)
        · intro k218 hk219
          refine V_if_eq (dX8_nextPart_p1 51 rfl) 236 (by decide) 232 rfl ?_ ?_
          · refine V_ldc (M := mX8_nextPart) (v := (2147483647 : Int32)) tw_1396 (dX8_nextPart_p1 54 rfl) 238 rfl ?_
            refine V_pick [0, 2, 3, 4, 5] [(1, .ref q2), (4, .ref q81), (5, .int i211), (6, .int i217), (7, .int i213)] rfl ?_
            exact hk219 (2147483647 : Int32)
          · refine V_iload_n (dX8_nextPart_p1 52 rfl) 233 rfl 1 rfl ?_
            refine V_goto (dX8_nextPart_p1 53 rfl) 238 (by decide) ?_
            refine V_pick [0, 2, 3, 4, 5] [(1, .ref q2), (4, .ref q81), (5, .int i211), (6, .int i217), (7, .int i213)] rfl ?_
            exact hk219 z13
      · intro k215 hk216
        refine V_if_eq (dX8_nextPart_p1 47 rfl) 227 (by decide) 224 rfl ?_ ?_
        · exact hk216 i212
        · refine V_iconst (0 : Int32) (by decide) (dX8_nextPart_p1 48 rfl) 225 rfl ?_
          refine V_istore (dX8_nextPart_p1 49 rfl) 227 rfl [(1, .ref q2), (2, .int z13), (4, .ref q81), (5, .int i211), (6, .int (0 : Int32)), (7, .int i213)] (Nat.le_of_ble_eq_true rfl) rfl ?_
          exact hk216 (0 : Int32)
    · refine V_null (dX8_nextPart_p0 44 rfl) 85 rfl ?_
      exact V_aret rfl (Or.inr ⟨_, rfl⟩) (Or.inl rfl) (dX8_nextPart_p0 45 rfl) (Or.inl ⟨rfl, rfl, rfl⟩)
  · intro k14 hk15
    refine V_if_le (dX8_nextPart_p0 7 rfl) 21 (by decide) 14 rfl ?_ ?_
    · refine V_iconst (-1 : Int32) (by decide) (dX8_nextPart_p0 11 rfl) 22 rfl ?_
      exact hk15 (-1 : Int32)
    · refine V_aload_n (dX8_nextPart_p0 8 rfl) 15 rfl 0 rfl ?_
      refine V_get gf_M_27 0 rfl rfl (dX8_nextPart_p0 9 rfl) 18 rfl ?_
      refine V_goto (dX8_nextPart_p0 10 rfl) 22 (by decide) ?_
      exact hk15 i6)
set_option maxRecDepth 20000 in
theorem vBX8_flowRow_L10 {E : EX} {K : KX} (hs : K.l.stackTraces = false) (q1 q4 q12 : Nat) (i2 : Int32) (v3 : Value) (i5 i6 i7 i8 i9 i10 : Int32) (f11 : Nat → Int32) (bc bs : Nat) (i26 : Int32) (f27 : Nat → Int32) {rec : Int32 → (Nat → Int32) → Option ((Nat → Int32))}  (hrec : ∀ (i26 : Int32) (f27 : Nat → Int32), V E K mX8_flowRow (Qm E K mX8_flowRow (zX8_flowRow E q1 q4 i2 v3 i5 i6 i7 i8 i9 i10 f11)) (bc) (bs) [(q1, .inr (9, [.int i2, v3, .ref q4, .int i5, .int i6, .int i7, .int i8, .int i9, .int i10])), (q4, .inl (E.2.1, 81, .inl f11)), (q12, .inl (E.2.1, 81, .inl f27))] 10 [(0, .ref q1), (1, .ref q12), (2, .int i26)] [] (rec i26 f27))  : V E K mX8_flowRow (Qm E K mX8_flowRow (zX8_flowRow E q1 q4 i2 v3 i5 i6 i7 i8 i9 i10 f11)) (bc) (bs) [(q1, .inr (9, [.int i2, v3, .ref q4, .int i5, .int i6, .int i7, .int i8, .int i9, .int i10])), (q4, .inl (E.2.1, 81, .inl f11)), (q12, .inl (E.2.1, 81, .inl f27))] 10 [(0, .ref q1), (1, .ref q12), (2, .int i26)] [] (BX8_flowRow_L10  f11 i26 f27 rec ) := by
  unfold BX8_flowRow_L10
  refine V_iload_n (dX8_flowRow 7 rfl) 11 rfl 2 rfl ?_
  refine V_aload_n (dX8_flowRow 8 rfl) 12 rfl 1 rfl ?_
  refine V_alen 2 rfl ((81 : Int32)) (show Int32.ofNat 81 = (81 : Int32) by decide) (dX8_flowRow 9 rfl) 13 rfl ?_
  refine V_icmp_ge (dX8_flowRow 10 rfl) 31 (by decide) 16 rfl ?_ ?_
  · refine V_aload_n (dX8_flowRow 20 rfl) 32 rfl 1 rfl ?_
    exact V_aret rfl (Or.inr ⟨_, rfl⟩) (Or.inr ⟨_, rfl⟩) (dX8_flowRow 21 rfl) ⟨q12, rfl, rfl⟩
  · refine V_aload_n (dX8_flowRow 11 rfl) 17 rfl 1 rfl ?_
    refine V_iload_n (dX8_flowRow 12 rfl) 18 rfl 2 rfl ?_
    refine V_aload_n (dX8_flowRow 13 rfl) 19 rfl 0 rfl ?_
    refine V_get gf_M_24 0 rfl rfl (dX8_flowRow 14 rfl) 22 rfl ?_
    refine V_iload_n (dX8_flowRow 15 rfl) 23 rfl 2 rfl ?_
    refine V_iald 1 rfl (dX8_flowRow 16 rfl) 24 rfl ?_
    refine V_iast 2 rfl (dX8_flowRow 17 rfl) 25 rfl [(q1, .inr (9, [.int i2, v3, .ref q4, .int i5, .int i6, .int i7, .int i8, .int i9, .int i10])), (q4, .inl (E.2.1, 81, .inl f11)), (q12, .inl (E.2.1, 81, .inl (upd f27 i26.toNatClampNeg (f11 i26.toNatClampNeg))))] rfl ?_
    refine V_iinc (dX8_flowRow 18 rfl) 28 rfl 2 rfl (i26 + (1 : Int32)) rfl [(0, .ref q1), (1, .ref q12), (2, .int (i26 + (1 : Int32)))] (Nat.le_of_ble_eq_true rfl) rfl ?_
    refine V_goto (dX8_flowRow 19 rfl) 10 (by decide) ?_
    exact hrec (i26 + (1 : Int32)) (upd f27 i26.toNatClampNeg (f11 i26.toNatClampNeg))
set_option maxRecDepth 20000 in
theorem vLX8_flowRow_L10 {E : EX} {K : KX} (hs : K.l.stackTraces = false) (q1 q4 q12 : Nat) (i2 : Int32) (v3 : Value) (i5 i6 i7 i8 i9 i10 : Int32) (f11 : Nat → Int32) (bc bs : Nat)   : ∀ (n : Nat) (i26 : Int32) (f27 : Nat → Int32), V E K mX8_flowRow (Qm E K mX8_flowRow (zX8_flowRow E q1 q4 i2 v3 i5 i6 i7 i8 i9 i10 f11)) (bc) (bs) [(q1, .inr (9, [.int i2, v3, .ref q4, .int i5, .int i6, .int i7, .int i8, .int i9, .int i10])), (q4, .inl (E.2.1, 81, .inl f11)), (q12, .inl (E.2.1, 81, .inl f27))] 10 [(0, .ref q1), (1, .ref q12), (2, .int i26)] [] (LX8_flowRow_L10  f11 n i26 f27 )
  | 0, _, _ => V_none
  | n + 1, i26, f27 => vBX8_flowRow_L10 hs q1 q4 q12 i2 v3 i5 i6 i7 i8 i9 i10 f11 bc bs i26 f27 (fun i26 f27 => vLX8_flowRow_L10 hs q1 q4 q12 i2 v3 i5 i6 i7 i8 i9 i10 f11 bc bs  n i26 f27) 
set_option maxRecDepth 20000 in
theorem kX8_flowRow {E : EX} {l : Launch} (hl : l.stackTraces = false) (q1 q4 : Nat) (i2 : Int32) (v3 : Value) (i5 i6 i7 i8 i9 i10 : Int32) (f11 : Nat → Int32) : Ct E l mX8_flowRow [.ref q1] [(q1, .inr (9, [.int i2, v3, .ref q4, .int i5, .int i6, .int i7, .int i8, .int i9, .int i10])), (q4, .inl (E.2.1, 81, .inl f11))] (fX8_flowRow f11) (zX8_flowRow E q1 q4 i2 v3 i5 i6 i7 i8 i9 i10 f11) := Ct_of hl mf_X8_flowRow.1 (Nat.le_of_ble_eq_true rfl) (fun K hs => by
  refine V_less 1 81 (Nat.le_refl _) (Nat.le_refl _) ?_
  refine V_pick [0] [(0, .ref q1)] rfl ?_
  unfold fX8_flowRow
  refine V_aload_n (dX8_flowRow 0 rfl) 1 rfl 0 rfl ?_
  refine V_get gf_M_24 0 rfl rfl (dX8_flowRow 1 rfl) 4 rfl ?_
  refine V_alen 1 rfl ((81 : Int32)) (show Int32.ofNat 81 = (81 : Int32) by decide) (dX8_flowRow 2 rfl) 5 rfl ?_
  refine V_newc 81 (by decide) (by decide) (by decide) tw_116 (dX8_flowRow 3 rfl) 7 rfl 0 0 (show 0 + 1 ≤ 1 from Nat.le_of_ble_eq_true rfl) (show 0 + 81 ≤ 81 from Nat.le_of_ble_eq_true rfl) (fun q12 => ?_)
  refine V_eqW (ws2 := [(q1, .inr (9, [.int i2, v3, .ref q4, .int i5, .int i6, .int i7, .int i8, .int i9, .int i10])), (q4, .inl (E.2.1, 81, .inl f11)), (q12, .inl (E.2.1, 81, .inl (fun _ => 0)))]) rfl ?_
  refine V_astore_n (dX8_flowRow 4 rfl) 8 rfl [(0, .ref q1), (1, .ref q12)] (Nat.le_of_ble_eq_true rfl) rfl ?_
  refine V_iconst (0 : Int32) (by decide) (dX8_flowRow 5 rfl) 9 rfl ?_
  refine V_istore_n (dX8_flowRow 6 rfl) 10 rfl [(0, .ref q1), (1, .ref q12), (2, .int (0 : Int32))] (Nat.le_of_ble_eq_true rfl) rfl ?_
  refine vLX8_flowRow_L10 hs q1 q4 q12 i2 v3 i5 i6 i7 i8 i9 i10 f11 0 0  600 (0 : Int32) (fun _ => 0))
set_option maxRecDepth 20000 in
theorem vBX8_partsNow_L14 {E : EX} {K : KX} (hs : K.l.stackTraces = false) (q1 q5 q14 : Nat) (i3 : Int32) (v4 : Value) (i6 i7 i8 i9 i10 i11 : Int32) (f12 : Nat → Int32) (i2 : Int32) (bc bs : Nat) (n : Nat) (q45 : Nat) (i44 : Int32) (f46 : Nat → Int32) (n47 : Nat) (f48 : Nat → Int32) {rec : Int32 → (Nat → Int32) → Nat → (Nat → Int32) → Option (Int32)}  (hrec : ∀ (q45 : Nat) (i44 : Int32) (f46 : Nat → Int32) (n47 : Nat) (f48 : Nat → Int32), V E K mX8_partsNow (Qm E K mX8_partsNow (zX8_partsNow E q1 q5 i3 v4 i6 i7 i8 i9 i10 i11 f12)) (n * 2 + bc) (n * 32 + bs) [(q1, .inr (9, [.int i3, v4, .ref q5, .int i6, .int i7, .int i8, .int i9, .int i10, .int i11])), (q5, .inl (E.2.1, 81, .inl f12)), (q14, .inl (E.2.1, 81, .inl f46)), (q45, .inl (E.2.1, n47, .inl f48))] 14 [(0, .ref q1), (1, .int i2), (2, .ref q14), (3, .int i44), (4, .ref q45)] [] (rec i44 f46 n47 f48))  : V E K mX8_partsNow (Qm E K mX8_partsNow (zX8_partsNow E q1 q5 i3 v4 i6 i7 i8 i9 i10 i11 f12)) (n * 2 + bc + 2) (n * 32 + bs + 32) [(q1, .inr (9, [.int i3, v4, .ref q5, .int i6, .int i7, .int i8, .int i9, .int i10, .int i11])), (q5, .inl (E.2.1, 81, .inl f12)), (q14, .inl (E.2.1, 81, .inl f46)), (q45, .inl (E.2.1, n47, .inl f48))] 14 [(0, .ref q1), (1, .int i2), (2, .ref q14), (3, .int i44), (4, .ref q45)] [] (BX8_partsNow_L14  i3 i6 i7 i2 i44 f46 n47 f48 rec ) := by
  unfold BX8_partsNow_L14
  refine V_aload (dX8_partsNow 9 rfl) 16 rfl 4 rfl ?_
  refine V_ifnull (dX8_partsNow 10 rfl) 19 rfl ?_
  refine V_iload_n (dX8_partsNow 11 rfl) 20 rfl 3 rfl ?_
  refine V_iload_n (dX8_partsNow 12 rfl) 21 rfl 1 rfl ?_
  refine V_iconst (2 : Int32) (by decide) (dX8_partsNow 13 rfl) 22 rfl ?_
  refine V_jn (fun (k49 : Int32 → Option (Int32)) => ∀ (i51 : Int32), V E K mX8_partsNow (Qm E K mX8_partsNow (zX8_partsNow E q1 q5 i3 v4 i6 i7 i8 i9 i10 i11 f12)) (n * 2 + bc + 2) (n * 32 + bs + 32) [(q1, .inr (9, [.int i3, v4, .ref q5, .int i6, .int i7, .int i8, .int i9, .int i10, .int i11])), (q5, .inl (E.2.1, 81, .inl f12)), (q14, .inl (E.2.1, 81, .inl f46))] 50 [(0, .ref q1), (1, .int i2), (2, .ref q14)] [.int i51, .int i44] (k49 i51)) ?_ ?_
  · intro i51
    show V E K mX8_partsNow (Qm E K mX8_partsNow (zX8_partsNow E q1 q5 i3 v4 i6 i7 i8 i9 i10 i11 f12)) (n * 2 + bc + 2) (n * 32 + bs + 32) [(q1, .inr (9, [.int i3, v4, .ref q5, .int i6, .int i7, .int i8, .int i9, .int i10, .int i11])), (q5, .inl (E.2.1, 81, .inl f12)), (q14, .inl (E.2.1, 81, .inl f46))] 50 [(0, .ref q1), (1, .int i2), (2, .ref q14)] [.int i51, .int i44] _
    refine V_iadd (dX8_partsNow 31 rfl) 51 rfl ?_
    refine V_nmI (fun i52 => ?_)
    refine V_istore_n (dX8_partsNow 32 rfl) 52 rfl [(0, .ref q1), (1, .int i2), (2, .ref q14), (3, .int i52)] (Nat.le_of_ble_eq_true rfl) rfl ?_
    refine V_aload_n (dX8_partsNow 33 rfl) 53 rfl 0 rfl ?_
    refine V_aload_n (dX8_partsNow 34 rfl) 54 rfl 2 rfl ?_
    refine V_callV (M := mX8_partsNow) (wcs := [(q1, .inr (9, [.int i3, v4, .ref q5, .int i6, .int i7, .int i8, .int i9, .int i10, .int i11])), (q14, .inl (E.2.1, 81, .inl f46))]) (wr := [(q5, .inl (E.2.1, 81, .inl f12))]) mf_X8_nextPart tw_1422 tw_1424 tw_46 ⟨Nat.le_of_ble_eq_true rfl, Nat.le_of_ble_eq_true rfl⟩ (dX8_partsNow 35 rfl) 57 rfl (kX8_nextPart hs q1 q14 i3 v4 (.ref q5) i6 i7 i8 i9 i10 i11 f46) rfl [0, 2] [1] (q0 := 0) rfl rfl rfl rfl (by decide) rfl rfl rfl rfl (Nat.le_of_ble_eq_true rfl) (n * 2 + bc) (n * 32 + bs) (show (n * 2 + bc) + 2 ≤ (n * 2 + bc + 2) by omega) (show (n * 32 + bs) + 32 ≤ (n * 32 + bs + 32) by omega) (fun z53 v w hz => ?_)
    rcases hz with ⟨e0, rfl, rfl⟩ | ⟨n54, f55, q56, e0, rfl, rfl⟩
    · refine V_eq (oc_none e0) ?_
      show V E K mX8_partsNow (Qm E K mX8_partsNow (zX8_partsNow E q1 q5 i3 v4 i6 i7 i8 i9 i10 i11 f12)) (n * 2 + bc) (n * 32 + bs) [(q5, .inl (E.2.1, 81, .inl f12)), (q1, .inr (9, [.int i3, v4, .ref q5, .int i6, .int i7, .int i8, .int i9, .int i10, .int i11])), (q14, .inl (E.2.1, 81, .inl z53.1))] 57 [(0, .ref q1), (1, .int i2), (2, .ref q14), (3, .int i52)] [.null] _
      refine V_astoreN (dX8_partsNow 36 rfl) 59 rfl [(0, .ref q1), (1, .int i2), (2, .ref q14), (3, .int i52), (4, .null)] (Nat.le_of_ble_eq_true rfl) rfl ?_
      refine V_goto (dX8_partsNow 37 rfl) 14 (by decide) ?_
      refine V_aloadN (dX8_partsNow 9 rfl) 16 rfl 4 rfl ?_
      refine V_ifnullN (dX8_partsNow 10 rfl) 62 (by decide) ?_
      refine V_iload_n (dX8_partsNow 38 rfl) 63 rfl 3 rfl ?_
      refine V_world [1, 0] [(q1, .inr (9, [.int i3, v4, .ref q5, .int i6, .int i7, .int i8, .int i9, .int i10, .int i11])), (q5, .inl (E.2.1, 81, .inl f12))] rfl rfl rfl ?_
      exact V_iret rfl (dX8_partsNow 39 rfl) ⟨rfl, rfl⟩
    · refine V_eq (oc_some e0) ?_
      show V E K mX8_partsNow (Qm E K mX8_partsNow (zX8_partsNow E q1 q5 i3 v4 i6 i7 i8 i9 i10 i11 f12)) (n * 2 + bc) (n * 32 + bs) [(q5, .inl (E.2.1, 81, .inl f12)), (q1, .inr (9, [.int i3, v4, .ref q5, .int i6, .int i7, .int i8, .int i9, .int i10, .int i11])), (q14, .inl (E.2.1, 81, .inl z53.1)), (q56, .inl (E.2.1, n54, .inl f55))] 57 [(0, .ref q1), (1, .int i2), (2, .ref q14), (3, .int i52)] [.ref q56] _
      refine V_astore (dX8_partsNow 36 rfl) 59 rfl [(0, .ref q1), (1, .int i2), (2, .ref q14), (3, .int i52), (4, .ref q56)] (Nat.le_of_ble_eq_true rfl) rfl ?_
      refine V_goto (dX8_partsNow 37 rfl) 14 (by decide) ?_
      refine V_world [1, 0, 2, 3] [(q1, .inr (9, [.int i3, v4, .ref q5, .int i6, .int i7, .int i8, .int i9, .int i10, .int i11])), (q5, .inl (E.2.1, 81, .inl f12)), (q14, .inl (E.2.1, 81, .inl z53.1)), (q56, .inl (E.2.1, n54, .inl f55))] rfl rfl rfl ?_
      exact hrec q56 i52 z53.1 n54 f55
  · intro k49 hk50
    refine V_icmp_ne (dX8_partsNow 14 rfl) 37 (by decide) 25 rfl ?_ ?_
    · refine V_aload (dX8_partsNow 23 rfl) 39 rfl 4 rfl ?_
      refine V_iconst (0 : Int32) (by decide) (dX8_partsNow 24 rfl) 40 rfl ?_
      refine V_iald 3 rfl (dX8_partsNow 25 rfl) 41 rfl ?_
      refine V_iload_n (dX8_partsNow 26 rfl) 42 rfl 1 rfl ?_
      refine V_icmp_ne (dX8_partsNow 27 rfl) 49 (by decide) 45 rfl ?_ ?_
      · refine V_iconst (0 : Int32) (by decide) (dX8_partsNow 30 rfl) 50 rfl ?_
        refine V_world [0, 1, 2] [(q1, .inr (9, [.int i3, v4, .ref q5, .int i6, .int i7, .int i8, .int i9, .int i10, .int i11])), (q5, .inl (E.2.1, 81, .inl f12)), (q14, .inl (E.2.1, 81, .inl f46))] rfl rfl rfl ?_
        refine V_pick [0, 1, 2] [(0, .ref q1), (1, .int i2), (2, .ref q14)] rfl ?_
        exact hk50 (0 : Int32)
      · refine V_iconst (1 : Int32) (by decide) (dX8_partsNow 28 rfl) 46 rfl ?_
        refine V_goto (dX8_partsNow 29 rfl) 50 (by decide) ?_
        refine V_world [0, 1, 2] [(q1, .inr (9, [.int i3, v4, .ref q5, .int i6, .int i7, .int i8, .int i9, .int i10, .int i11])), (q5, .inl (E.2.1, 81, .inl f12)), (q14, .inl (E.2.1, 81, .inl f46))] rfl rfl rfl ?_
        refine V_pick [0, 1, 2] [(0, .ref q1), (1, .int i2), (2, .ref q14)] rfl ?_
        exact hk50 (1 : Int32)
    · refine V_aload (dX8_partsNow 15 rfl) 27 rfl 4 rfl ?_
      refine V_iconst (0 : Int32) (by decide) (dX8_partsNow 16 rfl) 28 rfl ?_
      refine V_iald 3 rfl (dX8_partsNow 17 rfl) 29 rfl ?_
      refine V_aload (dX8_partsNow 18 rfl) 31 rfl 4 rfl ?_
      refine V_iconst (1 : Int32) (by decide) (dX8_partsNow 19 rfl) 32 rfl ?_
      refine V_iald 3 rfl (dX8_partsNow 20 rfl) 33 rfl ?_
      refine V_imul (dX8_partsNow 21 rfl) 34 rfl ?_
      refine V_goto (dX8_partsNow 22 rfl) 50 (by decide) ?_
      refine V_world [0, 1, 2] [(q1, .inr (9, [.int i3, v4, .ref q5, .int i6, .int i7, .int i8, .int i9, .int i10, .int i11])), (q5, .inl (E.2.1, 81, .inl f12)), (q14, .inl (E.2.1, 81, .inl f46))] rfl rfl rfl ?_
      refine V_pick [0, 1, 2] [(0, .ref q1), (1, .int i2), (2, .ref q14)] rfl ?_
      exact hk50 ((f48 (0 : Int32).toNatClampNeg) * (f48 (1 : Int32).toNatClampNeg))
set_option maxRecDepth 20000 in
theorem vLX8_partsNow_L14 {E : EX} {K : KX} (hs : K.l.stackTraces = false) (q1 q5 q14 : Nat) (i3 : Int32) (v4 : Value) (i6 i7 i8 i9 i10 i11 : Int32) (f12 : Nat → Int32) (i2 : Int32) (bc bs : Nat)   : ∀ (n : Nat) (q45 : Nat) (i44 : Int32) (f46 : Nat → Int32) (n47 : Nat) (f48 : Nat → Int32), V E K mX8_partsNow (Qm E K mX8_partsNow (zX8_partsNow E q1 q5 i3 v4 i6 i7 i8 i9 i10 i11 f12)) (n * 2 + bc) (n * 32 + bs) [(q1, .inr (9, [.int i3, v4, .ref q5, .int i6, .int i7, .int i8, .int i9, .int i10, .int i11])), (q5, .inl (E.2.1, 81, .inl f12)), (q14, .inl (E.2.1, 81, .inl f46)), (q45, .inl (E.2.1, n47, .inl f48))] 14 [(0, .ref q1), (1, .int i2), (2, .ref q14), (3, .int i44), (4, .ref q45)] [] (LX8_partsNow_L14  i3 i6 i7 i2 n i44 f46 n47 f48 )
  | 0, _, _, _, _, _ => V_none
  | n + 1, q45, i44, f46, n47, f48 => V_less (n * 2 + bc + 2) (n * 32 + bs + 32) (by omega) (by omega) (vBX8_partsNow_L14 hs q1 q5 q14 i3 v4 i6 i7 i8 i9 i10 i11 f12 i2 bc bs n q45 i44 f46 n47 f48 (fun q45 i44 f46 n47 f48 => vLX8_partsNow_L14 hs q1 q5 q14 i3 v4 i6 i7 i8 i9 i10 i11 f12 i2 bc bs  n q45 i44 f46 n47 f48) )
set_option maxRecDepth 20000 in
theorem kX8_partsNow {E : EX} {l : Launch} (hl : l.stackTraces = false) (q1 q5 : Nat) (i3 : Int32) (v4 : Value) (i6 i7 i8 i9 i10 i11 : Int32) (f12 : Nat → Int32) (i2 : Int32) : Ct E l mX8_partsNow [.ref q1, .int i2] [(q1, .inr (9, [.int i3, v4, .ref q5, .int i6, .int i7, .int i8, .int i9, .int i10, .int i11])), (q5, .inl (E.2.1, 81, .inl f12))] (fX8_partsNow i3 i6 i7 f12 i2) (zX8_partsNow E q1 q5 i3 v4 i6 i7 i8 i9 i10 i11 f12) := Ct_of hl mf_X8_partsNow.1 (Nat.le_of_ble_eq_true rfl) (fun K hs => by
  refine V_less 131 2161 (Nat.le_refl _) (Nat.le_refl _) ?_
  refine V_pick [0, 1] [(0, .ref q1), (1, .int i2)] rfl ?_
  unfold fX8_partsNow
  refine V_aload_n (dX8_partsNow 0 rfl) 1 rfl 0 rfl ?_
  refine V_callV (M := mX8_partsNow) (wcs := [(q1, .inr (9, [.int i3, v4, .ref q5, .int i6, .int i7, .int i8, .int i9, .int i10, .int i11])), (q5, .inl (E.2.1, 81, .inl f12))]) (wr := []) mf_X8_flowRow tw_1559 tw_1561 tw_59 ⟨Nat.le_of_ble_eq_true rfl, Nat.le_of_ble_eq_true rfl⟩ (dX8_partsNow 1 rfl) 4 rfl (kX8_flowRow hs q1 q5 i3 v4 i6 i7 i8 i9 i10 i11 f12) rfl [0, 1] [] (q0 := 0) rfl rfl rfl rfl (by decide) rfl rfl rfl rfl (Nat.le_of_ble_eq_true rfl) 130 2080 (show 130 + 1 ≤ 131 from Nat.le_of_ble_eq_true rfl) (show 2080 + 81 ≤ 2161 from Nat.le_of_ble_eq_true rfl) (fun z13 v w hz => ?_)
  obtain ⟨q14, rfl, rfl⟩ := hz
  show V E K mX8_partsNow (Qm E K mX8_partsNow (zX8_partsNow E q1 q5 i3 v4 i6 i7 i8 i9 i10 i11 f12)) 130 2080 [(q1, .inr (9, [.int i3, v4, .ref q5, .int i6, .int i7, .int i8, .int i9, .int i10, .int i11])), (q5, .inl (E.2.1, 81, .inl f12)), (q14, .inl (E.2.1, 81, .inl z13))] 4 [(0, .ref q1), (1, .int i2)] [.ref q14] _
  refine V_astore_n (dX8_partsNow 2 rfl) 5 rfl [(0, .ref q1), (1, .int i2), (2, .ref q14)] (Nat.le_of_ble_eq_true rfl) rfl ?_
  refine V_iconst (0 : Int32) (by decide) (dX8_partsNow 3 rfl) 6 rfl ?_
  refine V_istore_n (dX8_partsNow 4 rfl) 7 rfl [(0, .ref q1), (1, .int i2), (2, .ref q14), (3, .int (0 : Int32))] (Nat.le_of_ble_eq_true rfl) rfl ?_
  refine V_aload_n (dX8_partsNow 5 rfl) 8 rfl 0 rfl ?_
  refine V_aload_n (dX8_partsNow 6 rfl) 9 rfl 2 rfl ?_
  refine V_callV (M := mX8_partsNow) (wcs := [(q1, .inr (9, [.int i3, v4, .ref q5, .int i6, .int i7, .int i8, .int i9, .int i10, .int i11])), (q14, .inl (E.2.1, 81, .inl z13))]) (wr := [(q5, .inl (E.2.1, 81, .inl f12))]) mf_X8_nextPart tw_1422 tw_1424 tw_46 ⟨Nat.le_of_ble_eq_true rfl, Nat.le_of_ble_eq_true rfl⟩ (dX8_partsNow 7 rfl) 12 rfl (kX8_nextPart hs q1 q14 i3 v4 (.ref q5) i6 i7 i8 i9 i10 i11 z13) rfl [0, 2] [1] (q0 := 0) rfl rfl rfl rfl (by decide) rfl rfl rfl rfl (Nat.le_of_ble_eq_true rfl) 128 2048 (show 128 + 2 ≤ 130 from Nat.le_of_ble_eq_true rfl) (show 2048 + 32 ≤ 2080 from Nat.le_of_ble_eq_true rfl) (fun z15 v w hz => ?_)
  rcases hz with ⟨e0, rfl, rfl⟩ | ⟨n16, f17, q18, e0, rfl, rfl⟩
  · refine V_eq (oc_none e0) ?_
    show V E K mX8_partsNow (Qm E K mX8_partsNow (zX8_partsNow E q1 q5 i3 v4 i6 i7 i8 i9 i10 i11 f12)) 128 2048 [(q5, .inl (E.2.1, 81, .inl f12)), (q1, .inr (9, [.int i3, v4, .ref q5, .int i6, .int i7, .int i8, .int i9, .int i10, .int i11])), (q14, .inl (E.2.1, 81, .inl z15.1))] 12 [(0, .ref q1), (1, .int i2), (2, .ref q14), (3, .int (0 : Int32))] [.null] _
    refine V_astoreN (dX8_partsNow 8 rfl) 14 rfl [(0, .ref q1), (1, .int i2), (2, .ref q14), (3, .int (0 : Int32)), (4, .null)] (Nat.le_of_ble_eq_true rfl) rfl ?_
    refine V_aloadN (dX8_partsNow 9 rfl) 16 rfl 4 rfl ?_
    refine V_ifnullN (dX8_partsNow 10 rfl) 62 (by decide) ?_
    refine V_iload_n (dX8_partsNow 38 rfl) 63 rfl 3 rfl ?_
    refine V_world [1, 0] [(q1, .inr (9, [.int i3, v4, .ref q5, .int i6, .int i7, .int i8, .int i9, .int i10, .int i11])), (q5, .inl (E.2.1, 81, .inl f12))] rfl rfl rfl ?_
    exact V_iret rfl (dX8_partsNow 39 rfl) ⟨rfl, rfl⟩
  · refine V_eq (oc_some e0) ?_
    show V E K mX8_partsNow (Qm E K mX8_partsNow (zX8_partsNow E q1 q5 i3 v4 i6 i7 i8 i9 i10 i11 f12)) 128 2048 [(q5, .inl (E.2.1, 81, .inl f12)), (q1, .inr (9, [.int i3, v4, .ref q5, .int i6, .int i7, .int i8, .int i9, .int i10, .int i11])), (q14, .inl (E.2.1, 81, .inl z15.1)), (q18, .inl (E.2.1, n16, .inl f17))] 12 [(0, .ref q1), (1, .int i2), (2, .ref q14), (3, .int (0 : Int32))] [.ref q18] _
    refine V_astore (dX8_partsNow 8 rfl) 14 rfl [(0, .ref q1), (1, .int i2), (2, .ref q14), (3, .int (0 : Int32)), (4, .ref q18)] (Nat.le_of_ble_eq_true rfl) rfl ?_
    refine V_world [1, 0, 2, 3] [(q1, .inr (9, [.int i3, v4, .ref q5, .int i6, .int i7, .int i8, .int i9, .int i10, .int i11])), (q5, .inl (E.2.1, 81, .inl f12)), (q14, .inl (E.2.1, 81, .inl z15.1)), (q18, .inl (E.2.1, n16, .inl f17))] rfl rfl rfl ?_
    refine V_less (64 * 2 + 0) (64 * 32 + 0) (by omega) (by omega) ?_
    refine vLX8_partsNow_L14 hs q1 q5 q14 i3 v4 i6 i7 i8 i9 i10 i11 f12 i2 0 0  64 q18 (0 : Int32) z15.1 n16 f17)
set_option maxRecDepth 20000 in
theorem vBX8_partsNowText_L26 {E : EX} {K : KX} (hs : K.l.stackTraces = false) (q1 q4 q13 q14 q98 : Nat) (i2 : Int32) (v3 : Value) (i5 i6 i7 i8 i9 i10 : Int32) (f11 f99 : Nat → Int32) (n104 : Nat) (f105 : Nat → Int32) (bc bs : Nat) (q137 : Nat) (i136 i138 : Int32) (n139 : Nat) (f140 : Nat → Int32) {rec : Int32 → Int32 → Nat → (Nat → Int32) → Option (Nat × (Nat → Int32))} {k1 : Int32 → Nat → (Nat → Int32) → Option (Nat × (Nat → Int32))} (hrec : ∀ (q137 : Nat) (i136 i138 : Int32) (n139 : Nat) (f140 : Nat → Int32), V E K mX8_partsNowText (Qm E K mX8_partsNowText (zX8_partsNowText E q1 q4 i2 v3 i5 i6 i7 i8 i9 i10 f11)) (bc + ((2400 - n139) / 16)) (bs + 2 * (2400 - n139)) [(q1, .inr (9, [.int i2, v3, .ref q4, .int i5, .int i6, .int i7, .int i8, .int i9, .int i10])), (q4, .inl (E.2.1, 81, .inl f11)), (q13, .inl (E.2.1, 81, .inl f99)), (q14, .inr (6, [.ref q137, .int cZ, .int (0 : Int32), .int i138])), (q137, .inl (E.2.2.1, n139, .inl f140)), (q98, .inl (E.2.1, n104, .inl f105))] 26 [(0, .ref q1), (1, .ref q13), (2, .ref q14), (3, .ref q98), (4, .int i136)] [] (rec i136 i138 n139 f140)) (hk1 : ∀ (q149 : Nat) (i150 : Int32) (n151 : Nat) (f152 : Nat → Int32), V E K mX8_partsNowText (Qm E K mX8_partsNowText (zX8_partsNowText E q1 q4 i2 v3 i5 i6 i7 i8 i9 i10 f11)) (bc + ((2400 - n151) / 16)) (bs + 2 * (2400 - n151)) [(q1, .inr (9, [.int i2, v3, .ref q4, .int i5, .int i6, .int i7, .int i8, .int i9, .int i10])), (q4, .inl (E.2.1, 81, .inl f11)), (q13, .inl (E.2.1, 81, .inl f99)), (q14, .inr (6, [.ref q149, .int cZ, .int (0 : Int32), .int i150])), (q149, .inl (E.2.2.1, n151, .inl f152)), (q98, .inl (E.2.1, n104, .inl f105))] 76 [(0, .ref q1), (1, .ref q13), (2, .ref q14), (3, .ref q98)] [] (k1 i150 n151 f152)) : V E K mX8_partsNowText (Qm E K mX8_partsNowText (zX8_partsNowText E q1 q4 i2 v3 i5 i6 i7 i8 i9 i10 f11)) (bc + ((2400 - n139) / 16)) (bs + 2 * (2400 - n139)) [(q1, .inr (9, [.int i2, v3, .ref q4, .int i5, .int i6, .int i7, .int i8, .int i9, .int i10])), (q4, .inl (E.2.1, 81, .inl f11)), (q13, .inl (E.2.1, 81, .inl f99)), (q14, .inr (6, [.ref q137, .int cZ, .int (0 : Int32), .int i138])), (q137, .inl (E.2.2.1, n139, .inl f140)), (q98, .inl (E.2.1, n104, .inl f105))] 26 [(0, .ref q1), (1, .ref q13), (2, .ref q14), (3, .ref q98), (4, .int i136)] [] (BX8_partsNowText_L26  n104 f105 i136 i138 n139 f140 rec k1) := by
  unfold BX8_partsNowText_L26
  refine V_iload (dX8_partsNowText 15 rfl) 28 rfl 4 rfl ?_
  refine V_aload_n (dX8_partsNowText 16 rfl) 29 rfl 3 rfl ?_
  refine V_alen 5 rfl (Int32.ofNat n104) rfl (dX8_partsNowText 17 rfl) 30 rfl ?_
  refine V_icmp_ge (dX8_partsNowText 18 rfl) 76 (by decide) 33 rfl ?_ ?_
  · refine V_pick [0, 1, 2, 3] [(0, .ref q1), (1, .ref q13), (2, .ref q14), (3, .ref q98)] rfl ?_
    exact hk1 q137 i138 n139 f140
  · refine V_aload_n (dX8_partsNowText 19 rfl) 34 rfl 2 rfl ?_
    refine V_iload (dX8_partsNowText 20 rfl) 36 rfl 4 rfl ?_
    refine V_iconst (2 : Int32) (by decide) (dX8_partsNowText 21 rfl) 37 rfl ?_
    refine V_jn (fun (k141 : Nat → Option (Nat × (Nat → Int32))) => ∀ (c144 : Nat), V E K mX8_partsNowText (Qm E K mX8_partsNowText (zX8_partsNowText E q1 q4 i2 v3 i5 i6 i7 i8 i9 i10 f11)) (bc + ((2400 - n139) / 16)) (bs + 2 * (2400 - n139)) [(q1, .inr (9, [.int i2, v3, .ref q4, .int i5, .int i6, .int i7, .int i8, .int i9, .int i10])), (q4, .inl (E.2.1, 81, .inl f11)), (q13, .inl (E.2.1, 81, .inl f99)), (q14, .inr (6, [.ref q137, .int cZ, .int (0 : Int32), .int i138])), (q137, .inl (E.2.2.1, n139, .inl f140)), (q98, .inl (E.2.1, n104, .inl f105))] 59 [(0, .ref q1), (1, .ref q13), (2, .ref q14), (3, .ref q98), (4, .int i136)] [.ref (E.2.2.2.1 c144), .ref q14] (k141 c144)) ?_ ?_
    · intro c144
      show V E K mX8_partsNowText (Qm E K mX8_partsNowText (zX8_partsNowText E q1 q4 i2 v3 i5 i6 i7 i8 i9 i10 f11)) (bc + ((2400 - n139) / 16)) (bs + 2 * (2400 - n139)) [(q1, .inr (9, [.int i2, v3, .ref q4, .int i5, .int i6, .int i7, .int i8, .int i9, .int i10])), (q4, .inl (E.2.1, 81, .inl f11)), (q13, .inl (E.2.1, 81, .inl f99)), (q14, .inr (6, [.ref q137, .int cZ, .int (0 : Int32), .int i138])), (q137, .inl (E.2.2.1, n139, .inl f140)), (q98, .inl (E.2.1, n104, .inl f105))] 59 [(0, .ref q1), (1, .ref q13), (2, .ref q14), (3, .ref q98), (4, .int i136)] [.ref (E.2.2.2.1 c144), .ref q14] _
      refine V_gd (fun hg => ?_)
      refine V_callV (M := mX8_partsNowText) (wcs := [(q14, .inr (6, [.ref q137, .int cZ, .int (0 : Int32), .int i138])), (q137, .inl (E.2.2.1, n139, .inl f140))]) (wr := [(q1, .inr (9, [.int i2, v3, .ref q4, .int i5, .int i6, .int i7, .int i8, .int i9, .int i10])), (q4, .inl (E.2.1, 81, .inl f11)), (q13, .inl (E.2.1, 81, .inl f99)), (q98, .inl (E.2.1, n104, .inl f105))]) (mf_J4_append_15ec4 (capE n139 (i138 + szK c144)) n139) tw_1467 tw_590 tw_591 ⟨Nat.le_of_ble_eq_true rfl, Nat.le_of_ble_eq_true rfl⟩ (dX8_partsNowText 31 rfl) 62 rfl (kJ4_append_15ec4 hs c144 hg.2.2 q14 q137 (0 : Int32) i138 n139 f140 (capE n139 (i138 + szK c144))) rfl [3, 4] [0, 1, 2, 5] (q0 := 0) rfl rfl rfl rfl (by decide) rfl rfl rfl rfl (Nat.le_of_ble_eq_true rfl) (bc + ((2400 - (capE n139 (i138 + szK c144))) / 16)) (bs + 2 * (2400 - (capE n139 (i138 + szK c144)))) (show (bc + ((2400 - (capE n139 (i138 + szK c144))) / 16)) + (((capE n139 (i138 + szK c144)) - n139) / 16) ≤ (bc + ((2400 - n139) / 16)) by omega) (show (bs + 2 * (2400 - (capE n139 (i138 + szK c144)))) + 2 * ((capE n139 (i138 + szK c144)) - n139) ≤ (bs + 2 * (2400 - n139)) by omega) (fun z145 v w hz => ?_)
      obtain ⟨q146, rfl, rfl⟩ := hz
      show V E K mX8_partsNowText (Qm E K mX8_partsNowText (zX8_partsNowText E q1 q4 i2 v3 i5 i6 i7 i8 i9 i10 f11)) (bc + ((2400 - (capE n139 (i138 + szK c144))) / 16)) (bs + 2 * (2400 - (capE n139 (i138 + szK c144)))) [(q1, .inr (9, [.int i2, v3, .ref q4, .int i5, .int i6, .int i7, .int i8, .int i9, .int i10])), (q4, .inl (E.2.1, 81, .inl f11)), (q13, .inl (E.2.1, 81, .inl f99)), (q98, .inl (E.2.1, n104, .inl f105)), (q14, .inr (6, [.ref q146, .int cZ, .int (0 : Int32), .int z145.1])), (q146, .inl (E.2.2.1, (capE n139 (i138 + szK c144)), .inl z145.2))] 62 [(0, .ref q1), (1, .ref q13), (2, .ref q14), (3, .ref q98), (4, .int i136)] [.ref q14] _
      refine V_aload_n (dX8_partsNowText 32 rfl) 63 rfl 3 rfl ?_
      refine V_iload (dX8_partsNowText 33 rfl) 65 rfl 4 rfl ?_
      refine V_iald 3 rfl (dX8_partsNowText 34 rfl) 66 rfl ?_
      refine V_gd (fun hg => ?_)
      refine V_callV (M := mX8_partsNowText) (wcs := [(q14, .inr (6, [.ref q146, .int cZ, .int (0 : Int32), .int z145.1])), (q146, .inl (E.2.2.1, (capE n139 (i138 + szK c144)), .inl z145.2))]) (wr := [(q1, .inr (9, [.int i2, v3, .ref q4, .int i5, .int i6, .int i7, .int i8, .int i9, .int i10])), (q4, .inl (E.2.1, 81, .inl f11)), (q13, .inl (E.2.1, 81, .inl f99)), (q98, .inl (E.2.1, n104, .inl f105))]) (mf_J4_append_bf812 (capE (capE n139 (i138 + szK c144)) (z145.1 + szI (f105 i136.toNatClampNeg))) (capE n139 (i138 + szK c144))) tw_1468 tw_708 tw_709 ⟨Nat.le_of_ble_eq_true rfl, Nat.le_of_ble_eq_true rfl⟩ (dX8_partsNowText 35 rfl) 69 rfl (kJ4_append_bf812 hs q14 q146 (0 : Int32) z145.1 (capE n139 (i138 + szK c144)) z145.2 (f105 i136.toNatClampNeg) (capE (capE n139 (i138 + szK c144)) (z145.1 + szI (f105 i136.toNatClampNeg)))) rfl [4, 5] [0, 1, 2, 3] (q0 := 0) rfl rfl rfl rfl (by decide) rfl rfl rfl rfl (Nat.le_of_ble_eq_true rfl) (bc + ((2400 - (capE (capE n139 (i138 + szK c144)) (z145.1 + szI (f105 i136.toNatClampNeg)))) / 16)) (bs + 2 * (2400 - (capE (capE n139 (i138 + szK c144)) (z145.1 + szI (f105 i136.toNatClampNeg))))) (show (bc + ((2400 - (capE (capE n139 (i138 + szK c144)) (z145.1 + szI (f105 i136.toNatClampNeg)))) / 16)) + (((capE (capE n139 (i138 + szK c144)) (z145.1 + szI (f105 i136.toNatClampNeg))) - (capE n139 (i138 + szK c144))) / 16) ≤ (bc + ((2400 - (capE n139 (i138 + szK c144))) / 16)) by omega) (show (bs + 2 * (2400 - (capE (capE n139 (i138 + szK c144)) (z145.1 + szI (f105 i136.toNatClampNeg))))) + 2 * ((capE (capE n139 (i138 + szK c144)) (z145.1 + szI (f105 i136.toNatClampNeg))) - (capE n139 (i138 + szK c144))) ≤ (bs + 2 * (2400 - (capE n139 (i138 + szK c144)))) by omega) (fun z147 v w hz => ?_)
      obtain ⟨q148, rfl, rfl⟩ := hz
      show V E K mX8_partsNowText (Qm E K mX8_partsNowText (zX8_partsNowText E q1 q4 i2 v3 i5 i6 i7 i8 i9 i10 f11)) (bc + ((2400 - (capE (capE n139 (i138 + szK c144)) (z145.1 + szI (f105 i136.toNatClampNeg)))) / 16)) (bs + 2 * (2400 - (capE (capE n139 (i138 + szK c144)) (z145.1 + szI (f105 i136.toNatClampNeg))))) [(q1, .inr (9, [.int i2, v3, .ref q4, .int i5, .int i6, .int i7, .int i8, .int i9, .int i10])), (q4, .inl (E.2.1, 81, .inl f11)), (q13, .inl (E.2.1, 81, .inl f99)), (q98, .inl (E.2.1, n104, .inl f105)), (q14, .inr (6, [.ref q148, .int cZ, .int (0 : Int32), .int z147.1])), (q148, .inl (E.2.2.1, (capE (capE n139 (i138 + szK c144)) (z145.1 + szI (f105 i136.toNatClampNeg))), .inl z147.2))] 69 [(0, .ref q1), (1, .ref q13), (2, .ref q14), (3, .ref q98), (4, .int i136)] [.ref q14] _
      refine V_pop rfl (dX8_partsNowText 36 rfl) 70 rfl ?_
      refine V_iinc (dX8_partsNowText 37 rfl) 73 rfl 4 rfl (i136 + (1 : Int32)) rfl [(0, .ref q1), (1, .ref q13), (2, .ref q14), (3, .ref q98), (4, .int (i136 + (1 : Int32)))] (Nat.le_of_ble_eq_true rfl) rfl ?_
      refine V_goto (dX8_partsNowText 38 rfl) 26 (by decide) ?_
      refine V_world [0, 1, 2, 4, 5, 3] [(q1, .inr (9, [.int i2, v3, .ref q4, .int i5, .int i6, .int i7, .int i8, .int i9, .int i10])), (q4, .inl (E.2.1, 81, .inl f11)), (q13, .inl (E.2.1, 81, .inl f99)), (q14, .inr (6, [.ref q148, .int cZ, .int (0 : Int32), .int z147.1])), (q148, .inl (E.2.2.1, (capE (capE n139 (i138 + szK c144)) (z145.1 + szI (f105 i136.toNatClampNeg))), .inl z147.2)), (q98, .inl (E.2.1, n104, .inl f105))] rfl rfl rfl ?_
      exact hrec q148 (i136 + (1 : Int32)) z147.1 (capE (capE n139 (i138 + szK c144)) (z145.1 + szI (f105 i136.toNatClampNeg))) z147.2
    · intro k141 hk142
      refine V_icmp_le (dX8_partsNowText 22 rfl) 45 (by decide) 40 rfl ?_ ?_
      · refine V_aload_n (dX8_partsNowText 25 rfl) 46 rfl 2 rfl ?_
        refine V_callV (M := mX8_partsNowText) (wcs := [(q14, .inr (6, [.ref q137, .int cZ, .int (0 : Int32), .int i138]))]) (wr := [(q1, .inr (9, [.int i2, v3, .ref q4, .int i5, .int i6, .int i7, .int i8, .int i9, .int i10])), (q4, .inl (E.2.1, 81, .inl f11)), (q13, .inl (E.2.1, 81, .inl f99)), (q137, .inl (E.2.2.1, n139, .inl f140)), (q98, .inl (E.2.1, n104, .inl f105))]) mf_J4_length_8abf5 tw_1465 tw_754 tw_1633 ⟨Nat.le_of_ble_eq_true rfl, Nat.le_of_ble_eq_true rfl⟩ (dX8_partsNowText 26 rfl) 49 rfl (kJ4_length_8abf5 hs q14 (.ref q137) (0 : Int32) i138) rfl [3] [0, 1, 2, 4, 5] (q0 := 0) rfl rfl rfl rfl (by decide) rfl rfl rfl rfl (Nat.le_of_ble_eq_true rfl) (bc + ((2400 - n139) / 16)) (bs + 2 * (2400 - n139)) (show (bc + ((2400 - n139) / 16)) + 0 ≤ (bc + ((2400 - n139) / 16)) by omega) (show (bs + 2 * (2400 - n139)) + 0 ≤ (bs + 2 * (2400 - n139)) by omega) (fun z143 v w hz => ?_)
        obtain ⟨rfl, rfl⟩ := hz
        show V E K mX8_partsNowText (Qm E K mX8_partsNowText (zX8_partsNowText E q1 q4 i2 v3 i5 i6 i7 i8 i9 i10 f11)) (bc + ((2400 - n139) / 16)) (bs + 2 * (2400 - n139)) [(q1, .inr (9, [.int i2, v3, .ref q4, .int i5, .int i6, .int i7, .int i8, .int i9, .int i10])), (q4, .inl (E.2.1, 81, .inl f11)), (q13, .inl (E.2.1, 81, .inl f99)), (q137, .inl (E.2.2.1, n139, .inl f140)), (q98, .inl (E.2.1, n104, .inl f105)), (q14, .inr (6, [.ref q137, .int cZ, .int (0 : Int32), .int i138]))] 49 [(0, .ref q1), (1, .ref q13), (2, .ref q14), (3, .ref q98), (4, .int i136)] [.int z143, .ref q14] _
        refine V_if_le (dX8_partsNowText 27 rfl) 57 (by decide) 52 rfl ?_ ?_
        · refine V_ldcS 3 rfl (dX8_partsNowText 30 rfl) 59 rfl ?_
          refine V_world [0, 1, 2, 5, 3, 4] [(q1, .inr (9, [.int i2, v3, .ref q4, .int i5, .int i6, .int i7, .int i8, .int i9, .int i10])), (q4, .inl (E.2.1, 81, .inl f11)), (q13, .inl (E.2.1, 81, .inl f99)), (q14, .inr (6, [.ref q137, .int cZ, .int (0 : Int32), .int i138])), (q137, .inl (E.2.2.1, n139, .inl f140)), (q98, .inl (E.2.1, n104, .inl f105))] rfl rfl rfl ?_
          exact hk142 3
        · refine V_ldcS 4 rfl (dX8_partsNowText 28 rfl) 54 rfl ?_
          refine V_goto (dX8_partsNowText 29 rfl) 59 (by decide) ?_
          refine V_world [0, 1, 2, 5, 3, 4] [(q1, .inr (9, [.int i2, v3, .ref q4, .int i5, .int i6, .int i7, .int i8, .int i9, .int i10])), (q4, .inl (E.2.1, 81, .inl f11)), (q13, .inl (E.2.1, 81, .inl f99)), (q14, .inr (6, [.ref q137, .int cZ, .int (0 : Int32), .int i138])), (q137, .inl (E.2.2.1, n139, .inl f140)), (q98, .inl (E.2.1, n104, .inl f105))] rfl rfl rfl ?_
          exact hk142 4
      · refine V_ldcS 6 rfl (dX8_partsNowText 23 rfl) 42 rfl ?_
        refine V_goto (dX8_partsNowText 24 rfl) 59 (by decide) ?_
        exact hk142 6
set_option maxRecDepth 20000 in
theorem vLX8_partsNowText_L26 {E : EX} {K : KX} (hs : K.l.stackTraces = false) (q1 q4 q13 q14 q98 : Nat) (i2 : Int32) (v3 : Value) (i5 i6 i7 i8 i9 i10 : Int32) (f11 f99 : Nat → Int32) (n104 : Nat) (f105 : Nat → Int32) (bc bs : Nat) {k1 : Int32 → Nat → (Nat → Int32) → Option (Nat × (Nat → Int32))} (hk1 : ∀ (q149 : Nat) (i150 : Int32) (n151 : Nat) (f152 : Nat → Int32), V E K mX8_partsNowText (Qm E K mX8_partsNowText (zX8_partsNowText E q1 q4 i2 v3 i5 i6 i7 i8 i9 i10 f11)) (bc + ((2400 - n151) / 16)) (bs + 2 * (2400 - n151)) [(q1, .inr (9, [.int i2, v3, .ref q4, .int i5, .int i6, .int i7, .int i8, .int i9, .int i10])), (q4, .inl (E.2.1, 81, .inl f11)), (q13, .inl (E.2.1, 81, .inl f99)), (q14, .inr (6, [.ref q149, .int cZ, .int (0 : Int32), .int i150])), (q149, .inl (E.2.2.1, n151, .inl f152)), (q98, .inl (E.2.1, n104, .inl f105))] 76 [(0, .ref q1), (1, .ref q13), (2, .ref q14), (3, .ref q98)] [] (k1 i150 n151 f152)) : ∀ (n : Nat) (q137 : Nat) (i136 i138 : Int32) (n139 : Nat) (f140 : Nat → Int32), V E K mX8_partsNowText (Qm E K mX8_partsNowText (zX8_partsNowText E q1 q4 i2 v3 i5 i6 i7 i8 i9 i10 f11)) (bc + ((2400 - n139) / 16)) (bs + 2 * (2400 - n139)) [(q1, .inr (9, [.int i2, v3, .ref q4, .int i5, .int i6, .int i7, .int i8, .int i9, .int i10])), (q4, .inl (E.2.1, 81, .inl f11)), (q13, .inl (E.2.1, 81, .inl f99)), (q14, .inr (6, [.ref q137, .int cZ, .int (0 : Int32), .int i138])), (q137, .inl (E.2.2.1, n139, .inl f140)), (q98, .inl (E.2.1, n104, .inl f105))] 26 [(0, .ref q1), (1, .ref q13), (2, .ref q14), (3, .ref q98), (4, .int i136)] [] (LX8_partsNowText_L26  n104 f105 n i136 i138 n139 f140 k1)
  | 0, _, _, _, _, _ => V_none
  | n + 1, q137, i136, i138, n139, f140 => vBX8_partsNowText_L26 hs q1 q4 q13 q14 q98 i2 v3 i5 i6 i7 i8 i9 i10 f11 f99 n104 f105 bc bs q137 i136 i138 n139 f140 (fun q137 i136 i138 n139 f140 => vLX8_partsNowText_L26 hs q1 q4 q13 q14 q98 i2 v3 i5 i6 i7 i8 i9 i10 f11 f99 n104 f105 bc bs hk1 n q137 i136 i138 n139 f140) hk1
set_option maxRecDepth 20000 in
theorem vBX8_partsNowText_L19 {E : EX} {K : KX} (hs : K.l.stackTraces = false) (q1 q4 q13 q14 : Nat) (i2 : Int32) (v3 : Value) (i5 i6 i7 i8 i9 i10 : Int32) (f11 : Nat → Int32) (bc bs : Nat) (n : Nat) (q98 q100 : Nat) (f99 : Nat → Int32) (i101 : Int32) (n102 : Nat) (f103 : Nat → Int32) (n104 : Nat) (f105 : Nat → Int32) {rec : (Nat → Int32) → Int32 → Nat → (Nat → Int32) → Nat → (Nat → Int32) → Option (Nat × (Nat → Int32))} {k1 : Int32 → Nat → (Nat → Int32) → Option (Nat × (Nat → Int32))} (hrec : ∀ (q98 q100 : Nat) (f99 : Nat → Int32) (i101 : Int32) (n102 : Nat) (f103 : Nat → Int32) (n104 : Nat) (f105 : Nat → Int32), V E K mX8_partsNowText (Qm E K mX8_partsNowText (zX8_partsNowText E q1 q4 i2 v3 i5 i6 i7 i8 i9 i10 f11)) (n * 2 + bc + ((2400 - n102) / 16)) (n * 32 + bs + 2 * (2400 - n102)) [(q1, .inr (9, [.int i2, v3, .ref q4, .int i5, .int i6, .int i7, .int i8, .int i9, .int i10])), (q4, .inl (E.2.1, 81, .inl f11)), (q13, .inl (E.2.1, 81, .inl f99)), (q14, .inr (6, [.ref q100, .int cZ, .int (0 : Int32), .int i101])), (q100, .inl (E.2.2.1, n102, .inl f103)), (q98, .inl (E.2.1, n104, .inl f105))] 19 [(0, .ref q1), (1, .ref q13), (2, .ref q14), (3, .ref q98)] [] (rec f99 i101 n102 f103 n104 f105)) (hk1 : ∀ (q161 : Nat) (i162 : Int32) (n163 : Nat) (f164 : Nat → Int32), V E K mX8_partsNowText (Qm E K mX8_partsNowText (zX8_partsNowText E q1 q4 i2 v3 i5 i6 i7 i8 i9 i10 f11)) (bc + ((2400 - n163) / 16)) (bs + 2 * (2400 - n163)) [(q1, .inr (9, [.int i2, v3, .ref q4, .int i5, .int i6, .int i7, .int i8, .int i9, .int i10])), (q4, .inl (E.2.1, 81, .inl f11)), (q14, .inr (6, [.ref q161, .int cZ, .int (0 : Int32), .int i162])), (q161, .inl (E.2.2.1, n163, .inl f164))] 98 [(2, .ref q14)] [] (k1 i162 n163 f164)) : V E K mX8_partsNowText (Qm E K mX8_partsNowText (zX8_partsNowText E q1 q4 i2 v3 i5 i6 i7 i8 i9 i10 f11)) (n * 2 + bc + ((2400 - n102) / 16) + 2) (n * 32 + bs + 2 * (2400 - n102) + 32) [(q1, .inr (9, [.int i2, v3, .ref q4, .int i5, .int i6, .int i7, .int i8, .int i9, .int i10])), (q4, .inl (E.2.1, 81, .inl f11)), (q13, .inl (E.2.1, 81, .inl f99)), (q14, .inr (6, [.ref q100, .int cZ, .int (0 : Int32), .int i101])), (q100, .inl (E.2.2.1, n102, .inl f103)), (q98, .inl (E.2.1, n104, .inl f105))] 19 [(0, .ref q1), (1, .ref q13), (2, .ref q14), (3, .ref q98)] [] (BX8_partsNowText_L19  i2 i5 i6 f99 i101 n102 f103 n104 f105 rec k1) := by
  unfold BX8_partsNowText_L19
  refine V_aload_n (dX8_partsNowText 11 rfl) 20 rfl 3 rfl ?_
  refine V_ifnull (dX8_partsNowText 12 rfl) 23 rfl ?_
  refine V_iconst (2 : Int32) (by decide) (dX8_partsNowText 13 rfl) 24 rfl ?_
  refine V_istore (dX8_partsNowText 14 rfl) 26 rfl [(0, .ref q1), (1, .ref q13), (2, .ref q14), (3, .ref q98), (4, .int (2 : Int32))] (Nat.le_of_ble_eq_true rfl) rfl ?_
  refine V_less ((n * 2 + bc + 2) + ((2400 - n102) / 16)) ((n * 32 + bs + 32) + 2 * (2400 - n102)) (by omega) (by omega) ?_
  refine vLX8_partsNowText_L26 hs q1 q4 q13 q14 q98 i2 v3 i5 i6 i7 i8 i9 i10 f11 f99 n104 f105 (n * 2 + bc + 2) (n * 32 + bs + 32) ?_ 64 q100 (2 : Int32) i101 n102 f103
  intro q149 i150 n151 f152
  refine V_less (n * 2 + bc + ((2400 - n151) / 16) + 2) (n * 32 + bs + 2 * (2400 - n151) + 32) (by omega) (by omega) ?_
  show V E K mX8_partsNowText (Qm E K mX8_partsNowText (zX8_partsNowText E q1 q4 i2 v3 i5 i6 i7 i8 i9 i10 f11)) (n * 2 + bc + ((2400 - n151) / 16) + 2) (n * 32 + bs + 2 * (2400 - n151) + 32) [(q1, .inr (9, [.int i2, v3, .ref q4, .int i5, .int i6, .int i7, .int i8, .int i9, .int i10])), (q4, .inl (E.2.1, 81, .inl f11)), (q13, .inl (E.2.1, 81, .inl f99)), (q14, .inr (6, [.ref q149, .int cZ, .int (0 : Int32), .int i150])), (q149, .inl (E.2.2.1, n151, .inl f152)), (q98, .inl (E.2.1, n104, .inl f105))] 76 [(0, .ref q1), (1, .ref q13), (2, .ref q14), (3, .ref q98)] [] _
  refine V_aload_n (dX8_partsNowText 39 rfl) 77 rfl 2 rfl ?_
  refine V_ldcS 5 rfl (dX8_partsNowText 40 rfl) 79 rfl ?_
  refine V_gd (fun hg => ?_)
  refine V_callV (M := mX8_partsNowText) (wcs := [(q14, .inr (6, [.ref q149, .int cZ, .int (0 : Int32), .int i150])), (q149, .inl (E.2.2.1, n151, .inl f152))]) (wr := [(q1, .inr (9, [.int i2, v3, .ref q4, .int i5, .int i6, .int i7, .int i8, .int i9, .int i10])), (q4, .inl (E.2.1, 81, .inl f11)), (q13, .inl (E.2.1, 81, .inl f99)), (q98, .inl (E.2.1, n104, .inl f105))]) (mf_J4_append_15ec4 (capE n151 (i150 + szK 5)) n151) tw_1467 tw_590 tw_591 ⟨Nat.le_of_ble_eq_true rfl, Nat.le_of_ble_eq_true rfl⟩ (dX8_partsNowText 41 rfl) 82 rfl (kJ4_append_15ec4 hs 5 (by decide) q14 q149 (0 : Int32) i150 n151 f152 (capE n151 (i150 + szK 5))) rfl [3, 4] [0, 1, 2, 5] (q0 := 0) rfl rfl rfl rfl (by decide) rfl rfl rfl rfl (Nat.le_of_ble_eq_true rfl) (n * 2 + bc + ((2400 - (capE n151 (i150 + szK 5))) / 16) + 2) (n * 32 + bs + 2 * (2400 - (capE n151 (i150 + szK 5))) + 32) (show (n * 2 + bc + ((2400 - (capE n151 (i150 + szK 5))) / 16) + 2) + (((capE n151 (i150 + szK 5)) - n151) / 16) ≤ (n * 2 + bc + ((2400 - n151) / 16) + 2) by omega) (show (n * 32 + bs + 2 * (2400 - (capE n151 (i150 + szK 5))) + 32) + 2 * ((capE n151 (i150 + szK 5)) - n151) ≤ (n * 32 + bs + 2 * (2400 - n151) + 32) by omega) (fun z153 v w hz => ?_)
  obtain ⟨q154, rfl, rfl⟩ := hz
  show V E K mX8_partsNowText (Qm E K mX8_partsNowText (zX8_partsNowText E q1 q4 i2 v3 i5 i6 i7 i8 i9 i10 f11)) (n * 2 + bc + ((2400 - (capE n151 (i150 + szK 5))) / 16) + 2) (n * 32 + bs + 2 * (2400 - (capE n151 (i150 + szK 5))) + 32) [(q1, .inr (9, [.int i2, v3, .ref q4, .int i5, .int i6, .int i7, .int i8, .int i9, .int i10])), (q4, .inl (E.2.1, 81, .inl f11)), (q13, .inl (E.2.1, 81, .inl f99)), (q98, .inl (E.2.1, n104, .inl f105)), (q14, .inr (6, [.ref q154, .int cZ, .int (0 : Int32), .int z153.1])), (q154, .inl (E.2.2.1, (capE n151 (i150 + szK 5)), .inl z153.2))] 82 [(0, .ref q1), (1, .ref q13), (2, .ref q14), (3, .ref q98)] [.ref q14] _
  refine V_aload_n (dX8_partsNowText 42 rfl) 83 rfl 3 rfl ?_
  refine V_iconst (1 : Int32) (by decide) (dX8_partsNowText 43 rfl) 84 rfl ?_
  refine V_iald 3 rfl (dX8_partsNowText 44 rfl) 85 rfl ?_
  refine V_gd (fun hg => ?_)
  refine V_callV (M := mX8_partsNowText) (wcs := [(q14, .inr (6, [.ref q154, .int cZ, .int (0 : Int32), .int z153.1])), (q154, .inl (E.2.2.1, (capE n151 (i150 + szK 5)), .inl z153.2))]) (wr := [(q1, .inr (9, [.int i2, v3, .ref q4, .int i5, .int i6, .int i7, .int i8, .int i9, .int i10])), (q4, .inl (E.2.1, 81, .inl f11)), (q13, .inl (E.2.1, 81, .inl f99)), (q98, .inl (E.2.1, n104, .inl f105))]) (mf_J4_append_bf812 (capE (capE n151 (i150 + szK 5)) (z153.1 + szI (f105 (1 : Int32).toNatClampNeg))) (capE n151 (i150 + szK 5))) tw_1468 tw_708 tw_709 ⟨Nat.le_of_ble_eq_true rfl, Nat.le_of_ble_eq_true rfl⟩ (dX8_partsNowText 45 rfl) 88 rfl (kJ4_append_bf812 hs q14 q154 (0 : Int32) z153.1 (capE n151 (i150 + szK 5)) z153.2 (f105 (1 : Int32).toNatClampNeg) (capE (capE n151 (i150 + szK 5)) (z153.1 + szI (f105 (1 : Int32).toNatClampNeg)))) rfl [4, 5] [0, 1, 2, 3] (q0 := 0) rfl rfl rfl rfl (by decide) rfl rfl rfl rfl (Nat.le_of_ble_eq_true rfl) (n * 2 + bc + ((2400 - (capE (capE n151 (i150 + szK 5)) (z153.1 + szI (f105 (1 : Int32).toNatClampNeg)))) / 16) + 2) (n * 32 + bs + 2 * (2400 - (capE (capE n151 (i150 + szK 5)) (z153.1 + szI (f105 (1 : Int32).toNatClampNeg)))) + 32) (show (n * 2 + bc + ((2400 - (capE (capE n151 (i150 + szK 5)) (z153.1 + szI (f105 (1 : Int32).toNatClampNeg)))) / 16) + 2) + (((capE (capE n151 (i150 + szK 5)) (z153.1 + szI (f105 (1 : Int32).toNatClampNeg))) - (capE n151 (i150 + szK 5))) / 16) ≤ (n * 2 + bc + ((2400 - (capE n151 (i150 + szK 5))) / 16) + 2) by omega) (show (n * 32 + bs + 2 * (2400 - (capE (capE n151 (i150 + szK 5)) (z153.1 + szI (f105 (1 : Int32).toNatClampNeg)))) + 32) + 2 * ((capE (capE n151 (i150 + szK 5)) (z153.1 + szI (f105 (1 : Int32).toNatClampNeg))) - (capE n151 (i150 + szK 5))) ≤ (n * 32 + bs + 2 * (2400 - (capE n151 (i150 + szK 5))) + 32) by omega) (fun z155 v w hz => ?_)
  obtain ⟨q156, rfl, rfl⟩ := hz
  show V E K mX8_partsNowText (Qm E K mX8_partsNowText (zX8_partsNowText E q1 q4 i2 v3 i5 i6 i7 i8 i9 i10 f11)) (n * 2 + bc + ((2400 - (capE (capE n151 (i150 + szK 5)) (z153.1 + szI (f105 (1 : Int32).toNatClampNeg)))) / 16) + 2) (n * 32 + bs + 2 * (2400 - (capE (capE n151 (i150 + szK 5)) (z153.1 + szI (f105 (1 : Int32).toNatClampNeg)))) + 32) [(q1, .inr (9, [.int i2, v3, .ref q4, .int i5, .int i6, .int i7, .int i8, .int i9, .int i10])), (q4, .inl (E.2.1, 81, .inl f11)), (q13, .inl (E.2.1, 81, .inl f99)), (q98, .inl (E.2.1, n104, .inl f105)), (q14, .inr (6, [.ref q156, .int cZ, .int (0 : Int32), .int z155.1])), (q156, .inl (E.2.2.1, (capE (capE n151 (i150 + szK 5)) (z153.1 + szI (f105 (1 : Int32).toNatClampNeg))), .inl z155.2))] 88 [(0, .ref q1), (1, .ref q13), (2, .ref q14), (3, .ref q98)] [.ref q14] _
  refine V_pop rfl (dX8_partsNowText 46 rfl) 89 rfl ?_
  refine V_aload_n (dX8_partsNowText 47 rfl) 90 rfl 0 rfl ?_
  refine V_aload_n (dX8_partsNowText 48 rfl) 91 rfl 1 rfl ?_
  refine V_callV (M := mX8_partsNowText) (wcs := [(q1, .inr (9, [.int i2, v3, .ref q4, .int i5, .int i6, .int i7, .int i8, .int i9, .int i10])), (q13, .inl (E.2.1, 81, .inl f99))]) (wr := [(q4, .inl (E.2.1, 81, .inl f11)), (q98, .inl (E.2.1, n104, .inl f105)), (q14, .inr (6, [.ref q156, .int cZ, .int (0 : Int32), .int z155.1])), (q156, .inl (E.2.2.1, (capE (capE n151 (i150 + szK 5)) (z153.1 + szI (f105 (1 : Int32).toNatClampNeg))), .inl z155.2))]) mf_X8_nextPart tw_1422 tw_1424 tw_46 ⟨Nat.le_of_ble_eq_true rfl, Nat.le_of_ble_eq_true rfl⟩ (dX8_partsNowText 49 rfl) 94 rfl (kX8_nextPart hs q1 q13 i2 v3 (.ref q4) i5 i6 i7 i8 i9 i10 f99) rfl [0, 2] [1, 3, 4, 5] (q0 := 0) rfl rfl rfl rfl (by decide) rfl rfl rfl rfl (Nat.le_of_ble_eq_true rfl) (n * 2 + bc + ((2400 - (capE (capE n151 (i150 + szK 5)) (z153.1 + szI (f105 (1 : Int32).toNatClampNeg)))) / 16)) (n * 32 + bs + 2 * (2400 - (capE (capE n151 (i150 + szK 5)) (z153.1 + szI (f105 (1 : Int32).toNatClampNeg))))) (show (n * 2 + bc + ((2400 - (capE (capE n151 (i150 + szK 5)) (z153.1 + szI (f105 (1 : Int32).toNatClampNeg)))) / 16)) + 2 ≤ (n * 2 + bc + ((2400 - (capE (capE n151 (i150 + szK 5)) (z153.1 + szI (f105 (1 : Int32).toNatClampNeg)))) / 16) + 2) by omega) (show (n * 32 + bs + 2 * (2400 - (capE (capE n151 (i150 + szK 5)) (z153.1 + szI (f105 (1 : Int32).toNatClampNeg))))) + 32 ≤ (n * 32 + bs + 2 * (2400 - (capE (capE n151 (i150 + szK 5)) (z153.1 + szI (f105 (1 : Int32).toNatClampNeg)))) + 32) by omega) (fun z157 v w hz => ?_)
  rcases hz with ⟨e0, rfl, rfl⟩ | ⟨n158, f159, q160, e0, rfl, rfl⟩
  · refine V_eq (oc_none e0) ?_
    show V E K mX8_partsNowText (Qm E K mX8_partsNowText (zX8_partsNowText E q1 q4 i2 v3 i5 i6 i7 i8 i9 i10 f11)) (n * 2 + bc + ((2400 - (capE (capE n151 (i150 + szK 5)) (z153.1 + szI (f105 (1 : Int32).toNatClampNeg)))) / 16)) (n * 32 + bs + 2 * (2400 - (capE (capE n151 (i150 + szK 5)) (z153.1 + szI (f105 (1 : Int32).toNatClampNeg))))) [(q4, .inl (E.2.1, 81, .inl f11)), (q98, .inl (E.2.1, n104, .inl f105)), (q14, .inr (6, [.ref q156, .int cZ, .int (0 : Int32), .int z155.1])), (q156, .inl (E.2.2.1, (capE (capE n151 (i150 + szK 5)) (z153.1 + szI (f105 (1 : Int32).toNatClampNeg))), .inl z155.2)), (q1, .inr (9, [.int i2, v3, .ref q4, .int i5, .int i6, .int i7, .int i8, .int i9, .int i10])), (q13, .inl (E.2.1, 81, .inl z157.1))] 94 [(0, .ref q1), (1, .ref q13), (2, .ref q14), (3, .ref q98)] [.null] _
    refine V_astore_nN (dX8_partsNowText 50 rfl) 95 rfl [(0, .ref q1), (1, .ref q13), (2, .ref q14), (3, .null)] (Nat.le_of_ble_eq_true rfl) rfl ?_
    refine V_goto (dX8_partsNowText 51 rfl) 19 (by decide) ?_
    refine V_aload_nN (dX8_partsNowText 11 rfl) 20 rfl 3 rfl ?_
    refine V_ifnullN (dX8_partsNowText 12 rfl) 98 (by decide) ?_
    refine V_less (bc + ((2400 - (capE (capE n151 (i150 + szK 5)) (z153.1 + szI (f105 (1 : Int32).toNatClampNeg)))) / 16)) (bs + 2 * (2400 - (capE (capE n151 (i150 + szK 5)) (z153.1 + szI (f105 (1 : Int32).toNatClampNeg))))) (show (bc + ((2400 - (capE (capE n151 (i150 + szK 5)) (z153.1 + szI (f105 (1 : Int32).toNatClampNeg)))) / 16)) ≤ (n * 2 + bc + ((2400 - (capE (capE n151 (i150 + szK 5)) (z153.1 + szI (f105 (1 : Int32).toNatClampNeg)))) / 16)) by omega) (show (bs + 2 * (2400 - (capE (capE n151 (i150 + szK 5)) (z153.1 + szI (f105 (1 : Int32).toNatClampNeg))))) ≤ (n * 32 + bs + 2 * (2400 - (capE (capE n151 (i150 + szK 5)) (z153.1 + szI (f105 (1 : Int32).toNatClampNeg))))) by omega) ?_
    refine V_world [4, 0, 2, 3] [(q1, .inr (9, [.int i2, v3, .ref q4, .int i5, .int i6, .int i7, .int i8, .int i9, .int i10])), (q4, .inl (E.2.1, 81, .inl f11)), (q14, .inr (6, [.ref q156, .int cZ, .int (0 : Int32), .int z155.1])), (q156, .inl (E.2.2.1, (capE (capE n151 (i150 + szK 5)) (z153.1 + szI (f105 (1 : Int32).toNatClampNeg))), .inl z155.2))] rfl rfl rfl ?_
    refine V_pick [2] [(2, .ref q14)] rfl ?_
    exact hk1 q156 z155.1 (capE (capE n151 (i150 + szK 5)) (z153.1 + szI (f105 (1 : Int32).toNatClampNeg))) z155.2
  · refine V_eq (oc_some e0) ?_
    show V E K mX8_partsNowText (Qm E K mX8_partsNowText (zX8_partsNowText E q1 q4 i2 v3 i5 i6 i7 i8 i9 i10 f11)) (n * 2 + bc + ((2400 - (capE (capE n151 (i150 + szK 5)) (z153.1 + szI (f105 (1 : Int32).toNatClampNeg)))) / 16)) (n * 32 + bs + 2 * (2400 - (capE (capE n151 (i150 + szK 5)) (z153.1 + szI (f105 (1 : Int32).toNatClampNeg))))) [(q4, .inl (E.2.1, 81, .inl f11)), (q98, .inl (E.2.1, n104, .inl f105)), (q14, .inr (6, [.ref q156, .int cZ, .int (0 : Int32), .int z155.1])), (q156, .inl (E.2.2.1, (capE (capE n151 (i150 + szK 5)) (z153.1 + szI (f105 (1 : Int32).toNatClampNeg))), .inl z155.2)), (q1, .inr (9, [.int i2, v3, .ref q4, .int i5, .int i6, .int i7, .int i8, .int i9, .int i10])), (q13, .inl (E.2.1, 81, .inl z157.1)), (q160, .inl (E.2.1, n158, .inl f159))] 94 [(0, .ref q1), (1, .ref q13), (2, .ref q14), (3, .ref q98)] [.ref q160] _
    refine V_astore_n (dX8_partsNowText 50 rfl) 95 rfl [(0, .ref q1), (1, .ref q13), (2, .ref q14), (3, .ref q160)] (Nat.le_of_ble_eq_true rfl) rfl ?_
    refine V_goto (dX8_partsNowText 51 rfl) 19 (by decide) ?_
    refine V_world [4, 0, 5, 2, 3, 6] [(q1, .inr (9, [.int i2, v3, .ref q4, .int i5, .int i6, .int i7, .int i8, .int i9, .int i10])), (q4, .inl (E.2.1, 81, .inl f11)), (q13, .inl (E.2.1, 81, .inl z157.1)), (q14, .inr (6, [.ref q156, .int cZ, .int (0 : Int32), .int z155.1])), (q156, .inl (E.2.2.1, (capE (capE n151 (i150 + szK 5)) (z153.1 + szI (f105 (1 : Int32).toNatClampNeg))), .inl z155.2)), (q160, .inl (E.2.1, n158, .inl f159))] rfl rfl rfl ?_
    exact hrec q160 q156 z157.1 z155.1 (capE (capE n151 (i150 + szK 5)) (z153.1 + szI (f105 (1 : Int32).toNatClampNeg))) z155.2 n158 f159
set_option maxRecDepth 20000 in
theorem vLX8_partsNowText_L19 {E : EX} {K : KX} (hs : K.l.stackTraces = false) (q1 q4 q13 q14 : Nat) (i2 : Int32) (v3 : Value) (i5 i6 i7 i8 i9 i10 : Int32) (f11 : Nat → Int32) (bc bs : Nat) {k1 : Int32 → Nat → (Nat → Int32) → Option (Nat × (Nat → Int32))} (hk1 : ∀ (q161 : Nat) (i162 : Int32) (n163 : Nat) (f164 : Nat → Int32), V E K mX8_partsNowText (Qm E K mX8_partsNowText (zX8_partsNowText E q1 q4 i2 v3 i5 i6 i7 i8 i9 i10 f11)) (bc + ((2400 - n163) / 16)) (bs + 2 * (2400 - n163)) [(q1, .inr (9, [.int i2, v3, .ref q4, .int i5, .int i6, .int i7, .int i8, .int i9, .int i10])), (q4, .inl (E.2.1, 81, .inl f11)), (q14, .inr (6, [.ref q161, .int cZ, .int (0 : Int32), .int i162])), (q161, .inl (E.2.2.1, n163, .inl f164))] 98 [(2, .ref q14)] [] (k1 i162 n163 f164)) : ∀ (n : Nat) (q98 q100 : Nat) (f99 : Nat → Int32) (i101 : Int32) (n102 : Nat) (f103 : Nat → Int32) (n104 : Nat) (f105 : Nat → Int32), V E K mX8_partsNowText (Qm E K mX8_partsNowText (zX8_partsNowText E q1 q4 i2 v3 i5 i6 i7 i8 i9 i10 f11)) (n * 2 + bc + ((2400 - n102) / 16)) (n * 32 + bs + 2 * (2400 - n102)) [(q1, .inr (9, [.int i2, v3, .ref q4, .int i5, .int i6, .int i7, .int i8, .int i9, .int i10])), (q4, .inl (E.2.1, 81, .inl f11)), (q13, .inl (E.2.1, 81, .inl f99)), (q14, .inr (6, [.ref q100, .int cZ, .int (0 : Int32), .int i101])), (q100, .inl (E.2.2.1, n102, .inl f103)), (q98, .inl (E.2.1, n104, .inl f105))] 19 [(0, .ref q1), (1, .ref q13), (2, .ref q14), (3, .ref q98)] [] (LX8_partsNowText_L19  i2 i5 i6 n f99 i101 n102 f103 n104 f105 k1)
  | 0, _, _, _, _, _, _, _, _ => V_none
  | n + 1, q98, q100, f99, i101, n102, f103, n104, f105 => V_less (n * 2 + bc + ((2400 - n102) / 16) + 2) (n * 32 + bs + 2 * (2400 - n102) + 32) (by omega) (by omega) (vBX8_partsNowText_L19 hs q1 q4 q13 q14 i2 v3 i5 i6 i7 i8 i9 i10 f11 bc bs n q98 q100 f99 i101 n102 f103 n104 f105 (fun q98 q100 f99 i101 n102 f103 n104 f105 => vLX8_partsNowText_L19 hs q1 q4 q13 q14 i2 v3 i5 i6 i7 i8 i9 i10 f11 bc bs hk1 n q98 q100 f99 i101 n102 f103 n104 f105) hk1)
set_option maxRecDepth 20000 in
theorem kX8_partsNowText {E : EX} {l : Launch} (hl : l.stackTraces = false) (q1 q4 : Nat) (i2 : Int32) (v3 : Value) (i5 i6 i7 i8 i9 i10 : Int32) (f11 : Nat → Int32) : Ct E l mX8_partsNowText [.ref q1] [(q1, .inr (9, [.int i2, v3, .ref q4, .int i5, .int i6, .int i7, .int i8, .int i9, .int i10])), (q4, .inl (E.2.1, 81, .inl f11))] (fX8_partsNowText i2 i5 i6 f11) (zX8_partsNowText E q1 q4 i2 v3 i5 i6 i7 i8 i9 i10 f11) := Ct_of hl mf_X8_partsNowText.1 (Nat.le_of_ble_eq_true rfl) (fun K hs => by
  refine V_less 285 20385 (Nat.le_refl _) (Nat.le_refl _) ?_
  refine V_pick [0] [(0, .ref q1)] rfl ?_
  unfold fX8_partsNowText
  refine V_aload_n (dX8_partsNowText 0 rfl) 1 rfl 0 rfl ?_
  refine V_callV (M := mX8_partsNowText) (wcs := [(q1, .inr (9, [.int i2, v3, .ref q4, .int i5, .int i6, .int i7, .int i8, .int i9, .int i10])), (q4, .inl (E.2.1, 81, .inl f11))]) (wr := []) mf_X8_flowRow tw_1559 tw_1561 tw_59 ⟨Nat.le_of_ble_eq_true rfl, Nat.le_of_ble_eq_true rfl⟩ (dX8_partsNowText 1 rfl) 4 rfl (kX8_flowRow hs q1 q4 i2 v3 i5 i6 i7 i8 i9 i10 f11) rfl [0, 1] [] (q0 := 0) rfl rfl rfl rfl (by decide) rfl rfl rfl rfl (Nat.le_of_ble_eq_true rfl) 284 20304 (show 284 + 1 ≤ 285 from Nat.le_of_ble_eq_true rfl) (show 20304 + 81 ≤ 20385 from Nat.le_of_ble_eq_true rfl) (fun z12 v w hz => ?_)
  obtain ⟨q13, rfl, rfl⟩ := hz
  show V E K mX8_partsNowText (Qm E K mX8_partsNowText (zX8_partsNowText E q1 q4 i2 v3 i5 i6 i7 i8 i9 i10 f11)) 284 20304 [(q1, .inr (9, [.int i2, v3, .ref q4, .int i5, .int i6, .int i7, .int i8, .int i9, .int i10])), (q4, .inl (E.2.1, 81, .inl f11)), (q13, .inl (E.2.1, 81, .inl z12))] 4 [(0, .ref q1)] [.ref q13] _
  refine V_astore_n (dX8_partsNowText 2 rfl) 5 rfl [(0, .ref q1), (1, .ref q13)] (Nat.le_of_ble_eq_true rfl) rfl ?_
  refine V_new nf_M_104 (dX8_partsNowText 3 rfl) 8 rfl 283 20300 (show 283 + 1 ≤ 284 from Nat.le_of_ble_eq_true rfl) (show 20300 + 4 ≤ 20304 from Nat.le_of_ble_eq_true rfl) (fun q14 => ?_)
  refine V_eqW (ws2 := [(q1, .inr (9, [.int i2, v3, .ref q4, .int i5, .int i6, .int i7, .int i8, .int i9, .int i10])), (q4, .inl (E.2.1, 81, .inl f11)), (q13, .inl (E.2.1, 81, .inl z12)), (q14, .inr (6, [.null, .int cZ, .int (0 : Int32), .int (0 : Int32)]))]) rfl ?_
  refine V_dup rfl (dX8_partsNowText 4 rfl) 9 rfl ?_
  refine V_callI (M := mX8_partsNowText) (wcs := [(q14, .inr (6, [.null, .int cZ, .int (0 : Int32), .int (0 : Int32)]))]) (wr := [(q1, .inr (9, [.int i2, v3, .ref q4, .int i5, .int i6, .int i7, .int i8, .int i9, .int i10])), (q4, .inl (E.2.1, 81, .inl f11)), (q13, .inl (E.2.1, 81, .inl z12))]) mf_J4_init_da8c8 rfl rfl tw_1464 tw_210 ⟨Nat.le_of_ble_eq_true rfl, Nat.le_of_ble_eq_true rfl⟩ (dX8_partsNowText 5 rfl) 12 rfl (kJ4_init_da8c8 hs q14 .null (0 : Int32) (0 : Int32)) rfl [3] [0, 1, 2] rfl rfl rfl rfl (by decide) rfl (Nat.le_of_ble_eq_true rfl) (((2400 - 16) / 16) + 132) (2 * (2400 - 16) + 15484) (show (((2400 - 16) / 16) + 132) + 1 ≤ 283 by omega) (show (2 * (2400 - 16) + 15484) + 16 ≤ 20300 by omega) (fun z15 v w hz => ?_)
  obtain ⟨q16, rfl, rfl⟩ := hz
  show V E K mX8_partsNowText (Qm E K mX8_partsNowText (zX8_partsNowText E q1 q4 i2 v3 i5 i6 i7 i8 i9 i10 f11)) (((2400 - 16) / 16) + 132) (2 * (2400 - 16) + 15484) [(q1, .inr (9, [.int i2, v3, .ref q4, .int i5, .int i6, .int i7, .int i8, .int i9, .int i10])), (q4, .inl (E.2.1, 81, .inl f11)), (q13, .inl (E.2.1, 81, .inl z12)), (q14, .inr (6, [.ref q16, .int cZ, .int (0 : Int32), .int (0 : Int32)])), (q16, .inl (E.2.2.1, 16, .inl (fun _ => 0)))] 12 [(0, .ref q1), (1, .ref q13)] [.ref q14] _
  refine V_astore_n (dX8_partsNowText 6 rfl) 13 rfl [(0, .ref q1), (1, .ref q13), (2, .ref q14)] (Nat.le_of_ble_eq_true rfl) rfl ?_
  refine V_aload_n (dX8_partsNowText 7 rfl) 14 rfl 0 rfl ?_
  refine V_aload_n (dX8_partsNowText 8 rfl) 15 rfl 1 rfl ?_
  refine V_callV (M := mX8_partsNowText) (wcs := [(q1, .inr (9, [.int i2, v3, .ref q4, .int i5, .int i6, .int i7, .int i8, .int i9, .int i10])), (q13, .inl (E.2.1, 81, .inl z12))]) (wr := [(q4, .inl (E.2.1, 81, .inl f11)), (q14, .inr (6, [.ref q16, .int cZ, .int (0 : Int32), .int (0 : Int32)])), (q16, .inl (E.2.2.1, 16, .inl (fun _ => 0)))]) mf_X8_nextPart tw_1422 tw_1424 tw_46 ⟨Nat.le_of_ble_eq_true rfl, Nat.le_of_ble_eq_true rfl⟩ (dX8_partsNowText 9 rfl) 18 rfl (kX8_nextPart hs q1 q13 i2 v3 (.ref q4) i5 i6 i7 i8 i9 i10 z12) rfl [0, 2] [1, 3, 4] (q0 := 0) rfl rfl rfl rfl (by decide) rfl rfl rfl rfl (Nat.le_of_ble_eq_true rfl) (((2400 - 16) / 16) + 130) (2 * (2400 - 16) + 15452) (show (((2400 - 16) / 16) + 130) + 2 ≤ (((2400 - 16) / 16) + 132) by omega) (show (2 * (2400 - 16) + 15452) + 32 ≤ (2 * (2400 - 16) + 15484) by omega) (fun z17 v w hz => ?_)
  rcases hz with ⟨e0, rfl, rfl⟩ | ⟨n18, f19, q20, e0, rfl, rfl⟩
  · refine V_eq (oc_none e0) ?_
    show V E K mX8_partsNowText (Qm E K mX8_partsNowText (zX8_partsNowText E q1 q4 i2 v3 i5 i6 i7 i8 i9 i10 f11)) (((2400 - 16) / 16) + 130) (2 * (2400 - 16) + 15452) [(q4, .inl (E.2.1, 81, .inl f11)), (q14, .inr (6, [.ref q16, .int cZ, .int (0 : Int32), .int (0 : Int32)])), (q16, .inl (E.2.2.1, 16, .inl (fun _ => 0))), (q1, .inr (9, [.int i2, v3, .ref q4, .int i5, .int i6, .int i7, .int i8, .int i9, .int i10])), (q13, .inl (E.2.1, 81, .inl z17.1))] 18 [(0, .ref q1), (1, .ref q13), (2, .ref q14)] [.null] _
    refine V_astore_nN (dX8_partsNowText 10 rfl) 19 rfl [(0, .ref q1), (1, .ref q13), (2, .ref q14), (3, .null)] (Nat.le_of_ble_eq_true rfl) rfl ?_
    refine V_aload_nN (dX8_partsNowText 11 rfl) 20 rfl 3 rfl ?_
    refine V_ifnullN (dX8_partsNowText 12 rfl) 98 (by decide) ?_
    refine V_aload_n (dX8_partsNowText 52 rfl) 99 rfl 2 rfl ?_
    refine V_callV (M := mX8_partsNowText) (wcs := [(q14, .inr (6, [.ref q16, .int cZ, .int (0 : Int32), .int (0 : Int32)])), (q16, .inl (E.2.2.1, 16, .inl (fun _ => 0)))]) (wr := [(q4, .inl (E.2.1, 81, .inl f11)), (q1, .inr (9, [.int i2, v3, .ref q4, .int i5, .int i6, .int i7, .int i8, .int i9, .int i10])), (q13, .inl (E.2.1, 81, .inl z17.1))]) mf_J4_toString_0e30d tw_1470 tw_733 tw_734 ⟨Nat.le_of_ble_eq_true rfl, Nat.le_of_ble_eq_true rfl⟩ (dX8_partsNowText 53 rfl) 102 rfl (kJ4_toString_0e30d hs q14 q16 (0 : Int32) (0 : Int32) 16 (fun _ => 0)) rfl [1, 2] [0, 3, 4] (q0 := 0) rfl rfl rfl rfl (by decide) rfl rfl rfl rfl (Nat.le_of_ble_eq_true rfl) (((2400 - 16) / 16) + 128) (2 * (2400 - 16) + 2048) (show (((2400 - 16) / 16) + 128) + 2 ≤ (((2400 - 16) / 16) + 130) by omega) (show (2 * (2400 - 16) + 2048) + 13404 ≤ (2 * (2400 - 16) + 15452) by omega) (fun z21 v w hz => ?_)
    obtain ⟨q22, q23, rfl, rfl⟩ := hz
    show V E K mX8_partsNowText (Qm E K mX8_partsNowText (zX8_partsNowText E q1 q4 i2 v3 i5 i6 i7 i8 i9 i10 f11)) (((2400 - 16) / 16) + 128) (2 * (2400 - 16) + 2048) [(q4, .inl (E.2.1, 81, .inl f11)), (q1, .inr (9, [.int i2, v3, .ref q4, .int i5, .int i6, .int i7, .int i8, .int i9, .int i10])), (q13, .inl (E.2.1, 81, .inl z17.1)), (q14, .inr (6, [.ref q16, .int cZ, .int (0 : Int32), .int (0 : Int32)])), (q16, .inl (E.2.2.1, 16, .inl (fun _ => 0))), (q22, .inr (7, [.ref q23, .int cZ, .int (0 : Int32), .int (0 : Int32)])), (q23, .inl (E.2.2.1, z21.1, .inl z21.2))] 102 [(0, .ref q1), (1, .ref q13), (2, .ref q14), (3, .null)] [.ref q22] _
    refine V_world [1, 0, 5, 6] [(q1, .inr (9, [.int i2, v3, .ref q4, .int i5, .int i6, .int i7, .int i8, .int i9, .int i10])), (q4, .inl (E.2.1, 81, .inl f11)), (q22, .inr (7, [.ref q23, .int cZ, .int (0 : Int32), .int (0 : Int32)])), (q23, .inl (E.2.2.1, z21.1, .inl z21.2))] rfl rfl rfl ?_
    exact V_aret rfl (Or.inl ⟨_, rfl⟩) (Or.inr ⟨_, rfl⟩) (dX8_partsNowText 54 rfl) ⟨q22, q23, rfl, rfl⟩
  · refine V_eq (oc_some e0) ?_
    show V E K mX8_partsNowText (Qm E K mX8_partsNowText (zX8_partsNowText E q1 q4 i2 v3 i5 i6 i7 i8 i9 i10 f11)) (((2400 - 16) / 16) + 130) (2 * (2400 - 16) + 15452) [(q4, .inl (E.2.1, 81, .inl f11)), (q14, .inr (6, [.ref q16, .int cZ, .int (0 : Int32), .int (0 : Int32)])), (q16, .inl (E.2.2.1, 16, .inl (fun _ => 0))), (q1, .inr (9, [.int i2, v3, .ref q4, .int i5, .int i6, .int i7, .int i8, .int i9, .int i10])), (q13, .inl (E.2.1, 81, .inl z17.1)), (q20, .inl (E.2.1, n18, .inl f19))] 18 [(0, .ref q1), (1, .ref q13), (2, .ref q14)] [.ref q20] _
    refine V_astore_n (dX8_partsNowText 10 rfl) 19 rfl [(0, .ref q1), (1, .ref q13), (2, .ref q14), (3, .ref q20)] (Nat.le_of_ble_eq_true rfl) rfl ?_
    refine V_world [3, 0, 4, 1, 2, 5] [(q1, .inr (9, [.int i2, v3, .ref q4, .int i5, .int i6, .int i7, .int i8, .int i9, .int i10])), (q4, .inl (E.2.1, 81, .inl f11)), (q13, .inl (E.2.1, 81, .inl z17.1)), (q14, .inr (6, [.ref q16, .int cZ, .int (0 : Int32), .int (0 : Int32)])), (q16, .inl (E.2.2.1, 16, .inl (fun _ => 0))), (q20, .inl (E.2.1, n18, .inl f19))] rfl rfl rfl ?_
    refine V_less (64 * 2 + 2 + ((2400 - 16) / 16)) (64 * 32 + 13404 + 2 * (2400 - 16)) (by omega) (by omega) ?_
    refine vLX8_partsNowText_L19 hs q1 q4 q13 q14 i2 v3 i5 i6 i7 i8 i9 i10 f11 2 13404 ?_ 64 q20 q16 z17.1 (0 : Int32) 16 (fun _ => 0) n18 f19
    intro q161 i162 n163 f164
    refine V_less (((2400 - n163) / 16) + 2) (2 * (2400 - n163) + 13404) (by omega) (by omega) ?_
    show V E K mX8_partsNowText (Qm E K mX8_partsNowText (zX8_partsNowText E q1 q4 i2 v3 i5 i6 i7 i8 i9 i10 f11)) (((2400 - n163) / 16) + 2) (2 * (2400 - n163) + 13404) [(q1, .inr (9, [.int i2, v3, .ref q4, .int i5, .int i6, .int i7, .int i8, .int i9, .int i10])), (q4, .inl (E.2.1, 81, .inl f11)), (q14, .inr (6, [.ref q161, .int cZ, .int (0 : Int32), .int i162])), (q161, .inl (E.2.2.1, n163, .inl f164))] 98 [(2, .ref q14)] [] _
    refine V_aload_n (dX8_partsNowText 52 rfl) 99 rfl 0 rfl ?_
    refine V_callV (M := mX8_partsNowText) (wcs := [(q14, .inr (6, [.ref q161, .int cZ, .int (0 : Int32), .int i162])), (q161, .inl (E.2.2.1, n163, .inl f164))]) (wr := [(q1, .inr (9, [.int i2, v3, .ref q4, .int i5, .int i6, .int i7, .int i8, .int i9, .int i10])), (q4, .inl (E.2.1, 81, .inl f11))]) mf_J4_toString_0e30d tw_1470 tw_733 tw_734 ⟨Nat.le_of_ble_eq_true rfl, Nat.le_of_ble_eq_true rfl⟩ (dX8_partsNowText 53 rfl) 102 rfl (kJ4_toString_0e30d hs q14 q161 (0 : Int32) i162 n163 f164) rfl [2, 3] [0, 1] (q0 := 0) rfl rfl rfl rfl (by decide) rfl rfl rfl rfl (Nat.le_of_ble_eq_true rfl) (((2400 - n163) / 16)) (2 * (2400 - n163)) (show (((2400 - n163) / 16)) + 2 ≤ (((2400 - n163) / 16) + 2) by omega) (show (2 * (2400 - n163)) + 13404 ≤ (2 * (2400 - n163) + 13404) by omega) (fun z165 v w hz => ?_)
    obtain ⟨q166, q167, rfl, rfl⟩ := hz
    show V E K mX8_partsNowText (Qm E K mX8_partsNowText (zX8_partsNowText E q1 q4 i2 v3 i5 i6 i7 i8 i9 i10 f11)) (((2400 - n163) / 16)) (2 * (2400 - n163)) [(q1, .inr (9, [.int i2, v3, .ref q4, .int i5, .int i6, .int i7, .int i8, .int i9, .int i10])), (q4, .inl (E.2.1, 81, .inl f11)), (q14, .inr (6, [.ref q161, .int cZ, .int (0 : Int32), .int i162])), (q161, .inl (E.2.2.1, n163, .inl f164)), (q166, .inr (7, [.ref q167, .int cZ, .int (0 : Int32), .int (0 : Int32)])), (q167, .inl (E.2.2.1, z165.1, .inl z165.2))] 102 [(2, .ref q14)] [.ref q166] _
    refine V_world [0, 1, 4, 5] [(q1, .inr (9, [.int i2, v3, .ref q4, .int i5, .int i6, .int i7, .int i8, .int i9, .int i10])), (q4, .inl (E.2.1, 81, .inl f11)), (q166, .inr (7, [.ref q167, .int cZ, .int (0 : Int32), .int (0 : Int32)])), (q167, .inl (E.2.2.1, z165.1, .inl z165.2))] rfl rfl rfl ?_
    exact V_aret rfl (Or.inl ⟨_, rfl⟩) (Or.inr ⟨_, rfl⟩) (dX8_partsNowText 54 rfl) ⟨q166, q167, rfl, rfl⟩)
