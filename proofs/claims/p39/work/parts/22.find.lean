/-! by program: 22.find -/
abbrev mX6_holds : MX := (yX6_holds, cX6_holds, 2, (some FieldType.boolean), { frames := 0, cells := 0, slots := 0, locals := 0 })
abbrev zX6_holds (E : EX)  : (Int32) → Option Value → va_W → Prop := fun z v w => v = some (.int z) ∧ w = []
abbrev mX0_isCut : MX := (yX0_isCut, cX0_isCut, 2, (some FieldType.boolean), { frames := 1, cells := 0, slots := 0, locals := 21 })
abbrev zX0_isCut (E : EX) (q1 : Nat) (i3 : Int32) (i4 : Int32) (i5 : Int32) (v6 : Value) (v7 : Value) : (Int32) → Option Value → va_W → Prop := fun z v w => v = some (.int z) ∧ w = [(q1, .inr (1, [.int i3, .int i4, .int i5, v6, v7]))]
abbrev mX0_sumAcross : MX := (yX0_sumAcross, cX0_sumAcross, 6, (some FieldType.int), { frames := 1, cells := 0, slots := 0, locals := 22 })
abbrev zX0_sumAcross (E : EX) (q1 : Nat) (q2 : Nat) (q9 : Nat) (i4 : Int32) (i5 : Int32) (i6 : Int32) (v7 : Value) (v8 : Value) (f10 : Nat → Int32) : (Int32) → Option Value → va_W → Prop := fun z v w => v = some (.int z) ∧ w = [(q1, .inr (1, [.int i4, .int i5, .int i6, v7, v8])), (q2, .inr (2, [.ref q9])), (q9, .inl (E.2.1, 81, .inl f10))]
abbrev mX0_leastRoom : MX := (yX0_leastRoom, cX0_leastRoom, 4, (some FieldType.int), { frames := 2, cells := 0, slots := 0, locals := 47 })
abbrev zX0_leastRoom (E : EX) (q1 : Nat) (q5 : Nat) (q7 : Nat) (i2 : Int32) (i3 : Int32) (i4 : Int32) (v6 : Value) (f8 : Nat → Int32) : (Int32) → Option Value → va_W → Prop := fun z v w => v = some (.int z) ∧ w = [(q1, .inr (1, [.int i2, .int i3, .int i4, .ref q5, v6])), (q5, .inr (2, [.ref q7])), (q7, .inl (E.2.1, 81, .inl f8))]
abbrev mX0_isLeastCut : MX := (yX0_isLeastCut, cX0_isLeastCut, 3, (some FieldType.boolean), { frames := 2, cells := 0, slots := 0, locals := 47 })
abbrev zX0_isLeastCut (E : EX) (q1 : Nat) (q7 : Nat) (q9 : Nat) (i4 : Int32) (i5 : Int32) (i6 : Int32) (v8 : Value) (f10 : Nat → Int32) : (Int32) → Option Value → va_W → Prop := fun z v w => v = some (.int z) ∧ w = [(q1, .inr (1, [.int i4, .int i5, .int i6, .ref q7, v8])), (q7, .inr (2, [.ref q9])), (q9, .inl (E.2.1, 81, .inl f10))]
abbrev mX0_countOfLeast : MX := (yX0_countOfLeast, cX0_countOfLeast, 5, (some FieldType.int), { frames := 3, cells := 0, slots := 0, locals := 70 })
abbrev zX0_countOfLeast (E : EX) (q1 : Nat) (q5 : Nat) (q7 : Nat) (i2 : Int32) (i3 : Int32) (i4 : Int32) (v6 : Value) (f8 : Nat → Int32) : (Int32) → Option Value → va_W → Prop := fun z v w => v = some (.int z) ∧ w = [(q1, .inr (1, [.int i2, .int i3, .int i4, .ref q5, v6])), (q5, .inr (2, [.ref q7])), (q7, .inl (E.2.1, 81, .inl f8))]
abbrev mX0_leastByNumber : MX := (yX0_leastByNumber, cX0_leastByNumber, 6, (some FieldType.int), { frames := 3, cells := 0, slots := 0, locals := 70 })
abbrev zX0_leastByNumber (E : EX) (q1 : Nat) (q6 : Nat) (q8 : Nat) (i3 : Int32) (i4 : Int32) (i5 : Int32) (v7 : Value) (f9 : Nat → Int32) : (Int32) → Option Value → va_W → Prop := fun z v w => v = some (.int z) ∧ w = [(q1, .inr (1, [.int i3, .int i4, .int i5, .ref q6, v7])), (q6, .inr (2, [.ref q8])), (q8, .inl (E.2.1, 81, .inl f9))]
abbrev mX0_nearest : MX := (yX0_nearest, cX0_nearest, 5, (some FieldType.int), { frames := 3, cells := 0, slots := 0, locals := 70 })
abbrev zX0_nearest (E : EX) (q1 : Nat) (q5 : Nat) (q7 : Nat) (i2 : Int32) (i3 : Int32) (i4 : Int32) (v6 : Value) (f8 : Nat → Int32) : (Int32) → Option Value → va_W → Prop := fun z v w => v = some (.int z) ∧ w = [(q1, .inr (1, [.int i2, .int i3, .int i4, .ref q5, v6])), (q5, .inr (2, [.ref q7])), (q7, .inl (E.2.1, 81, .inl f8))]
abbrev mX0_farthest : MX := (yX0_farthest, cX0_farthest, 5, (some FieldType.int), { frames := 3, cells := 0, slots := 0, locals := 70 })
abbrev zX0_farthest (E : EX) (q1 : Nat) (q5 : Nat) (q7 : Nat) (i2 : Int32) (i3 : Int32) (i4 : Int32) (v6 : Value) (f8 : Nat → Int32) : (Int32) → Option Value → va_W → Prop := fun z v w => v = some (.int z) ∧ w = [(q1, .inr (1, [.int i2, .int i3, .int i4, .ref q5, v6])), (q5, .inr (2, [.ref q7])), (q7, .inl (E.2.1, 81, .inl f8))]
abbrev mX0_letEachThrough : MX := (yX0_letEachThrough, cX0_letEachThrough, 4, (some FieldType.boolean), { frames := 2, cells := 0, slots := 0, locals := 47 })
abbrev zX0_letEachThrough (E : EX) (q1 : Nat) (q7 : Nat) (q8 : Nat) (i3 : Int32) (i4 : Int32) (i5 : Int32) (v6 : Value) (f9 : Nat → Int32) : (Int32) → Option Value → va_W → Prop := fun z v w => v = some (.int z) ∧ w = [(q1, .inr (1, [.int i3, .int i4, .int i5, v6, .ref q7])), (q7, .inr (2, [.ref q8])), (q8, .inl (E.2.1, 81, .inl f9))]
abbrev mX3_init : MX := (yX3_init, cX3_init, 1, (Option.none : Option FieldType), { frames := 2, cells := 2, slots := 12, locals := 44 })
abbrev zX3_init (E : EX) (q1 : Nat) (i3 : Int32) (i4 : Int32) : (Unit) → Option Value → va_W → Prop := fun z v w => ∃ q8 : Nat, ∃ q9 : Nat, v = none ∧ w = [(q1, .inr (5, [.ref q8, .int i3, .int i4])), (q8, .inr (4, [.ref q9, .int (0 : Int32)])), (q9, .inl (E.2.1, 10, .inl (fun _ => 0)))]
abbrev mX3_leastFlow : MX := (yX3_leastFlow, cX3_leastFlow, 4, (some FieldType.int), { frames := 1, cells := 0, slots := 0, locals := 24 })
abbrev zX3_leastFlow (E : EX) (q1 : Nat) (q3 : Nat) (q6 : Nat) (q2 : Nat) (q13 : Nat) (q14 : Nat) (i4 : Int32) (i5 : Int32) (i7 : Int32) (f8 : Nat → Int32) (i9 : Int32) (i10 : Int32) (i11 : Int32) (v12 : Value) (f15 : Nat → Int32) : (Int32) → Option Value → va_W → Prop := fun z v w => v = some (.int z) ∧ w = [(q1, .inr (5, [.ref q3, .int i4, .int i5])), (q3, .inr (4, [.ref q6, .int i7])), (q6, .inl (E.2.1, 10, .inl f8)), (q2, .inr (1, [.int i9, .int i10, .int i11, v12, .ref q13])), (q13, .inr (2, [.ref q14])), (q14, .inl (E.2.1, 81, .inl f15))]
abbrev mX3_next : MX := (yX3_next, cX3_next, 3, (some FieldType.int), { frames := 1, cells := 0, slots := 0, locals := 22 })
abbrev zX3_next (E : EX) (q1 : Nat) (q7 : Nat) (q8 : Nat) (i3 : Int32) (i4 : Int32) (i5 : Int32) (v6 : Value) (f9 : Nat → Int32) : (Int32) → Option Value → va_W → Prop := fun z v w => v = some (.int z) ∧ w = [(q1, .inr (1, [.int i3, .int i4, .int i5, v6, .ref q7])), (q7, .inr (2, [.ref q8])), (q8, .inl (E.2.1, 81, .inl f9))]
abbrev mX3_walk : MX := (yX3_walk, cX3_walk, 8, (some FieldType.boolean), { frames := 2, cells := 0, slots := 0, locals := 47 })
abbrev zX3_walk (E : EX) (q1 : Nat) (q6 : Nat) (q9 : Nat) (q2 : Nat) (q16 : Nat) (q17 : Nat) (i12 : Int32) (i13 : Int32) (i14 : Int32) (v15 : Value) (f18 : Nat → Int32) : (Int32 × Int32 × Int32 × Int32 × (Nat → Int32)) → Option Value → va_W → Prop := fun z v w => v = some (.int z.1) ∧ w = [(q1, .inr (5, [.ref q6, .int z.2.1, .int z.2.2.1])), (q6, .inr (4, [.ref q9, .int z.2.2.2.1])), (q9, .inl (E.2.1, 10, .inl z.2.2.2.2)), (q2, .inr (1, [.int i12, .int i13, .int i14, v15, .ref q16])), (q16, .inr (2, [.ref q17])), (q17, .inl (E.2.1, 81, .inl f18))]
abbrev mX3_find : MX := (yX3_find, cX3_find, 4, (some FieldType.boolean), { frames := 3, cells := 0, slots := 0, locals := 74 })
abbrev zX3_find (E : EX) (q1 : Nat) (q3 : Nat) (q6 : Nat) (q2 : Nat) (q13 : Nat) (q14 : Nat) (i9 : Int32) (i10 : Int32) (i11 : Int32) (v12 : Value) (f15 : Nat → Int32) : (Int32 × Int32 × Int32 × Int32 × (Nat → Int32)) → Option Value → va_W → Prop := fun z v w => v = some (.int z.1) ∧ w = [(q1, .inr (5, [.ref q3, .int z.2.1, .int z.2.2.1])), (q3, .inr (4, [.ref q6, .int z.2.2.2.1])), (q6, .inl (E.2.1, 10, .inl z.2.2.2.2)), (q2, .inr (1, [.int i9, .int i10, .int i11, v12, .ref q13])), (q13, .inr (2, [.ref q14])), (q14, .inl (E.2.1, 81, .inl f15))]
abbrev mX3_takeFrom : MX := (yX3_takeFrom, cX3_takeFrom, 2, (Option.none : Option FieldType), { frames := 3, cells := 0, slots := 0, locals := 69 })
abbrev zX3_takeFrom (E : EX) (q1 : Nat) (q3 : Nat) (q6 : Nat) (q2 : Nat) (q13 : Nat) (q14 : Nat) (i4 : Int32) (i5 : Int32) (i7 : Int32) (f8 : Nat → Int32) (i9 : Int32) (i10 : Int32) (i11 : Int32) (v12 : Value) : ((Nat → Int32)) → Option Value → va_W → Prop := fun z v w => v = none ∧ w = [(q1, .inr (5, [.ref q3, .int i4, .int i5])), (q3, .inr (4, [.ref q6, .int i7])), (q6, .inl (E.2.1, 10, .inl f8)), (q2, .inr (1, [.int i9, .int i10, .int i11, v12, .ref q13])), (q13, .inr (2, [.ref q14])), (q14, .inl (E.2.1, 81, .inl z))]
abbrev mX5_init : MX := (yX5_init, cX5_init, 1, (Option.none : Option FieldType), { frames := 2, cells := 3, slots := 21, locals := 44 })
abbrev zX5_init (E : EX) (q1 : Nat) (i4 : Int32) : (Unit) → Option Value → va_W → Prop := fun z v w => ∃ q9 : Nat, ∃ q10 : Nat, ∃ q11 : Nat, v = none ∧ w = [(q1, .inr (3, [.ref q9, .ref q11, .int i4])), (q9, .inr (4, [.ref q10, .int (0 : Int32)])), (q10, .inl (E.2.1, 10, .inl (fun _ => 0))), (q11, .inl (E.2.1, 9, .inl (fun _ => 0)))]
abbrev mX5_look : MX := (yX5_look, cX5_look, 5, (Option.none : Option FieldType), { frames := 1, cells := 0, slots := 0, locals := 22 })
abbrev zX5_look (E : EX) (q1 : Nat) (q4 : Nat) (q2 : Nat) (q10 : Nat) (q11 : Nat) (q12 : Nat) (q14 : Nat) (v3 : Value) (i7 : Int32) (i8 : Int32) (i9 : Int32) (f13 : Nat → Int32) (f15 : Nat → Int32) : ((Nat → Int32)) → Option Value → va_W → Prop := fun z v w => v = none ∧ w = [(q1, .inr (3, [v3, .ref q4, .int i7])), (q4, .inl (E.2.1, 9, .inl z)), (q2, .inr (1, [.int i7, .int i8, .int i9, .ref q10, .ref q11])), (q10, .inr (2, [.ref q12])), (q12, .inl (E.2.1, 81, .inl f13)), (q11, .inr (2, [.ref q14])), (q14, .inl (E.2.1, 81, .inl f15))]
abbrev mX5_comingTo : MX := (yX5_comingTo, cX5_comingTo, 8, (some FieldType.int), { frames := 0, cells := 0, slots := 0, locals := 0 })
abbrev zX5_comingTo (E : EX) (q1 : Nat) (q6 : Nat) (v5 : Value) (i7 : Int32) (f8 : Nat → Int32) : (Int32) → Option Value → va_W → Prop := fun z v w => v = some (.int z) ∧ w = [(q1, .inr (3, [v5, .ref q6, .int i7])), (q6, .inl (E.2.1, 9, .inl f8))]
abbrev mX5_stepsBetween : MX := (yX5_stepsBetween, cX5_stepsBetween, 4, (some FieldType.int), { frames := 1, cells := 0, slots := 0, locals := 27 })
abbrev zX5_stepsBetween (E : EX) (q1 : Nat) (q5 : Nat) (v4 : Value) (i6 : Int32) (f7 : Nat → Int32) : (Int32) → Option Value → va_W → Prop := fun z v w => v = some (.int z) ∧ w = [(q1, .inr (3, [v4, .ref q5, .int i6])), (q5, .inl (E.2.1, 9, .inl f7))]
abbrev mX5_onwardFrom : MX := (yX5_onwardFrom, cX5_onwardFrom, 2, (some FieldType.int), { frames := 0, cells := 0, slots := 0, locals := 0 })
abbrev zX5_onwardFrom (E : EX) (q1 : Nat) (q4 : Nat) (v3 : Value) (i5 : Int32) (f6 : Nat → Int32) : (Int32) → Option Value → va_W → Prop := fun z v w => v = some (.int z) ∧ w = [(q1, .inr (3, [v3, .ref q4, .int i5])), (q4, .inl (E.2.1, 9, .inl f6))]
abbrev mX5_highest : MX := (yX5_highest, cX5_highest, 3, (some FieldType.int), { frames := 1, cells := 0, slots := 0, locals := 21 })
abbrev zX5_highest (E : EX) (q1 : Nat) (v3 : Value) (v4 : Value) (i5 : Int32) : (Int32) → Option Value → va_W → Prop := fun z v w => v = some (.int z) ∧ w = [(q1, .inr (3, [v3, v4, .int i5]))]
abbrev mX5_lowest : MX := (yX5_lowest, cX5_lowest, 3, (some FieldType.int), { frames := 1, cells := 0, slots := 0, locals := 21 })
abbrev zX5_lowest (E : EX) (q1 : Nat) (v3 : Value) (v4 : Value) (i5 : Int32) : (Int32) → Option Value → va_W → Prop := fun z v w => v = some (.int z) ∧ w = [(q1, .inr (3, [v3, v4, .int i5]))]
abbrev mX5_find : MX := (yX5_find, cX5_find, 9, (Option.none : Option FieldType), { frames := 2, cells := 0, slots := 0, locals := 50 })
abbrev zX5_find (E : EX) (q1 : Nat) (q4 : Nat) (q5 : Nat) (q7 : Nat) (q2 : Nat) (q14 : Nat) (q15 : Nat) (q16 : Nat) (q18 : Nat) (i11 : Int32) (i12 : Int32) (i13 : Int32) (f17 : Nat → Int32) (f19 : Nat → Int32) : (Int32 × (Nat → Int32) × (Nat → Int32)) → Option Value → va_W → Prop := fun z v w => v = none ∧ w = [(q1, .inr (3, [.ref q4, .ref q5, .int i11])), (q4, .inr (4, [.ref q7, .int z.1])), (q7, .inl (E.2.1, 10, .inl z.2.1)), (q5, .inl (E.2.1, 9, .inl z.2.2)), (q2, .inr (1, [.int i11, .int i12, .int i13, .ref q14, .ref q15])), (q14, .inr (2, [.ref q16])), (q16, .inl (E.2.1, 81, .inl f17)), (q15, .inr (2, [.ref q18])), (q18, .inl (E.2.1, 81, .inl f19))]
abbrev mX5_leastLeft : MX := (yX5_leastLeft, cX5_leastLeft, 4, (some FieldType.int), { frames := 2, cells := 0, slots := 0, locals := 44 })
abbrev zX5_leastLeft (E : EX) (q1 : Nat) (q3 : Nat) (q6 : Nat) (q2 : Nat) (q12 : Nat) (q13 : Nat) (q14 : Nat) (q16 : Nat) (v4 : Value) (i5 : Int32) (i7 : Int32) (f8 : Nat → Int32) (i9 : Int32) (i10 : Int32) (i11 : Int32) (f15 : Nat → Int32) (f17 : Nat → Int32) : (Int32) → Option Value → va_W → Prop := fun z v w => v = some (.int z) ∧ w = [(q1, .inr (3, [.ref q3, v4, .int i5])), (q3, .inr (4, [.ref q6, .int i7])), (q6, .inl (E.2.1, 10, .inl f8)), (q2, .inr (1, [.int i9, .int i10, .int i11, .ref q12, .ref q13])), (q12, .inr (2, [.ref q14])), (q14, .inl (E.2.1, 81, .inl f15)), (q13, .inr (2, [.ref q16])), (q16, .inl (E.2.1, 81, .inl f17))]
abbrev mX5_fillTimes : MX := (yX5_fillTimes, cX5_fillTimes, 5, (some FieldType.int), { frames := 3, cells := 0, slots := 0, locals := 78 })
abbrev zX5_fillTimes (E : EX) (q1 : Nat) (q5 : Nat) (q6 : Nat) (q8 : Nat) (q2 : Nat) (q15 : Nat) (q16 : Nat) (q17 : Nat) (q19 : Nat) (i12 : Int32) (i13 : Int32) (i14 : Int32) (f18 : Nat → Int32) : (Int32 × Int32 × Int32 × (Nat → Int32) × (Nat → Int32) × (Nat → Int32)) → Option Value → va_W → Prop := fun z v w => v = some (.int z.1) ∧ w = [(q1, .inr (3, [.ref q5, .ref q6, .int z.2.1])), (q5, .inr (4, [.ref q8, .int z.2.2.1])), (q8, .inl (E.2.1, 10, .inl z.2.2.2.1)), (q6, .inl (E.2.1, 9, .inl z.2.2.2.2.1)), (q2, .inr (1, [.int i12, .int i13, .int i14, .ref q15, .ref q16])), (q15, .inr (2, [.ref q17])), (q17, .inl (E.2.1, 81, .inl f18)), (q16, .inr (2, [.ref q19])), (q19, .inl (E.2.1, 81, .inl z.2.2.2.2.2))]
abbrev mX5_layerOf : MX := (yX5_layerOf, cX5_layerOf, 3, (some FieldType.int), { frames := 2, cells := 0, slots := 0, locals := 50 })
abbrev zX5_layerOf (E : EX) (q1 : Nat) (q5 : Nat) (q2 : Nat) (q11 : Nat) (q12 : Nat) (q13 : Nat) (q15 : Nat) (v4 : Value) (i8 : Int32) (i9 : Int32) (i10 : Int32) (f14 : Nat → Int32) (f16 : Nat → Int32) : (Int32 × (Nat → Int32)) → Option Value → va_W → Prop := fun z v w => v = some (.int z.1) ∧ w = [(q1, .inr (3, [v4, .ref q5, .int i8])), (q5, .inl (E.2.1, 9, .inl z.2)), (q2, .inr (1, [.int i8, .int i9, .int i10, .ref q11, .ref q12])), (q11, .inr (2, [.ref q13])), (q13, .inl (E.2.1, 81, .inl f14)), (q12, .inr (2, [.ref q15])), (q15, .inl (E.2.1, 81, .inl f16))]
noncomputable def fX6_holds  (i1 : Int32) (i2 : Int32) : Option (Int32) :=
  if ((i1 >>> (i2 &&& 31)) &&& (1 : Int32)) = (1 : Int32) then (some (1 : Int32)) else (some (0 : Int32))
noncomputable def fX0_isCut  (i4 : Int32) (i5 : Int32) (i2 : Int32) : Option (Int32) :=
  (fX6_holds i2 i4).bind (fun z8 => if z8 = (0 : Int32) then (some (0 : Int32)) else ((fX6_holds i2 i5).bind (fun z9 => if z9 = (0 : Int32) then (some (1 : Int32)) else (some (0 : Int32)))))
noncomputable def BX0_sumAcross_L17  (i4 : Int32) (f10 : Nat → Int32) (i3 : Int32) (i50 : Int32) (i69 : Int32) (i70 : Int32) (rec : Int32 → Int32 → Option (Int32)) (k1 : Int32 → Option (Int32)) : Option (Int32) :=
  if i4 ≤ i70 then (k1 i69) else ((fX6_holds i3 i50).bind (fun z71 => if z71 = (0 : Int32) then (k1 i69) else ((fX6_holds i3 i70).bind (fun z72 => jn (fun (i77 : Int32) => rec i77 (i70 + (1 : Int32))) (fun (k73 : Int32 → Option (Int32)) => if z72 = (0 : Int32) then ((fX1_at f10 i50 i70).bind (fun z75 => nm (i69 + z75) (fun (i76 : Int32) => k73 i76))) else (k73 i69))))))
noncomputable def LX0_sumAcross_L17  (i4 : Int32) (f10 : Nat → Int32) (i3 : Int32) (i50 : Int32) : Nat → Int32 → Int32 → (Int32 → Option (Int32)) → Option (Int32)
  | 0, _, _, _ => none
  | n + 1, i69, i70, k1 => BX0_sumAcross_L17  i4 f10 i3 i50 i69 i70 (fun i69 i70 => LX0_sumAcross_L17  i4 f10 i3 i50 n i69 i70 k1) k1
noncomputable def BX0_sumAcross_L5  (i4 : Int32) (f10 : Nat → Int32) (i3 : Int32) (i49 : Int32) (i50 : Int32) (rec : Int32 → Int32 → Option (Int32))  : Option (Int32) :=
  if i4 ≤ i50 then (some i49) else (LX0_sumAcross_L17  i4 f10 i3 i50 600 i49 (0 : Int32) (fun (i78 : Int32) => rec i78 (i50 + (1 : Int32))))
noncomputable def LX0_sumAcross_L5  (i4 : Int32) (f10 : Nat → Int32) (i3 : Int32) : Nat → Int32 → Int32 → Option (Int32)
  | 0, _, _ => none
  | n + 1, i49, i50 => BX0_sumAcross_L5  i4 f10 i3 i49 i50 (fun i49 i50 => LX0_sumAcross_L5  i4 f10 i3 n i49 i50 ) 
noncomputable def fX0_sumAcross  (i4 : Int32) (f10 : Nat → Int32) (i3 : Int32) : Option (Int32) :=
  LX0_sumAcross_L5  i4 f10 i3 600 (0 : Int32) (0 : Int32) 
noncomputable def BX0_leastRoom_L10  (i2 : Int32) (i3 : Int32) (i4 : Int32) (f8 : Nat → Int32) (i26 : Int32) (i27 : Int32) (i28 : Int32) (rec : Int32 → Int32 → Option (Int32))  : Option (Int32) :=
  if i26 < i28 then (some i27) else ((fX0_isCut i3 i4 i28).bind (fun z29 => jn (fun (i34 : Int32) => rec i34 (i28 + (1 : Int32))) (fun (k30 : Int32 → Option (Int32)) => if z29 = (0 : Int32) then (k30 i27) else ((fX0_sumAcross i2 f8 i28).bind (fun z32 => nm (if z32 < i27 then z32 else i27) (fun (i33 : Int32) => k30 i33))))))
noncomputable def LX0_leastRoom_L10  (i2 : Int32) (i3 : Int32) (i4 : Int32) (f8 : Nat → Int32) (i26 : Int32) : Nat → Int32 → Int32 → Option (Int32)
  | 0, _, _ => none
  | n + 1, i27, i28 => BX0_leastRoom_L10  i2 i3 i4 f8 i26 i27 i28 (fun i27 i28 => LX0_leastRoom_L10  i2 i3 i4 f8 i26 n i27 i28 ) 
noncomputable def fX0_leastRoom  (i2 : Int32) (i3 : Int32) (i4 : Int32) (f8 : Nat → Int32) : Option (Int32) :=
  (fX2_allPlaces i2).bind (fun z9 => LX0_leastRoom_L10  i2 i3 i4 f8 z9 600 (2147483647 : Int32) (0 : Int32) )
noncomputable def fX0_isLeastCut  (i4 : Int32) (i5 : Int32) (i6 : Int32) (f10 : Nat → Int32) (i2 : Int32) (i3 : Int32) : Option (Int32) :=
  (fX0_isCut i5 i6 i2).bind (fun z11 => if z11 = (0 : Int32) then (some (0 : Int32)) else ((fX0_sumAcross i4 f10 i2).bind (fun z12 => if z12 = i3 then (some (1 : Int32)) else (some (0 : Int32)))))
noncomputable def BX0_countOfLeast_L15  (i2 : Int32) (i3 : Int32) (i4 : Int32) (f8 : Nat → Int32) (i26 : Int32) (i27 : Int32) (i28 : Int32) (i29 : Int32) (rec : Int32 → Int32 → Option (Int32))  : Option (Int32) :=
  if i26 < i29 then (some i28) else ((fX0_isLeastCut i2 i3 i4 f8 i29 i27).bind (fun z30 => jn (fun (i33 : Int32) => rec i33 (i29 + (1 : Int32))) (fun (k31 : Int32 → Option (Int32)) => if z30 = (0 : Int32) then (k31 i28) else (k31 (i28 + (1 : Int32))))))
noncomputable def LX0_countOfLeast_L15  (i2 : Int32) (i3 : Int32) (i4 : Int32) (f8 : Nat → Int32) (i26 : Int32) (i27 : Int32) : Nat → Int32 → Int32 → Option (Int32)
  | 0, _, _ => none
  | n + 1, i28, i29 => BX0_countOfLeast_L15  i2 i3 i4 f8 i26 i27 i28 i29 (fun i28 i29 => LX0_countOfLeast_L15  i2 i3 i4 f8 i26 i27 n i28 i29 ) 
noncomputable def fX0_countOfLeast  (i2 : Int32) (i3 : Int32) (i4 : Int32) (f8 : Nat → Int32) : Option (Int32) :=
  (fX2_allPlaces i2).bind (fun z9 => (fX0_leastRoom i2 i3 i4 f8).bind (fun z10 => LX0_countOfLeast_L15  i2 i3 i4 f8 z9 z10 600 (0 : Int32) (0 : Int32) ))
noncomputable def BX0_leastByNumber_L16  (i3 : Int32) (i4 : Int32) (i5 : Int32) (f9 : Nat → Int32) (i2 : Int32) (i28 : Int32) (i29 : Int32) (i30 : Int32) (i31 : Int32) (rec : Int32 → Int32 → Option (Int32))  : Option (Int32) :=
  if i28 < i31 then (some (-1 : Int32)) else ((fX0_isLeastCut i3 i4 i5 f9 i31 i29).bind (fun z32 => jn (fun (i35 : Int32) => rec i35 (i31 + (1 : Int32))) (fun (k33 : Int32 → Option (Int32)) => if z32 = (0 : Int32) then (k33 i30) else (if i30 = i2 then (some i31) else (k33 (i30 + (1 : Int32)))))))
noncomputable def LX0_leastByNumber_L16  (i3 : Int32) (i4 : Int32) (i5 : Int32) (f9 : Nat → Int32) (i2 : Int32) (i28 : Int32) (i29 : Int32) : Nat → Int32 → Int32 → Option (Int32)
  | 0, _, _ => none
  | n + 1, i30, i31 => BX0_leastByNumber_L16  i3 i4 i5 f9 i2 i28 i29 i30 i31 (fun i30 i31 => LX0_leastByNumber_L16  i3 i4 i5 f9 i2 i28 i29 n i30 i31 ) 
noncomputable def fX0_leastByNumber  (i3 : Int32) (i4 : Int32) (i5 : Int32) (f9 : Nat → Int32) (i2 : Int32) : Option (Int32) :=
  (fX2_allPlaces i3).bind (fun z10 => (fX0_leastRoom i3 i4 i5 f9).bind (fun z11 => LX0_leastByNumber_L16  i3 i4 i5 f9 i2 z10 z11 600 (0 : Int32) (0 : Int32) ))
noncomputable def BX0_nearest_L15  (i2 : Int32) (i3 : Int32) (i4 : Int32) (f8 : Nat → Int32) (i27 : Int32) (i28 : Int32) (i29 : Int32) (i30 : Int32) (rec : Int32 → Int32 → Option (Int32))  : Option (Int32) :=
  if i28 < i30 then (some i29) else ((fX0_isLeastCut i2 i3 i4 f8 i30 i27).bind (fun z31 => jn (fun (i35 : Int32) => rec i35 (i30 + (1 : Int32))) (fun (k32 : Int32 → Option (Int32)) => if z31 = (0 : Int32) then (k32 i29) else (nm (i29 &&& i30) (fun (i34 : Int32) => k32 i34)))))
noncomputable def LX0_nearest_L15  (i2 : Int32) (i3 : Int32) (i4 : Int32) (f8 : Nat → Int32) (i27 : Int32) (i28 : Int32) : Nat → Int32 → Int32 → Option (Int32)
  | 0, _, _ => none
  | n + 1, i29, i30 => BX0_nearest_L15  i2 i3 i4 f8 i27 i28 i29 i30 (fun i29 i30 => LX0_nearest_L15  i2 i3 i4 f8 i27 i28 n i29 i30 ) 
noncomputable def fX0_nearest  (i2 : Int32) (i3 : Int32) (i4 : Int32) (f8 : Nat → Int32) : Option (Int32) :=
  (fX0_leastRoom i2 i3 i4 f8).bind (fun z9 => (fX2_allPlaces i2).bind (fun z10 => LX0_nearest_L15  i2 i3 i4 f8 z9 z10 600 z10 (0 : Int32) ))
noncomputable def BX0_farthest_L15  (i2 : Int32) (i3 : Int32) (i4 : Int32) (f8 : Nat → Int32) (i27 : Int32) (i28 : Int32) (i29 : Int32) (i30 : Int32) (rec : Int32 → Int32 → Option (Int32))  : Option (Int32) :=
  if i27 < i30 then (some i29) else ((fX0_isLeastCut i2 i3 i4 f8 i30 i28).bind (fun z31 => jn (fun (i35 : Int32) => rec i35 (i30 + (1 : Int32))) (fun (k32 : Int32 → Option (Int32)) => if z31 = (0 : Int32) then (k32 i29) else (nm (i29 ||| i30) (fun (i34 : Int32) => k32 i34)))))
noncomputable def LX0_farthest_L15  (i2 : Int32) (i3 : Int32) (i4 : Int32) (f8 : Nat → Int32) (i27 : Int32) (i28 : Int32) : Nat → Int32 → Int32 → Option (Int32)
  | 0, _, _ => none
  | n + 1, i29, i30 => BX0_farthest_L15  i2 i3 i4 f8 i27 i28 i29 i30 (fun i29 i30 => LX0_farthest_L15  i2 i3 i4 f8 i27 i28 n i29 i30 ) 
noncomputable def fX0_farthest  (i2 : Int32) (i3 : Int32) (i4 : Int32) (f8 : Nat → Int32) : Option (Int32) :=
  (fX2_allPlaces i2).bind (fun z9 => (fX0_leastRoom i2 i3 i4 f8).bind (fun z10 => LX0_farthest_L15  i2 i3 i4 f8 z9 z10 600 (0 : Int32) (0 : Int32) ))
noncomputable def BX0_letEachThrough_L7  (i3 : Int32) (i4 : Int32) (i5 : Int32) (f9 : Nat → Int32) (i2 : Int32) (i25 : Int32) (i26 : Int32) (rec : Int32 → Option (Int32))  : Option (Int32) :=
  if i25 < i26 then (some (1 : Int32)) else ((fX0_isCut i4 i5 i26).bind (fun z27 => jn (fun (_ : Unit) => rec (i26 + (1 : Int32))) (fun (k28 : Unit → Option (Int32)) => if z27 = (0 : Int32) then (k28 ()) else ((fX0_sumAcross i3 f9 i26).bind (fun z30 => if z30 = i2 then (k28 ()) else (some (0 : Int32)))))))
noncomputable def LX0_letEachThrough_L7  (i3 : Int32) (i4 : Int32) (i5 : Int32) (f9 : Nat → Int32) (i2 : Int32) (i25 : Int32) : Nat → Int32 → Option (Int32)
  | 0, _ => none
  | n + 1, i26 => BX0_letEachThrough_L7  i3 i4 i5 f9 i2 i25 i26 (fun i26 => LX0_letEachThrough_L7  i3 i4 i5 f9 i2 i25 n i26 ) 
noncomputable def fX0_letEachThrough  (i3 : Int32) (i4 : Int32) (i5 : Int32) (f9 : Nat → Int32) (i2 : Int32) : Option (Int32) :=
  (fX2_allPlaces i3).bind (fun z10 => LX0_letEachThrough_L7  i3 i4 i5 f9 i2 z10 600 (0 : Int32) )
noncomputable def fX3_init   : Option (Unit) :=
  (fX4_init ).bind (fun z6 => some ())
noncomputable def BX3_leastFlow_L5  (i7 : Int32) (f8 : Nat → Int32) (f15 : Nat → Int32) (i35 : Int32) (i36 : Int32) (rec : Int32 → Int32 → Option (Int32))  : Option (Int32) :=
  if i7 ≤ i36 then (some i35) else ((fX4_at f8 (i36 - (1 : Int32))).bind (fun z37 => (fX4_at f8 i36).bind (fun z38 => (fX1_at f15 z37 z38).bind (fun z39 => nm (if z39 < i35 then z39 else i35) (fun (i40 : Int32) => rec i40 (i36 + (1 : Int32)))))))
noncomputable def LX3_leastFlow_L5  (i7 : Int32) (f8 : Nat → Int32) (f15 : Nat → Int32) : Nat → Int32 → Int32 → Option (Int32)
  | 0, _, _ => none
  | n + 1, i35, i36 => BX3_leastFlow_L5  i7 f8 f15 i35 i36 (fun i35 i36 => LX3_leastFlow_L5  i7 f8 f15 n i35 i36 ) 
noncomputable def fX3_leastFlow  (i7 : Int32) (f8 : Nat → Int32) (f15 : Nat → Int32) : Option (Int32) :=
  LX3_leastFlow_L5  i7 f8 f15 12 (2147483647 : Int32) (1 : Int32) 
noncomputable def BX3_next_L2  (i3 : Int32) (f9 : Nat → Int32) (i2 : Int32) (i20 : Int32) (rec : Int32 → Option (Int32))  : Option (Int32) :=
  if i3 ≤ i20 then (some (-1 : Int32)) else ((fX1_at f9 i2 i20).bind (fun z21 => if z21 ≤ (0 : Int32) then (rec (i20 + (1 : Int32))) else (some i20)))
noncomputable def LX3_next_L2  (i3 : Int32) (f9 : Nat → Int32) (i2 : Int32) : Nat → Int32 → Option (Int32)
  | 0, _ => none
  | n + 1, i20 => BX3_next_L2  i3 f9 i2 i20 (fun i20 => LX3_next_L2  i3 f9 i2 n i20 ) 
noncomputable def fX3_next  (i3 : Int32) (f9 : Nat → Int32) (i2 : Int32) : Option (Int32) :=
  LX3_next_L2  i3 f9 i2 12 (0 : Int32) 
noncomputable def BX3_walk_L16  (i12 : Int32) (f18 : Nat → Int32) (i4 : Int32) (i7 : Int32) (i8 : Int32) (i42 : Int32) (i43 : Int32) (i44 : Int32) (i45 : Int32) (f46 : Nat → Int32) (rec : Int32 → Int32 → Int32 → Int32 → (Nat → Int32) → Option (Int32 × Int32 × Int32 × Int32 × (Nat → Int32))) (k1 : Int32 → (Nat → Int32) → Option (Int32 × Int32 × Int32 × Int32 × (Nat → Int32))) (k2 : Int32 → Int32 → (Nat → Int32) → Option (Int32 × Int32 × Int32 × Int32 × (Nat → Int32))) : Option (Int32 × Int32 × Int32 × Int32 × (Nat → Int32)) :=
  if i12 < i44 then (some ((0 : Int32), i7, i8, i45, f46)) else (if i43 = (-1 : Int32) then (some ((0 : Int32), i7, i8, i45, f46)) else ((fX4_add i45 f46 i43).bind (fun z47 => if i43 = i4 then (k1 z47.1 z47.2) else ((fX6_holds i42 i43).bind (fun z48 => if z48 = (0 : Int32) then (nm (i42 ||| ((1 : Int32) <<< (i43 &&& 31))) (fun (i49 : Int32) => (fX3_next i12 f18 i43).bind (fun z50 => rec i49 z50 (i44 + (1 : Int32)) z47.1 z47.2))) else (k2 i43 z47.1 z47.2))))))
noncomputable def LX3_walk_L16  (i12 : Int32) (f18 : Nat → Int32) (i4 : Int32) (i7 : Int32) (i8 : Int32) : Nat → Int32 → Int32 → Int32 → Int32 → (Nat → Int32) → (Int32 → (Nat → Int32) → Option (Int32 × Int32 × Int32 × Int32 × (Nat → Int32))) → (Int32 → Int32 → (Nat → Int32) → Option (Int32 × Int32 × Int32 × Int32 × (Nat → Int32))) → Option (Int32 × Int32 × Int32 × Int32 × (Nat → Int32))
  | 0, _, _, _, _, _, _, _ => none
  | n + 1, i42, i43, i44, i45, f46, k1, k2 => BX3_walk_L16  i12 f18 i4 i7 i8 i42 i43 i44 i45 f46 (fun i42 i43 i44 i45 f46 => LX3_walk_L16  i12 f18 i4 i7 i8 n i42 i43 i44 i45 f46 k1 k2) k1 k2
noncomputable def fX3_walk  (i7 : Int32) (i8 : Int32) (f11 : Nat → Int32) (i12 : Int32) (f18 : Nat → Int32) (i3 : Int32) (i4 : Int32) (i5 : Int32) : Option (Int32 × Int32 × Int32 × Int32 × (Nat → Int32)) :=
  (fX4_clear ).bind (fun z19 => LX3_walk_L16  i12 f18 i4 i7 i8 12 (0 : Int32) i3 (0 : Int32) (0 : Int32) f11 (fun (i51 : Int32) (f52 : Nat → Int32) => (fX3_leastFlow i51 f52 f18).bind (fun z56 => some ((1 : Int32), if i5 < z56 then i5 else z56, (0 : Int32), i51, f52))) (fun (i53 : Int32) (i54 : Int32) (f55 : Nat → Int32) => (fX4_startAt i54 f55 i53).bind (fun z57 => (fX3_leastFlow z57.1 z57.2 f18).bind (fun z58 => some ((1 : Int32), z58, (1 : Int32), z57.1, z57.2)))))
noncomputable def BX3_find_L26  (i9 : Int32) (f15 : Nat → Int32) (i4 : Int32) (i5 : Int32) (i7 : Int32) (f8 : Nat → Int32) (i34 : Int32) (rec : Int32 → Option (Int32 × Int32 × Int32 × Int32 × (Nat → Int32))) (k1 : Int32 → Option (Int32 × Int32 × Int32 × Int32 × (Nat → Int32))) : Option (Int32 × Int32 × Int32 × Int32 × (Nat → Int32)) :=
  if i9 ≤ i34 then (some ((0 : Int32), i4, i5, i7, f8)) else ((fX3_next i9 f15 i34).bind (fun z35 => if z35 = (-1 : Int32) then (rec (i34 + (1 : Int32))) else (k1 i34)))
noncomputable def LX3_find_L26  (i9 : Int32) (f15 : Nat → Int32) (i4 : Int32) (i5 : Int32) (i7 : Int32) (f8 : Nat → Int32) : Nat → Int32 → (Int32 → Option (Int32 × Int32 × Int32 × Int32 × (Nat → Int32))) → Option (Int32 × Int32 × Int32 × Int32 × (Nat → Int32))
  | 0, _, _ => none
  | n + 1, i34, k1 => BX3_find_L26  i9 f15 i4 i5 i7 f8 i34 (fun i34 => LX3_find_L26  i9 f15 i4 i5 i7 f8 n i34 k1) k1
noncomputable def fX3_find  (i4 : Int32) (i5 : Int32) (i7 : Int32) (f8 : Nat → Int32) (i9 : Int32) (i10 : Int32) (i11 : Int32) (f15 : Nat → Int32) : Option (Int32 × Int32 × Int32 × Int32 × (Nat → Int32)) :=
  (fX2_valueNow i9 i10 f15).bind (fun z16 => if z16 ≤ (0 : Int32) then (LX3_find_L26  i9 f15 i4 i5 i7 f8 12 (0 : Int32) (fun (i36 : Int32) => (fX3_walk i4 i5 f8 i9 f15 i36 (-1 : Int32) z16).bind (fun z37 => bz z37.1 (some (z37.1, z37.2.1, z37.2.2.1, z37.2.2.2.1, z37.2.2.2.2))))) else ((fX3_walk i4 i5 f8 i9 f15 i10 i11 z16).bind (fun z38 => bz z38.1 (some (z38.1, z38.2.1, z38.2.2.1, z38.2.2.2.1, z38.2.2.2.2)))))
noncomputable def fX3_takeFrom  (i4 : Int32) (i7 : Int32) (f8 : Nat → Int32) (f15 : Nat → Int32) : Option ((Nat → Int32)) :=
  (fX2_carryAlong f15 i7 f8 (-i4)).bind (fun z16 => some z16)
noncomputable def fX5_init   : Option (Unit) :=
  (fX4_init ).bind (fun z6 => some ())
noncomputable def BX5_look_L32  (i7 : Int32) (f13 : Nat → Int32) (f15 : Nat → Int32) (i61 : Int32) (i85 : Int32) (i86 : Int32) (rec : Int32 → Int32 → Option ((Nat → Int32))) (k1 : Int32 → Option ((Nat → Int32))) : Option ((Nat → Int32)) :=
  if i7 ≤ i86 then (k1 i85) else ((fX1_at f13 i61 i86).bind (fun z87 => (fX1_at f15 i61 i86).bind (fun z88 => jn (fun (i92 : Int32) => rec i92 (i86 + (1 : Int32))) (fun (k89 : Int32 → Option ((Nat → Int32))) => if z87 ≤ z88 then (k89 i85) else (nm (i85 ||| ((1 : Int32) <<< (i86 &&& 31))) (fun (i91 : Int32) => k89 i91))))))
noncomputable def LX5_look_L32  (i7 : Int32) (f13 : Nat → Int32) (f15 : Nat → Int32) (i61 : Int32) : Nat → Int32 → Int32 → (Int32 → Option ((Nat → Int32))) → Option ((Nat → Int32))
  | 0, _, _, _ => none
  | n + 1, i85, i86, k1 => BX5_look_L32  i7 f13 f15 i61 i85 i86 (fun i85 i86 => LX5_look_L32  i7 f13 f15 i61 n i85 i86 k1) k1
noncomputable def BX5_look_L10  (i7 : Int32) (f13 : Nat → Int32) (f15 : Nat → Int32) (i61 : Int32) (f62 : Nat → Int32) (rec : Int32 → (Nat → Int32) → Option ((Nat → Int32)))  : Option ((Nat → Int32)) :=
  if i7 ≤ i61 then (some f62) else (if (9 : Int32) ≤ i61 then (some f62) else (LX5_look_L32  i7 f13 f15 i61 12 (0 : Int32) (0 : Int32) (fun (i93 : Int32) => inB i61 9 (rec (i61 + (1 : Int32)) (upd f62 i61.toNatClampNeg i93)))))
noncomputable def LX5_look_L10  (i7 : Int32) (f13 : Nat → Int32) (f15 : Nat → Int32) : Nat → Int32 → (Nat → Int32) → Option ((Nat → Int32))
  | 0, _, _ => none
  | n + 1, i61, f62 => BX5_look_L10  i7 f13 f15 i61 f62 (fun i61 f62 => LX5_look_L10  i7 f13 f15 n i61 f62 ) 
noncomputable def fX5_look  (f6 : Nat → Int32) (i7 : Int32) (f13 : Nat → Int32) (f15 : Nat → Int32) : Option ((Nat → Int32)) :=
  LX5_look_L10  i7 f13 f15 12 (0 : Int32) f6 
noncomputable def BX5_comingTo_L21  (i7 : Int32) (f8 : Nat → Int32) (i4 : Int32) (i39 : Int32) (i55 : Int32) (i56 : Int32) (rec : Int32 → Int32 → Option (Int32)) (k1 : Int32 → Option (Int32)) : Option (Int32) :=
  if i7 ≤ i56 then (k1 i55) else (if (9 : Int32) ≤ i56 then (k1 i55) else (jn (fun (i60 : Int32) => rec i60 (i56 + (1 : Int32))) (fun (k57 : Int32 → Option (Int32)) => if ((i4 >>> (i56 &&& 31)) &&& (1 : Int32)) = (0 : Int32) then (inB i56 9 (if ((f8 i56.toNatClampNeg) &&& i39) = (0 : Int32) then (k57 i55) else (nm (i55 ||| ((1 : Int32) <<< (i56 &&& 31))) (fun (i59 : Int32) => k57 i59)))) else (k57 i55))))
noncomputable def LX5_comingTo_L21  (i7 : Int32) (f8 : Nat → Int32) (i4 : Int32) (i39 : Int32) : Nat → Int32 → Int32 → (Int32 → Option (Int32)) → Option (Int32)
  | 0, _, _, _ => none
  | n + 1, i55, i56, k1 => BX5_comingTo_L21  i7 f8 i4 i39 i55 i56 (fun i55 i56 => LX5_comingTo_L21  i7 f8 i4 i39 n i55 i56 k1) k1
noncomputable def BX5_comingTo_L8  (i7 : Int32) (f8 : Nat → Int32) (i3 : Int32) (i4 : Int32) (i39 : Int32) (i40 : Int32) (rec : Int32 → Int32 → Option (Int32))  : Option (Int32) :=
  if i3 ≤ i40 then (some i39) else (LX5_comingTo_L21  i7 f8 i4 i39 12 i39 (0 : Int32) (fun (i61 : Int32) => rec i61 (i40 + (1 : Int32))))
noncomputable def LX5_comingTo_L8  (i7 : Int32) (f8 : Nat → Int32) (i3 : Int32) (i4 : Int32) : Nat → Int32 → Int32 → Option (Int32)
  | 0, _, _ => none
  | n + 1, i39, i40 => BX5_comingTo_L8  i7 f8 i3 i4 i39 i40 (fun i39 i40 => LX5_comingTo_L8  i7 f8 i3 i4 n i39 i40 ) 
noncomputable def fX5_comingTo  (i7 : Int32) (f8 : Nat → Int32) (i2 : Int32) (i3 : Int32) (i4 : Int32) : Option (Int32) :=
  nm ((1 : Int32) <<< (i2 &&& 31)) (fun (i9 : Int32) => LX5_comingTo_L8  i7 f8 i3 i4 12 i9 (0 : Int32) )
noncomputable def BX5_stepsBetween_L2  (i6 : Int32) (f7 : Nat → Int32) (i2 : Int32) (i3 : Int32) (i17 : Int32) (rec : Int32 → Option (Int32))  : Option (Int32) :=
  if i6 ≤ i17 then (some (-1 : Int32)) else ((fX5_comingTo i6 f7 i3 i17 (0 : Int32)).bind (fun z18 => (fX6_holds z18 i2).bind (fun z19 => if z19 = (0 : Int32) then (rec (i17 + (1 : Int32))) else (some i17))))
noncomputable def LX5_stepsBetween_L2  (i6 : Int32) (f7 : Nat → Int32) (i2 : Int32) (i3 : Int32) : Nat → Int32 → Option (Int32)
  | 0, _ => none
  | n + 1, i17 => BX5_stepsBetween_L2  i6 f7 i2 i3 i17 (fun i17 => LX5_stepsBetween_L2  i6 f7 i2 i3 n i17 ) 
noncomputable def fX5_stepsBetween  (i6 : Int32) (f7 : Nat → Int32) (i2 : Int32) (i3 : Int32) : Option (Int32) :=
  LX5_stepsBetween_L2  i6 f7 i2 i3 12 (0 : Int32) 
noncomputable def fX5_onwardFrom  (f6 : Nat → Int32) (i2 : Int32) : Option (Int32) :=
  if i2 < (0 : Int32) then (some (0 : Int32)) else (if (9 : Int32) ≤ i2 then (some (0 : Int32)) else (inB i2 9 (some (f6 i2.toNatClampNeg))))
noncomputable def BX5_highest_L7  (i2 : Int32) (i13 : Int32) (rec : Int32 → Option (Int32))  : Option (Int32) :=
  if i13 < (0 : Int32) then (some (-1 : Int32)) else ((fX6_holds i2 i13).bind (fun z14 => if z14 = (0 : Int32) then (rec (i13 + (-1 : Int32))) else (some i13)))
noncomputable def LX5_highest_L7  (i2 : Int32) : Nat → Int32 → Option (Int32)
  | 0, _ => none
  | n + 1, i13 => BX5_highest_L7  i2 i13 (fun i13 => LX5_highest_L7  i2 n i13 ) 
noncomputable def fX5_highest  (i5 : Int32) (i2 : Int32) : Option (Int32) :=
  nm (i5 - (1 : Int32)) (fun (i6 : Int32) => LX5_highest_L7  i2 12 i6 )
noncomputable def BX5_lowest_L2  (i5 : Int32) (i2 : Int32) (i12 : Int32) (rec : Int32 → Option (Int32))  : Option (Int32) :=
  if i5 ≤ i12 then (some (-1 : Int32)) else ((fX6_holds i2 i12).bind (fun z13 => if z13 = (0 : Int32) then (rec (i12 + (1 : Int32))) else (some i12)))
noncomputable def LX5_lowest_L2  (i5 : Int32) (i2 : Int32) : Nat → Int32 → Option (Int32)
  | 0, _ => none
  | n + 1, i12 => BX5_lowest_L2  i5 i2 i12 (fun i12 => LX5_lowest_L2  i5 i2 n i12 ) 
noncomputable def fX5_lowest  (i5 : Int32) (i2 : Int32) : Option (Int32) :=
  LX5_lowest_L2  i5 i2 12 (0 : Int32) 
noncomputable def BX5_find_L55  (i11 : Int32) (i13 : Int32) (i3 : Int32) (i59 : Int32) (f65 : Nat → Int32) (i60 : Int32) (i61 : Int32) (i62 : Int32) (i63 : Int32) (f64 : Nat → Int32) (rec : Int32 → Int32 → Int32 → Int32 → (Nat → Int32) → Option (Int32 × (Nat → Int32) × (Nat → Int32)))  : Option (Int32 × (Nat → Int32) × (Nat → Int32)) :=
  if i11 ≤ i62 then (some (i63, f64, f65)) else (if i60 = i13 then (some (i63, f64, f65)) else (jn (fun (i68 : Int32) => (fX5_onwardFrom f65 i60).bind (fun z69 => (fX5_comingTo i11 f65 i13 i68 i61).bind (fun z70 => nm (z69 &&& z70) (fun (i71 : Int32) => jn (fun (i76 : Int32) => nm (i61 ||| ((1 : Int32) <<< (i76 &&& 31))) (fun (i77 : Int32) => (fX4_add i63 f64 i76).bind (fun z78 => rec i76 i77 (i62 + (1 : Int32)) z78.1 z78.2))) (fun (k72 : Int32 → Option (Int32 × (Nat → Int32) × (Nat → Int32))) => if i3 = (2 : Int32) then ((fX5_highest i11 i71).bind (fun z75 => k72 z75)) else ((fX5_lowest i11 i71).bind (fun z74 => k72 z74))))))) (fun (k66 : Int32 → Option (Int32 × (Nat → Int32) × (Nat → Int32))) => if i3 = (0 : Int32) then (k66 (i59 - i62)) else (k66 i11))))
noncomputable def LX5_find_L55  (i11 : Int32) (i13 : Int32) (i3 : Int32) (i59 : Int32) (f65 : Nat → Int32) : Nat → Int32 → Int32 → Int32 → Int32 → (Nat → Int32) → Option (Int32 × (Nat → Int32) × (Nat → Int32))
  | 0, _, _, _, _, _ => none
  | n + 1, i60, i61, i62, i63, f64 => BX5_find_L55  i11 i13 i3 i59 f65 i60 i61 i62 i63 f64 (fun i60 i61 i62 i63 f64 => LX5_find_L55  i11 i13 i3 i59 f65 n i60 i61 i62 i63 f64 ) 
noncomputable def fX5_find  (f9 : Nat → Int32) (f10 : Nat → Int32) (i11 : Int32) (i12 : Int32) (i13 : Int32) (f17 : Nat → Int32) (f19 : Nat → Int32) (i3 : Int32) : Option (Int32 × (Nat → Int32) × (Nat → Int32)) :=
  (fX4_clear ).bind (fun z20 => (fX5_look f10 i11 f17 f19).bind (fun z21 => (fX5_stepsBetween i11 z21 i12 i13).bind (fun z22 => if z22 = (-1 : Int32) then (some ((0 : Int32), f9, z21)) else (nm ((1 : Int32) <<< (i12 &&& 31)) (fun (i23 : Int32) => (fX4_add (0 : Int32) f9 i12).bind (fun z24 => LX5_find_L55  i11 i13 i3 z22 z21 12 i12 i23 (1 : Int32) z24.1 z24.2 ))))))
noncomputable def BX5_leastLeft_L5  (i7 : Int32) (f8 : Nat → Int32) (f15 : Nat → Int32) (f17 : Nat → Int32) (i39 : Int32) (i40 : Int32) (rec : Int32 → Int32 → Option (Int32))  : Option (Int32) :=
  if i7 ≤ i40 then (some i39) else ((fX4_at f8 (i40 - (1 : Int32))).bind (fun z41 => (fX4_at f8 i40).bind (fun z42 => (fX2_leftOf f15 f17 z41 z42).bind (fun z43 => nm (if z43 < i39 then z43 else i39) (fun (i44 : Int32) => rec i44 (i40 + (1 : Int32)))))))
noncomputable def LX5_leastLeft_L5  (i7 : Int32) (f8 : Nat → Int32) (f15 : Nat → Int32) (f17 : Nat → Int32) : Nat → Int32 → Int32 → Option (Int32)
  | 0, _, _ => none
  | n + 1, i39, i40 => BX5_leastLeft_L5  i7 f8 f15 f17 i39 i40 (fun i39 i40 => LX5_leastLeft_L5  i7 f8 f15 f17 n i39 i40 ) 
noncomputable def fX5_leastLeft  (i7 : Int32) (f8 : Nat → Int32) (f15 : Nat → Int32) (f17 : Nat → Int32) : Option (Int32) :=
  LX5_leastLeft_L5  i7 f8 f15 f17 12 (2147483647 : Int32) (1 : Int32) 
noncomputable def BX5_fillTimes_L3  (i12 : Int32) (i13 : Int32) (i14 : Int32) (f18 : Nat → Int32) (i3 : Int32) (i4 : Int32) (i43 : Int32) (i44 : Int32) (i45 : Int32) (f46 : Nat → Int32) (f47 : Nat → Int32) (f48 : Nat → Int32) (rec : Int32 → Int32 → Int32 → (Nat → Int32) → (Nat → Int32) → (Nat → Int32) → Option (Int32 × Int32 × Int32 × (Nat → Int32) × (Nat → Int32) × (Nat → Int32)))  : Option (Int32 × Int32 × Int32 × (Nat → Int32) × (Nat → Int32) × (Nat → Int32)) :=
  if i4 ≤ i43 then (some (i4, i44, i45, f46, f47, f48)) else ((fX5_find f46 f47 i12 i13 i14 f18 f48 i3).bind (fun z49 => if z49.1 = (0 : Int32) then (some (i43, i12, z49.1, z49.2.1, z49.2.2, f48)) else ((fX5_leastLeft z49.1 z49.2.1 f18 f48).bind (fun z50 => (fX2_carryAlong f48 z49.1 z49.2.1 z50).bind (fun z51 => rec (i43 + (1 : Int32)) i12 z49.1 z49.2.1 z49.2.2 z51)))))
noncomputable def LX5_fillTimes_L3  (i12 : Int32) (i13 : Int32) (i14 : Int32) (f18 : Nat → Int32) (i3 : Int32) (i4 : Int32) : Nat → Int32 → Int32 → Int32 → (Nat → Int32) → (Nat → Int32) → (Nat → Int32) → Option (Int32 × Int32 × Int32 × (Nat → Int32) × (Nat → Int32) × (Nat → Int32))
  | 0, _, _, _, _, _, _ => none
  | n + 1, i43, i44, i45, f46, f47, f48 => BX5_fillTimes_L3  i12 i13 i14 f18 i3 i4 i43 i44 i45 f46 f47 f48 (fun i43 i44 i45 f46 f47 f48 => LX5_fillTimes_L3  i12 i13 i14 f18 i3 i4 n i43 i44 i45 f46 f47 f48 ) 
noncomputable def fX5_fillTimes  (i7 : Int32) (i9 : Int32) (f10 : Nat → Int32) (f11 : Nat → Int32) (i12 : Int32) (i13 : Int32) (i14 : Int32) (f18 : Nat → Int32) (f20 : Nat → Int32) (i3 : Int32) (i4 : Int32) : Option (Int32 × Int32 × Int32 × (Nat → Int32) × (Nat → Int32) × (Nat → Int32)) :=
  LX5_fillTimes_L3  i12 i13 i14 f18 i3 i4 1002 (0 : Int32) i7 i9 f10 f11 f20 
noncomputable def fX5_layerOf  (f7 : Nat → Int32) (i8 : Int32) (i9 : Int32) (f14 : Nat → Int32) (f16 : Nat → Int32) (i3 : Int32) : Option (Int32 × (Nat → Int32)) :=
  (fX5_look f7 i8 f14 f16).bind (fun z17 => (fX5_stepsBetween i8 z17 i9 i3).bind (fun z18 => some (z18, z17)))
theorem gf_C_9 : gfactN "Brookmill$Cuts" 9 1 1 := ⟨RX2, TX2, 5, tyX2, "Brookmill", cf_1, by decide, by decide +kernel⟩
theorem gf_C_19 : gfactN "Brookmill$Cuts" 19 1 2 := ⟨RX2, TX2, 5, tyX2, "Brookmill", cf_1, by decide, by decide +kernel⟩
theorem gf_C_22 : gfactN "Brookmill$Cuts" 22 1 0 := ⟨RX2, TX2, 5, tyX2, "Brookmill", cf_1, by decide, by decide +kernel⟩
theorem gf_C_42 : gfactN "Brookmill$Cuts" 42 1 3 := ⟨RX2, TX2, 5, tyX2, "Brookmill", cf_1, by decide, by decide +kernel⟩
theorem gf_C_63 : gfactN "Brookmill$Cuts" 63 1 4 := ⟨RX2, TX2, 5, tyX2, "Brookmill", cf_1, by decide, by decide +kernel⟩
theorem nf_P_9 : nfact "Brookmill$PartFinder" 9 4 2 [.null, .int (0 : Int32)] := ⟨RX4, TX4, tyX4, cf_4, tw_192, tw_159, tw_69, by decide +kernel⟩
theorem pf_P_12 : pfact "Brookmill$PartFinder" 12 5 0 (.object "Brookmill$Row") true := ⟨RX3, TX3, 3, tyX3, cf_5, by decide, tw_194, rfl, rfl, by decide⟩
theorem gf_P_12 : gfact "Brookmill$PartFinder" 12 5 0 := ⟨RX3, TX3, 3, tyX3, cf_5, by decide, tw_194⟩
theorem gf_P_87 : gfactN "Brookmill$PartFinder" 87 4 1 := ⟨RX4, TX4, 2, tyX4, "Brookmill", cf_4, by decide, by decide +kernel⟩
theorem gf_P_77 : gfactN "Brookmill$PartFinder" 77 1 4 := ⟨RX2, TX2, 5, tyX2, "Brookmill", cf_1, by decide, by decide +kernel⟩
theorem gf_P_35 : gfactN "Brookmill$PartFinder" 35 1 0 := ⟨RX2, TX2, 5, tyX2, "Brookmill", cf_1, by decide, by decide +kernel⟩
theorem pf_P_56 : pfact "Brookmill$PartFinder" 56 5 2 .boolean false := ⟨RX3, TX3, 3, tyX3, cf_5, by decide, tw_198, rfl, rfl, by decide⟩
theorem pf_P_42 : pfact "Brookmill$PartFinder" 42 5 1 .int false := ⟨RX3, TX3, 3, tyX3, cf_5, by decide, tw_196, rfl, rfl, by decide⟩
theorem gf_P_24 : gfactN "Brookmill$PartFinder" 24 1 1 := ⟨RX2, TX2, 5, tyX2, "Brookmill", cf_1, by decide, by decide +kernel⟩
theorem gf_P_28 : gfactN "Brookmill$PartFinder" 28 1 2 := ⟨RX2, TX2, 5, tyX2, "Brookmill", cf_1, by decide, by decide +kernel⟩
theorem gf_P_42 : gfact "Brookmill$PartFinder" 42 5 1 := ⟨RX3, TX3, 3, tyX3, cf_5, by decide, tw_196⟩
theorem nf_T_9 : nfact "Brookmill$TrackFinder" 9 4 2 [.null, .int (0 : Int32)] := ⟨RX4, TX4, tyX4, cf_4, tw_158, tw_159, tw_69, by decide +kernel⟩
theorem pf_T_12 : pfact "Brookmill$TrackFinder" 12 3 0 (.object "Brookmill$Row") true := ⟨RX5, TX5, 3, tyX5, cf_3, by decide, tw_175, rfl, rfl, by decide⟩
theorem pf_T_18 : pfact "Brookmill$TrackFinder" 18 3 1 (.array .int) true := ⟨RX5, TX5, 3, tyX5, cf_3, by decide, tw_177, rfl, rfl, by decide⟩
theorem gf_T_90 : gfactN "Brookmill$TrackFinder" 90 1 0 := ⟨RX2, TX2, 5, tyX2, "Brookmill", cf_1, by decide, by decide +kernel⟩
theorem pf_T_74 : pfact "Brookmill$TrackFinder" 74 3 2 .int false := ⟨RX5, TX5, 3, tyX5, cf_3, by decide, tw_178, rfl, rfl, by decide⟩
theorem gf_T_74 : gfact "Brookmill$TrackFinder" 74 3 2 := ⟨RX5, TX5, 3, tyX5, cf_3, by decide, tw_178⟩
theorem gf_T_18 : gfact "Brookmill$TrackFinder" 18 3 1 := ⟨RX5, TX5, 3, tyX5, cf_3, by decide, tw_177⟩
theorem gf_T_91 : gfactN "Brookmill$TrackFinder" 91 1 3 := ⟨RX2, TX2, 5, tyX2, "Brookmill", cf_1, by decide, by decide +kernel⟩
theorem gf_T_99 : gfactN "Brookmill$TrackFinder" 99 1 4 := ⟨RX2, TX2, 5, tyX2, "Brookmill", cf_1, by decide, by decide +kernel⟩
theorem gf_T_12 : gfact "Brookmill$TrackFinder" 12 3 0 := ⟨RX5, TX5, 3, tyX5, cf_3, by decide, tw_175⟩
theorem gf_T_61 : gfactN "Brookmill$TrackFinder" 61 1 1 := ⟨RX2, TX2, 5, tyX2, "Brookmill", cf_1, by decide, by decide +kernel⟩
theorem gf_T_64 : gfactN "Brookmill$TrackFinder" 64 1 2 := ⟨RX2, TX2, 5, tyX2, "Brookmill", cf_1, by decide, by decide +kernel⟩
theorem gf_T_26 : gfactN "Brookmill$TrackFinder" 26 4 1 := ⟨RX4, TX4, 2, tyX4, "Brookmill", cf_4, by decide, by decide +kernel⟩
theorem mf_X6_holds : mfact mX6_holds 2 := ⟨by decide +kernel, ⟨by decide +kernel, by decide +kernel⟩, by decide +kernel, tw_345, tw_65⟩
theorem mf_X0_isCut : mfact mX0_isCut 2 := ⟨by decide +kernel, ⟨by decide +kernel, by decide +kernel⟩, by decide +kernel, tw_390, tw_91⟩
theorem mf_X0_sumAcross : mfact mX0_sumAcross 3 := ⟨by decide +kernel, ⟨by decide +kernel, by decide +kernel⟩, by decide +kernel, tw_394, tw_91⟩
theorem mf_X0_leastRoom : mfact mX0_leastRoom 1 := ⟨by decide +kernel, ⟨by decide +kernel, by decide +kernel⟩, by decide +kernel, tw_382, tw_91⟩
theorem mf_X0_isLeastCut : mfact mX0_isLeastCut 3 := ⟨by decide +kernel, ⟨by decide +kernel, by decide +kernel⟩, by decide +kernel, tw_407, tw_91⟩
theorem mf_X0_countOfLeast : mfact mX0_countOfLeast 1 := ⟨by decide +kernel, ⟨by decide +kernel, by decide +kernel⟩, by decide +kernel, tw_403, tw_91⟩
theorem mf_X0_leastByNumber : mfact mX0_leastByNumber 2 := ⟨by decide +kernel, ⟨by decide +kernel, by decide +kernel⟩, by decide +kernel, tw_1185, tw_91⟩
theorem mf_X0_nearest : mfact mX0_nearest 1 := ⟨by decide +kernel, ⟨by decide +kernel, by decide +kernel⟩, by decide +kernel, tw_417, tw_91⟩
theorem mf_X0_farthest : mfact mX0_farthest 1 := ⟨by decide +kernel, ⟨by decide +kernel, by decide +kernel⟩, by decide +kernel, tw_414, tw_91⟩
theorem mf_X0_letEachThrough : mfact mX0_letEachThrough 2 := ⟨by decide +kernel, ⟨by decide +kernel, by decide +kernel⟩, by decide +kernel, tw_912, tw_91⟩
theorem mf_X3_init : mfact mX3_init 0 := ⟨by decide +kernel, ⟨by decide +kernel, by decide +kernel⟩, by decide +kernel, tw_190, tw_70⟩
theorem mf_X3_leastFlow : mfact mX3_leastFlow 1 := ⟨by decide +kernel, ⟨by decide +kernel, by decide +kernel⟩, by decide +kernel, tw_333, tw_70⟩
theorem mf_X3_next : mfact mX3_next 2 := ⟨by decide +kernel, ⟨by decide +kernel, by decide +kernel⟩, by decide +kernel, tw_355, tw_70⟩
theorem mf_X3_walk : mfact mX3_walk 4 := ⟨by decide +kernel, ⟨by decide +kernel, by decide +kernel⟩, by decide +kernel, tw_321, tw_70⟩
theorem mf_X3_find : mfact mX3_find 1 := ⟨by decide +kernel, ⟨by decide +kernel, by decide +kernel⟩, by decide +kernel, tw_316, tw_70⟩
theorem mf_X3_takeFrom : mfact mX3_takeFrom 1 := ⟨by decide +kernel, ⟨by decide +kernel, by decide +kernel⟩, by decide +kernel, tw_359, tw_70⟩
theorem mf_X5_init : mfact mX5_init 0 := ⟨by decide +kernel, ⟨by decide +kernel, by decide +kernel⟩, by decide +kernel, tw_156, tw_68⟩
theorem mf_X5_look : mfact mX5_look 1 := ⟨by decide +kernel, ⟨by decide +kernel, by decide +kernel⟩, by decide +kernel, tw_526, tw_68⟩
theorem mf_X5_comingTo : mfact mX5_comingTo 3 := ⟨by decide +kernel, ⟨by decide +kernel, by decide +kernel⟩, by decide +kernel, tw_535, tw_68⟩
theorem mf_X5_stepsBetween : mfact mX5_stepsBetween 2 := ⟨by decide +kernel, ⟨by decide +kernel, by decide +kernel⟩, by decide +kernel, tw_531, tw_68⟩
theorem mf_X5_onwardFrom : mfact mX5_onwardFrom 1 := ⟨by decide +kernel, ⟨by decide +kernel, by decide +kernel⟩, by decide +kernel, tw_541, tw_68⟩
theorem mf_X5_highest : mfact mX5_highest 1 := ⟨by decide +kernel, ⟨by decide +kernel, by decide +kernel⟩, by decide +kernel, tw_545, tw_68⟩
theorem mf_X5_lowest : mfact mX5_lowest 1 := ⟨by decide +kernel, ⟨by decide +kernel, by decide +kernel⟩, by decide +kernel, tw_549, tw_68⟩
theorem mf_X5_find : mfact mX5_find 2 := ⟨by decide +kernel, ⟨by decide +kernel, by decide +kernel⟩, by decide +kernel, tw_521, tw_68⟩
theorem mf_X5_leastLeft : mfact mX5_leastLeft 1 := ⟨by decide +kernel, ⟨by decide +kernel, by decide +kernel⟩, by decide +kernel, tw_553, tw_68⟩
theorem mf_X5_fillTimes : mfact mX5_fillTimes 3 := ⟨by decide +kernel, ⟨by decide +kernel, by decide +kernel⟩, by decide +kernel, tw_517, tw_68⟩
theorem mf_X5_layerOf : mfact mX5_layerOf 2 := ⟨by decide +kernel, ⟨by decide +kernel, by decide +kernel⟩, by decide +kernel, tw_978, tw_68⟩
set_option maxRecDepth 20000 in
theorem kX6_holds {E : EX} {l : Launch} (hl : l.stackTraces = false)  (i1 i2 : Int32) : Ct E l mX6_holds [.int i1, .int i2] [] (fX6_holds i1 i2) (zX6_holds E) := Ct_of hl mf_X6_holds.1 (Nat.le_of_ble_eq_true rfl) (fun K hs => by
  refine V_less 0 0 (Nat.le_refl _) (Nat.le_refl _) ?_
  refine V_pick [0, 1] [(0, .int i1), (1, .int i2)] rfl ?_
  unfold fX6_holds
  refine V_iload_n (dX6_holds 0 rfl) 1 rfl 0 rfl ?_
  refine V_iload_n (dX6_holds 1 rfl) 2 rfl 1 rfl ?_
  refine V_ishr (dX6_holds 2 rfl) 3 rfl ?_
  refine V_iconst (1 : Int32) (by decide) (dX6_holds 3 rfl) 4 rfl ?_
  refine V_iand (dX6_holds 4 rfl) 5 rfl ?_
  refine V_iconst (1 : Int32) (by decide) (dX6_holds 5 rfl) 6 rfl ?_
  refine V_icmp_ne (dX6_holds 6 rfl) 13 (by decide) 9 rfl ?_ ?_
  · refine V_iconst (0 : Int32) (by decide) (dX6_holds 9 rfl) 14 rfl ?_
    exact V_zret rfl (by decide) (dX6_holds 10 rfl) ⟨rfl, rfl⟩
  · refine V_iconst (1 : Int32) (by decide) (dX6_holds 7 rfl) 10 rfl ?_
    refine V_goto (dX6_holds 8 rfl) 14 (by decide) ?_
    exact V_zret rfl (by decide) (dX6_holds 10 rfl) ⟨rfl, rfl⟩)
set_option maxRecDepth 20000 in
theorem kX0_isCut {E : EX} {l : Launch} (hl : l.stackTraces = false) (q1 : Nat) (i3 i4 i5 : Int32) (v6 v7 : Value) (i2 : Int32) : Ct E l mX0_isCut [.ref q1, .int i2] [(q1, .inr (1, [.int i3, .int i4, .int i5, v6, v7]))] (fX0_isCut i4 i5 i2) (zX0_isCut E q1 i3 i4 i5 v6 v7) := Ct_of hl mf_X0_isCut.1 (Nat.le_of_ble_eq_true rfl) (fun K hs => by
  refine V_less 0 0 (Nat.le_refl _) (Nat.le_refl _) ?_
  refine V_pick [0, 1] [(0, .ref q1), (1, .int i2)] rfl ?_
  unfold fX0_isCut
  refine V_iload_n (dX0_isCut 0 rfl) 1 rfl 1 rfl ?_
  refine V_aload_n (dX0_isCut 1 rfl) 2 rfl 0 rfl ?_
  refine V_getN gf_C_9 0 rfl rfl (dX0_isCut 2 rfl) 5 rfl ?_
  refine V_callSN (M := mX0_isCut) (wcs := []) (wr := [(q1, .inr (1, [.int i3, .int i4, .int i5, v6, v7]))]) mf_X6_holds (show (_, _, _, "Brookmill") ∈ nestM by decide +kernel) tw_344 ⟨Nat.le_of_ble_eq_true rfl, Nat.le_of_ble_eq_true rfl⟩ (dX0_isCut 3 rfl) 8 rfl (kX6_holds hs i2 i4) rfl [] [0] rfl rfl rfl rfl (by decide) rfl (Nat.le_of_ble_eq_true rfl) 0 0 (show 0 + 0 ≤ 0 from Nat.le_of_ble_eq_true rfl) (show 0 + 0 ≤ 0 from Nat.le_of_ble_eq_true rfl) (fun z8 v w hz => ?_)
  obtain ⟨rfl, rfl⟩ := hz
  show V E K mX0_isCut (Qm E K mX0_isCut (zX0_isCut E q1 i3 i4 i5 v6 v7)) 0 0 [(q1, .inr (1, [.int i3, .int i4, .int i5, v6, v7]))] 8 [(0, .ref q1), (1, .int i2)] [.int z8] _
  refine V_if_eq (dX0_isCut 4 rfl) 26 (by decide) 11 rfl ?_ ?_
  · refine V_iconst (0 : Int32) (by decide) (dX0_isCut 12 rfl) 27 rfl ?_
    exact V_zret rfl (by decide) (dX0_isCut 13 rfl) ⟨rfl, rfl⟩
  · refine V_iload_n (dX0_isCut 5 rfl) 12 rfl 1 rfl ?_
    refine V_aload_n (dX0_isCut 6 rfl) 13 rfl 0 rfl ?_
    refine V_getN gf_C_19 0 rfl rfl (dX0_isCut 7 rfl) 16 rfl ?_
    refine V_callSN (M := mX0_isCut) (wcs := []) (wr := [(q1, .inr (1, [.int i3, .int i4, .int i5, v6, v7]))]) mf_X6_holds (show (_, _, _, "Brookmill") ∈ nestM by decide +kernel) tw_344 ⟨Nat.le_of_ble_eq_true rfl, Nat.le_of_ble_eq_true rfl⟩ (dX0_isCut 8 rfl) 19 rfl (kX6_holds hs i2 i5) rfl [] [0] rfl rfl rfl rfl (by decide) rfl (Nat.le_of_ble_eq_true rfl) 0 0 (show 0 + 0 ≤ 0 from Nat.le_of_ble_eq_true rfl) (show 0 + 0 ≤ 0 from Nat.le_of_ble_eq_true rfl) (fun z9 v w hz => ?_)
    obtain ⟨rfl, rfl⟩ := hz
    show V E K mX0_isCut (Qm E K mX0_isCut (zX0_isCut E q1 i3 i4 i5 v6 v7)) 0 0 [(q1, .inr (1, [.int i3, .int i4, .int i5, v6, v7]))] 19 [(0, .ref q1), (1, .int i2)] [.int z9] _
    refine V_if_ne (dX0_isCut 9 rfl) 26 (by decide) 22 rfl ?_ ?_
    · refine V_iconst (0 : Int32) (by decide) (dX0_isCut 12 rfl) 27 rfl ?_
      exact V_zret rfl (by decide) (dX0_isCut 13 rfl) ⟨rfl, rfl⟩
    · refine V_iconst (1 : Int32) (by decide) (dX0_isCut 10 rfl) 23 rfl ?_
      refine V_goto (dX0_isCut 11 rfl) 27 (by decide) ?_
      exact V_zret rfl (by decide) (dX0_isCut 13 rfl) ⟨rfl, rfl⟩)
set_option maxRecDepth 20000 in
theorem vBX0_sumAcross_L17 {E : EX} {K : KX} (hs : K.l.stackTraces = false) (q1 q2 q9 : Nat) (i4 i5 i6 : Int32) (v7 v8 : Value) (f10 : Nat → Int32) (i3 i50 : Int32) (bc bs : Nat) (i69 i70 : Int32) {rec : Int32 → Int32 → Option (Int32)} {k1 : Int32 → Option (Int32)} (hrec : ∀ (i69 i70 : Int32), V E K mX0_sumAcross (Qm E K mX0_sumAcross (zX0_sumAcross E q1 q2 q9 i4 i5 i6 v7 v8 f10)) (bc) (bs) [(q1, .inr (1, [.int i4, .int i5, .int i6, v7, v8])), (q2, .inr (2, [.ref q9])), (q9, .inl (E.2.1, 81, .inl f10))] 17 [(0, .ref q1), (1, .ref q2), (2, .int i3), (3, .int i69), (4, .int i50), (5, .int i70)] [] (rec i69 i70)) (hk1 : ∀ (i78 : Int32), V E K mX0_sumAcross (Qm E K mX0_sumAcross (zX0_sumAcross E q1 q2 q9 i4 i5 i6 v7 v8 f10)) (bc) (bs) [(q1, .inr (1, [.int i4, .int i5, .int i6, v7, v8])), (q2, .inr (2, [.ref q9])), (q9, .inl (E.2.1, 81, .inl f10))] 61 [(0, .ref q1), (1, .ref q2), (2, .int i3), (3, .int i78), (4, .int i50)] [] (k1 i78)) : V E K mX0_sumAcross (Qm E K mX0_sumAcross (zX0_sumAcross E q1 q2 q9 i4 i5 i6 v7 v8 f10)) (bc) (bs) [(q1, .inr (1, [.int i4, .int i5, .int i6, v7, v8])), (q2, .inr (2, [.ref q9])), (q9, .inl (E.2.1, 81, .inl f10))] 17 [(0, .ref q1), (1, .ref q2), (2, .int i3), (3, .int i69), (4, .int i50), (5, .int i70)] [] (BX0_sumAcross_L17  i4 f10 i3 i50 i69 i70 rec k1) := by
  unfold BX0_sumAcross_L17
  refine V_iload (dX0_sumAcross 10 rfl) 19 rfl 5 rfl ?_
  refine V_aload_n (dX0_sumAcross 11 rfl) 20 rfl 0 rfl ?_
  refine V_getN gf_C_22 0 rfl rfl (dX0_sumAcross 12 rfl) 23 rfl ?_
  refine V_icmp_ge (dX0_sumAcross 13 rfl) 61 (by decide) 26 rfl ?_ ?_
  · refine V_pick [0, 1, 2, 3, 4] [(0, .ref q1), (1, .ref q2), (2, .int i3), (3, .int i69), (4, .int i50)] rfl ?_
    exact hk1 i69
  · refine V_iload_n (dX0_sumAcross 14 rfl) 27 rfl 2 rfl ?_
    refine V_iload (dX0_sumAcross 15 rfl) 29 rfl 4 rfl ?_
    refine V_callSN (M := mX0_sumAcross) (wcs := []) (wr := [(q1, .inr (1, [.int i4, .int i5, .int i6, v7, v8])), (q2, .inr (2, [.ref q9])), (q9, .inl (E.2.1, 81, .inl f10))]) mf_X6_holds (show (_, _, _, "Brookmill") ∈ nestM by decide +kernel) tw_344 ⟨Nat.le_of_ble_eq_true rfl, Nat.le_of_ble_eq_true rfl⟩ (dX0_sumAcross 16 rfl) 32 rfl (kX6_holds hs i3 i50) rfl [] [0, 1, 2] rfl rfl rfl rfl (by decide) rfl (Nat.le_of_ble_eq_true rfl) (bc) (bs) (show (bc) + 0 ≤ (bc) by omega) (show (bs) + 0 ≤ (bs) by omega) (fun z71 v w hz => ?_)
    obtain ⟨rfl, rfl⟩ := hz
    show V E K mX0_sumAcross (Qm E K mX0_sumAcross (zX0_sumAcross E q1 q2 q9 i4 i5 i6 v7 v8 f10)) (bc) (bs) [(q1, .inr (1, [.int i4, .int i5, .int i6, v7, v8])), (q2, .inr (2, [.ref q9])), (q9, .inl (E.2.1, 81, .inl f10))] 32 [(0, .ref q1), (1, .ref q2), (2, .int i3), (3, .int i69), (4, .int i50), (5, .int i70)] [.int z71] _
    refine V_if_eq (dX0_sumAcross 17 rfl) 61 (by decide) 35 rfl ?_ ?_
    · refine V_pick [0, 1, 2, 3, 4] [(0, .ref q1), (1, .ref q2), (2, .int i3), (3, .int i69), (4, .int i50)] rfl ?_
      exact hk1 i69
    · refine V_iload_n (dX0_sumAcross 18 rfl) 36 rfl 2 rfl ?_
      refine V_iload (dX0_sumAcross 19 rfl) 38 rfl 5 rfl ?_
      refine V_callSN (M := mX0_sumAcross) (wcs := []) (wr := [(q1, .inr (1, [.int i4, .int i5, .int i6, v7, v8])), (q2, .inr (2, [.ref q9])), (q9, .inl (E.2.1, 81, .inl f10))]) mf_X6_holds (show (_, _, _, "Brookmill") ∈ nestM by decide +kernel) tw_344 ⟨Nat.le_of_ble_eq_true rfl, Nat.le_of_ble_eq_true rfl⟩ (dX0_sumAcross 20 rfl) 41 rfl (kX6_holds hs i3 i70) rfl [] [0, 1, 2] rfl rfl rfl rfl (by decide) rfl (Nat.le_of_ble_eq_true rfl) (bc) (bs) (show (bc) + 0 ≤ (bc) by omega) (show (bs) + 0 ≤ (bs) by omega) (fun z72 v w hz => ?_)
      obtain ⟨rfl, rfl⟩ := hz
      show V E K mX0_sumAcross (Qm E K mX0_sumAcross (zX0_sumAcross E q1 q2 q9 i4 i5 i6 v7 v8 f10)) (bc) (bs) [(q1, .inr (1, [.int i4, .int i5, .int i6, v7, v8])), (q2, .inr (2, [.ref q9])), (q9, .inl (E.2.1, 81, .inl f10))] 41 [(0, .ref q1), (1, .ref q2), (2, .int i3), (3, .int i69), (4, .int i50), (5, .int i70)] [.int z72] _
      refine V_jn (fun (k73 : Int32 → Option (Int32)) => ∀ (i77 : Int32), V E K mX0_sumAcross (Qm E K mX0_sumAcross (zX0_sumAcross E q1 q2 q9 i4 i5 i6 v7 v8 f10)) (bc) (bs) [(q1, .inr (1, [.int i4, .int i5, .int i6, v7, v8])), (q2, .inr (2, [.ref q9])), (q9, .inl (E.2.1, 81, .inl f10))] 55 [(0, .ref q1), (1, .ref q2), (2, .int i3), (3, .int i77), (4, .int i50), (5, .int i70)] [] (k73 i77)) ?_ ?_
      · intro i77
        show V E K mX0_sumAcross (Qm E K mX0_sumAcross (zX0_sumAcross E q1 q2 q9 i4 i5 i6 v7 v8 f10)) (bc) (bs) [(q1, .inr (1, [.int i4, .int i5, .int i6, v7, v8])), (q2, .inr (2, [.ref q9])), (q9, .inl (E.2.1, 81, .inl f10))] 55 [(0, .ref q1), (1, .ref q2), (2, .int i3), (3, .int i77), (4, .int i50), (5, .int i70)] [] _
        refine V_iinc (dX0_sumAcross 29 rfl) 58 rfl 5 rfl (i70 + (1 : Int32)) rfl [(0, .ref q1), (1, .ref q2), (2, .int i3), (3, .int i77), (4, .int i50), (5, .int (i70 + (1 : Int32)))] (Nat.le_of_ble_eq_true rfl) rfl ?_
        refine V_goto (dX0_sumAcross 30 rfl) 17 (by decide) ?_
        exact hrec i77 (i70 + (1 : Int32))
      · intro k73 hk74
        refine V_if_ne (dX0_sumAcross 21 rfl) 55 (by decide) 44 rfl ?_ ?_
        · exact hk74 i69
        · refine V_iload_n (dX0_sumAcross 22 rfl) 45 rfl 3 rfl ?_
          refine V_aload_n (dX0_sumAcross 23 rfl) 46 rfl 1 rfl ?_
          refine V_iload (dX0_sumAcross 24 rfl) 48 rfl 4 rfl ?_
          refine V_iload (dX0_sumAcross 25 rfl) 50 rfl 5 rfl ?_
          refine V_callV (M := mX0_sumAcross) (wcs := [(q2, .inr (2, [.ref q9])), (q9, .inl (E.2.1, 81, .inl f10))]) (wr := [(q1, .inr (1, [.int i4, .int i5, .int i6, v7, v8]))]) mf_X1_at tw_395 tw_290 tw_291 ⟨Nat.le_of_ble_eq_true rfl, Nat.le_of_ble_eq_true rfl⟩ (dX0_sumAcross 26 rfl) 53 rfl (kX1_at hs q2 q9 f10 i50 i70) rfl [1, 2] [0] (q0 := 0) rfl rfl rfl rfl (by decide) rfl rfl rfl rfl (Nat.le_of_ble_eq_true rfl) (bc) (bs) (show (bc) + 0 ≤ (bc) by omega) (show (bs) + 0 ≤ (bs) by omega) (fun z75 v w hz => ?_)
          obtain ⟨rfl, rfl⟩ := hz
          show V E K mX0_sumAcross (Qm E K mX0_sumAcross (zX0_sumAcross E q1 q2 q9 i4 i5 i6 v7 v8 f10)) (bc) (bs) [(q1, .inr (1, [.int i4, .int i5, .int i6, v7, v8])), (q2, .inr (2, [.ref q9])), (q9, .inl (E.2.1, 81, .inl f10))] 53 [(0, .ref q1), (1, .ref q2), (2, .int i3), (3, .int i69), (4, .int i50), (5, .int i70)] [.int z75, .int i69] _
          refine V_iadd (dX0_sumAcross 27 rfl) 54 rfl ?_
          refine V_nmI (fun i76 => ?_)
          refine V_istore_n (dX0_sumAcross 28 rfl) 55 rfl [(0, .ref q1), (1, .ref q2), (2, .int i3), (3, .int i76), (4, .int i50), (5, .int i70)] (Nat.le_of_ble_eq_true rfl) rfl ?_
          exact hk74 i76
set_option maxRecDepth 20000 in
theorem vLX0_sumAcross_L17 {E : EX} {K : KX} (hs : K.l.stackTraces = false) (q1 q2 q9 : Nat) (i4 i5 i6 : Int32) (v7 v8 : Value) (f10 : Nat → Int32) (i3 i50 : Int32) (bc bs : Nat) {k1 : Int32 → Option (Int32)} (hk1 : ∀ (i78 : Int32), V E K mX0_sumAcross (Qm E K mX0_sumAcross (zX0_sumAcross E q1 q2 q9 i4 i5 i6 v7 v8 f10)) (bc) (bs) [(q1, .inr (1, [.int i4, .int i5, .int i6, v7, v8])), (q2, .inr (2, [.ref q9])), (q9, .inl (E.2.1, 81, .inl f10))] 61 [(0, .ref q1), (1, .ref q2), (2, .int i3), (3, .int i78), (4, .int i50)] [] (k1 i78)) : ∀ (n : Nat) (i69 i70 : Int32), V E K mX0_sumAcross (Qm E K mX0_sumAcross (zX0_sumAcross E q1 q2 q9 i4 i5 i6 v7 v8 f10)) (bc) (bs) [(q1, .inr (1, [.int i4, .int i5, .int i6, v7, v8])), (q2, .inr (2, [.ref q9])), (q9, .inl (E.2.1, 81, .inl f10))] 17 [(0, .ref q1), (1, .ref q2), (2, .int i3), (3, .int i69), (4, .int i50), (5, .int i70)] [] (LX0_sumAcross_L17  i4 f10 i3 i50 n i69 i70 k1)
  | 0, _, _ => V_none
  | n + 1, i69, i70 => vBX0_sumAcross_L17 hs q1 q2 q9 i4 i5 i6 v7 v8 f10 i3 i50 bc bs i69 i70 (fun i69 i70 => vLX0_sumAcross_L17 hs q1 q2 q9 i4 i5 i6 v7 v8 f10 i3 i50 bc bs hk1 n i69 i70) hk1
set_option maxRecDepth 20000 in
theorem vBX0_sumAcross_L5 {E : EX} {K : KX} (hs : K.l.stackTraces = false) (q1 q2 q9 : Nat) (i4 i5 i6 : Int32) (v7 v8 : Value) (f10 : Nat → Int32) (i3 : Int32) (bc bs : Nat) (i49 i50 : Int32) {rec : Int32 → Int32 → Option (Int32)}  (hrec : ∀ (i49 i50 : Int32), V E K mX0_sumAcross (Qm E K mX0_sumAcross (zX0_sumAcross E q1 q2 q9 i4 i5 i6 v7 v8 f10)) (bc) (bs) [(q1, .inr (1, [.int i4, .int i5, .int i6, v7, v8])), (q2, .inr (2, [.ref q9])), (q9, .inl (E.2.1, 81, .inl f10))] 5 [(0, .ref q1), (1, .ref q2), (2, .int i3), (3, .int i49), (4, .int i50)] [] (rec i49 i50))  : V E K mX0_sumAcross (Qm E K mX0_sumAcross (zX0_sumAcross E q1 q2 q9 i4 i5 i6 v7 v8 f10)) (bc) (bs) [(q1, .inr (1, [.int i4, .int i5, .int i6, v7, v8])), (q2, .inr (2, [.ref q9])), (q9, .inl (E.2.1, 81, .inl f10))] 5 [(0, .ref q1), (1, .ref q2), (2, .int i3), (3, .int i49), (4, .int i50)] [] (BX0_sumAcross_L5  i4 f10 i3 i49 i50 rec ) := by
  unfold BX0_sumAcross_L5
  refine V_iload (dX0_sumAcross 4 rfl) 7 rfl 4 rfl ?_
  refine V_aload_n (dX0_sumAcross 5 rfl) 8 rfl 0 rfl ?_
  refine V_getN gf_C_22 0 rfl rfl (dX0_sumAcross 6 rfl) 11 rfl ?_
  refine V_icmp_ge (dX0_sumAcross 7 rfl) 67 (by decide) 14 rfl ?_ ?_
  · refine V_iload_n (dX0_sumAcross 33 rfl) 68 rfl 3 rfl ?_
    exact V_iret rfl (dX0_sumAcross 34 rfl) ⟨rfl, rfl⟩
  · refine V_iconst (0 : Int32) (by decide) (dX0_sumAcross 8 rfl) 15 rfl ?_
    refine V_istore (dX0_sumAcross 9 rfl) 17 rfl [(0, .ref q1), (1, .ref q2), (2, .int i3), (3, .int i49), (4, .int i50), (5, .int (0 : Int32))] (Nat.le_of_ble_eq_true rfl) rfl ?_
    refine vLX0_sumAcross_L17 hs q1 q2 q9 i4 i5 i6 v7 v8 f10 i3 i50 (bc) (bs) ?_ 600 i49 (0 : Int32)
    intro i78
    show V E K mX0_sumAcross (Qm E K mX0_sumAcross (zX0_sumAcross E q1 q2 q9 i4 i5 i6 v7 v8 f10)) (bc) (bs) [(q1, .inr (1, [.int i4, .int i5, .int i6, v7, v8])), (q2, .inr (2, [.ref q9])), (q9, .inl (E.2.1, 81, .inl f10))] 61 [(0, .ref q1), (1, .ref q2), (2, .int i3), (3, .int i78), (4, .int i50)] [] _
    refine V_iinc (dX0_sumAcross 31 rfl) 64 rfl 4 rfl (i50 + (1 : Int32)) rfl [(0, .ref q1), (1, .ref q2), (2, .int i3), (3, .int i78), (4, .int (i50 + (1 : Int32)))] (Nat.le_of_ble_eq_true rfl) rfl ?_
    refine V_goto (dX0_sumAcross 32 rfl) 5 (by decide) ?_
    exact hrec i78 (i50 + (1 : Int32))
set_option maxRecDepth 20000 in
theorem vLX0_sumAcross_L5 {E : EX} {K : KX} (hs : K.l.stackTraces = false) (q1 q2 q9 : Nat) (i4 i5 i6 : Int32) (v7 v8 : Value) (f10 : Nat → Int32) (i3 : Int32) (bc bs : Nat)   : ∀ (n : Nat) (i49 i50 : Int32), V E K mX0_sumAcross (Qm E K mX0_sumAcross (zX0_sumAcross E q1 q2 q9 i4 i5 i6 v7 v8 f10)) (bc) (bs) [(q1, .inr (1, [.int i4, .int i5, .int i6, v7, v8])), (q2, .inr (2, [.ref q9])), (q9, .inl (E.2.1, 81, .inl f10))] 5 [(0, .ref q1), (1, .ref q2), (2, .int i3), (3, .int i49), (4, .int i50)] [] (LX0_sumAcross_L5  i4 f10 i3 n i49 i50 )
  | 0, _, _ => V_none
  | n + 1, i49, i50 => vBX0_sumAcross_L5 hs q1 q2 q9 i4 i5 i6 v7 v8 f10 i3 bc bs i49 i50 (fun i49 i50 => vLX0_sumAcross_L5 hs q1 q2 q9 i4 i5 i6 v7 v8 f10 i3 bc bs  n i49 i50) 
set_option maxRecDepth 20000 in
theorem kX0_sumAcross {E : EX} {l : Launch} (hl : l.stackTraces = false) (q1 q2 q9 : Nat) (i4 i5 i6 : Int32) (v7 v8 : Value) (f10 : Nat → Int32) (i3 : Int32) : Ct E l mX0_sumAcross [.ref q1, .ref q2, .int i3] [(q1, .inr (1, [.int i4, .int i5, .int i6, v7, v8])), (q2, .inr (2, [.ref q9])), (q9, .inl (E.2.1, 81, .inl f10))] (fX0_sumAcross i4 f10 i3) (zX0_sumAcross E q1 q2 q9 i4 i5 i6 v7 v8 f10) := Ct_of hl mf_X0_sumAcross.1 (Nat.le_of_ble_eq_true rfl) (fun K hs => by
  refine V_less 0 0 (Nat.le_refl _) (Nat.le_refl _) ?_
  refine V_pick [0, 1, 2] [(0, .ref q1), (1, .ref q2), (2, .int i3)] rfl ?_
  unfold fX0_sumAcross
  refine V_iconst (0 : Int32) (by decide) (dX0_sumAcross 0 rfl) 1 rfl ?_
  refine V_istore_n (dX0_sumAcross 1 rfl) 2 rfl [(0, .ref q1), (1, .ref q2), (2, .int i3), (3, .int (0 : Int32))] (Nat.le_of_ble_eq_true rfl) rfl ?_
  refine V_iconst (0 : Int32) (by decide) (dX0_sumAcross 2 rfl) 3 rfl ?_
  refine V_istore (dX0_sumAcross 3 rfl) 5 rfl [(0, .ref q1), (1, .ref q2), (2, .int i3), (3, .int (0 : Int32)), (4, .int (0 : Int32))] (Nat.le_of_ble_eq_true rfl) rfl ?_
  refine vLX0_sumAcross_L5 hs q1 q2 q9 i4 i5 i6 v7 v8 f10 i3 0 0  600 (0 : Int32) (0 : Int32))
set_option maxRecDepth 20000 in
theorem vBX0_leastRoom_L10 {E : EX} {K : KX} (hs : K.l.stackTraces = false) (q1 q5 q7 : Nat) (i2 i3 i4 : Int32) (v6 : Value) (f8 : Nat → Int32) (i26 : Int32) (bc bs : Nat) (i27 i28 : Int32) {rec : Int32 → Int32 → Option (Int32)}  (hrec : ∀ (i27 i28 : Int32), V E K mX0_leastRoom (Qm E K mX0_leastRoom (zX0_leastRoom E q1 q5 q7 i2 i3 i4 v6 f8)) (bc) (bs) [(q1, .inr (1, [.int i2, .int i3, .int i4, .ref q5, v6])), (q5, .inr (2, [.ref q7])), (q7, .inl (E.2.1, 81, .inl f8))] 10 [(0, .ref q1), (1, .int i26), (2, .int i27), (3, .int i28)] [] (rec i27 i28))  : V E K mX0_leastRoom (Qm E K mX0_leastRoom (zX0_leastRoom E q1 q5 q7 i2 i3 i4 v6 f8)) (bc) (bs) [(q1, .inr (1, [.int i2, .int i3, .int i4, .ref q5, v6])), (q5, .inr (2, [.ref q7])), (q7, .inl (E.2.1, 81, .inl f8))] 10 [(0, .ref q1), (1, .int i26), (2, .int i27), (3, .int i28)] [] (BX0_leastRoom_L10  i2 i3 i4 f8 i26 i27 i28 rec ) := by
  unfold BX0_leastRoom_L10
  refine V_iload_n (dX0_leastRoom 7 rfl) 11 rfl 3 rfl ?_
  refine V_iload_n (dX0_leastRoom 8 rfl) 12 rfl 1 rfl ?_
  refine V_icmp_gt (dX0_leastRoom 9 rfl) 43 (by decide) 15 rfl ?_ ?_
  · refine V_iload_n (dX0_leastRoom 24 rfl) 44 rfl 2 rfl ?_
    exact V_iret rfl (dX0_leastRoom 25 rfl) ⟨rfl, rfl⟩
  · refine V_aload_n (dX0_leastRoom 10 rfl) 16 rfl 0 rfl ?_
    refine V_iload_n (dX0_leastRoom 11 rfl) 17 rfl 3 rfl ?_
    refine V_callS (M := mX0_leastRoom) (wcs := [(q1, .inr (1, [.int i2, .int i3, .int i4, .ref q5, v6]))]) (wr := [(q5, .inr (2, [.ref q7])), (q7, .inl (E.2.1, 81, .inl f8))]) mf_X0_isCut tw_388 tw_389 ⟨Nat.le_of_ble_eq_true rfl, Nat.le_of_ble_eq_true rfl⟩ (dX0_leastRoom 12 rfl) 20 rfl (kX0_isCut hs q1 i2 i3 i4 (.ref q5) v6 i28) rfl [0] [1, 2] rfl rfl rfl rfl (by decide) rfl (Nat.le_of_ble_eq_true rfl) (bc) (bs) (show (bc) + 0 ≤ (bc) by omega) (show (bs) + 0 ≤ (bs) by omega) (fun z29 v w hz => ?_)
    obtain ⟨rfl, rfl⟩ := hz
    show V E K mX0_leastRoom (Qm E K mX0_leastRoom (zX0_leastRoom E q1 q5 q7 i2 i3 i4 v6 f8)) (bc) (bs) [(q5, .inr (2, [.ref q7])), (q7, .inl (E.2.1, 81, .inl f8)), (q1, .inr (1, [.int i2, .int i3, .int i4, .ref q5, v6]))] 20 [(0, .ref q1), (1, .int i26), (2, .int i27), (3, .int i28)] [.int z29] _
    refine V_jn (fun (k30 : Int32 → Option (Int32)) => ∀ (i34 : Int32), V E K mX0_leastRoom (Qm E K mX0_leastRoom (zX0_leastRoom E q1 q5 q7 i2 i3 i4 v6 f8)) (bc) (bs) [(q1, .inr (1, [.int i2, .int i3, .int i4, .ref q5, v6])), (q5, .inr (2, [.ref q7])), (q7, .inl (E.2.1, 81, .inl f8))] 37 [(0, .ref q1), (1, .int i26), (2, .int i34), (3, .int i28)] [] (k30 i34)) ?_ ?_
    · intro i34
      show V E K mX0_leastRoom (Qm E K mX0_leastRoom (zX0_leastRoom E q1 q5 q7 i2 i3 i4 v6 f8)) (bc) (bs) [(q1, .inr (1, [.int i2, .int i3, .int i4, .ref q5, v6])), (q5, .inr (2, [.ref q7])), (q7, .inl (E.2.1, 81, .inl f8))] 37 [(0, .ref q1), (1, .int i26), (2, .int i34), (3, .int i28)] [] _
      refine V_iinc (dX0_leastRoom 22 rfl) 40 rfl 3 rfl (i28 + (1 : Int32)) rfl [(0, .ref q1), (1, .int i26), (2, .int i34), (3, .int (i28 + (1 : Int32)))] (Nat.le_of_ble_eq_true rfl) rfl ?_
      refine V_goto (dX0_leastRoom 23 rfl) 10 (by decide) ?_
      exact hrec i34 (i28 + (1 : Int32))
    · intro k30 hk31
      refine V_if_eq (dX0_leastRoom 13 rfl) 37 (by decide) 23 rfl ?_ ?_
      · refine V_world [2, 0, 1] [(q1, .inr (1, [.int i2, .int i3, .int i4, .ref q5, v6])), (q5, .inr (2, [.ref q7])), (q7, .inl (E.2.1, 81, .inl f8))] rfl rfl rfl ?_
        exact hk31 i27
      · refine V_iload_n (dX0_leastRoom 14 rfl) 24 rfl 2 rfl ?_
        refine V_aload_n (dX0_leastRoom 15 rfl) 25 rfl 0 rfl ?_
        refine V_aload_n (dX0_leastRoom 16 rfl) 26 rfl 0 rfl ?_
        refine V_getN gf_C_42 2 rfl rfl (dX0_leastRoom 17 rfl) 29 rfl ?_
        refine V_iload_n (dX0_leastRoom 18 rfl) 30 rfl 3 rfl ?_
        refine V_callS (M := mX0_leastRoom) (wcs := [(q1, .inr (1, [.int i2, .int i3, .int i4, .ref q5, v6])), (q5, .inr (2, [.ref q7])), (q7, .inl (E.2.1, 81, .inl f8))]) (wr := []) mf_X0_sumAcross tw_392 tw_393 ⟨Nat.le_of_ble_eq_true rfl, Nat.le_of_ble_eq_true rfl⟩ (dX0_leastRoom 19 rfl) 33 rfl (kX0_sumAcross hs q1 q5 q7 i2 i3 i4 (.ref q5) v6 f8 i28) rfl [2, 0, 1] [] rfl rfl rfl rfl (by decide) rfl (Nat.le_of_ble_eq_true rfl) (bc) (bs) (show (bc) + 0 ≤ (bc) by omega) (show (bs) + 0 ≤ (bs) by omega) (fun z32 v w hz => ?_)
        obtain ⟨rfl, rfl⟩ := hz
        show V E K mX0_leastRoom (Qm E K mX0_leastRoom (zX0_leastRoom E q1 q5 q7 i2 i3 i4 v6 f8)) (bc) (bs) [(q1, .inr (1, [.int i2, .int i3, .int i4, .ref q5, v6])), (q5, .inr (2, [.ref q7])), (q7, .inl (E.2.1, 81, .inl f8))] 33 [(0, .ref q1), (1, .int i26), (2, .int i27), (3, .int i28)] [.int z32, .int i27] _
        refine V_mmin tw_396 tw_341 tw_82 tw_342 (Nat.le_of_ble_eq_true rfl) (Nat.le_of_ble_eq_true rfl) (dX0_leastRoom 20 rfl) 36 rfl ?_
        refine V_nmI (fun i33 => ?_)
        refine V_istore_n (dX0_leastRoom 21 rfl) 37 rfl [(0, .ref q1), (1, .int i26), (2, .int i33), (3, .int i28)] (Nat.le_of_ble_eq_true rfl) rfl ?_
        exact hk31 i33
set_option maxRecDepth 20000 in
theorem vLX0_leastRoom_L10 {E : EX} {K : KX} (hs : K.l.stackTraces = false) (q1 q5 q7 : Nat) (i2 i3 i4 : Int32) (v6 : Value) (f8 : Nat → Int32) (i26 : Int32) (bc bs : Nat)   : ∀ (n : Nat) (i27 i28 : Int32), V E K mX0_leastRoom (Qm E K mX0_leastRoom (zX0_leastRoom E q1 q5 q7 i2 i3 i4 v6 f8)) (bc) (bs) [(q1, .inr (1, [.int i2, .int i3, .int i4, .ref q5, v6])), (q5, .inr (2, [.ref q7])), (q7, .inl (E.2.1, 81, .inl f8))] 10 [(0, .ref q1), (1, .int i26), (2, .int i27), (3, .int i28)] [] (LX0_leastRoom_L10  i2 i3 i4 f8 i26 n i27 i28 )
  | 0, _, _ => V_none
  | n + 1, i27, i28 => vBX0_leastRoom_L10 hs q1 q5 q7 i2 i3 i4 v6 f8 i26 bc bs i27 i28 (fun i27 i28 => vLX0_leastRoom_L10 hs q1 q5 q7 i2 i3 i4 v6 f8 i26 bc bs  n i27 i28) 
set_option maxRecDepth 20000 in
theorem kX0_leastRoom {E : EX} {l : Launch} (hl : l.stackTraces = false) (q1 q5 q7 : Nat) (i2 i3 i4 : Int32) (v6 : Value) (f8 : Nat → Int32) : Ct E l mX0_leastRoom [.ref q1] [(q1, .inr (1, [.int i2, .int i3, .int i4, .ref q5, v6])), (q5, .inr (2, [.ref q7])), (q7, .inl (E.2.1, 81, .inl f8))] (fX0_leastRoom i2 i3 i4 f8) (zX0_leastRoom E q1 q5 q7 i2 i3 i4 v6 f8) := Ct_of hl mf_X0_leastRoom.1 (Nat.le_of_ble_eq_true rfl) (fun K hs => by
  refine V_less 0 0 (Nat.le_refl _) (Nat.le_refl _) ?_
  refine V_pick [0] [(0, .ref q1)] rfl ?_
  unfold fX0_leastRoom
  refine V_aload_n (dX0_leastRoom 0 rfl) 1 rfl 0 rfl ?_
  refine V_callV (M := mX0_leastRoom) (wcs := [(q1, .inr (1, [.int i2, .int i3, .int i4, .ref q5, v6]))]) (wr := [(q5, .inr (2, [.ref q7])), (q7, .inl (E.2.1, 81, .inl f8))]) mf_X2_allPlaces tw_383 tw_384 tw_385 ⟨Nat.le_of_ble_eq_true rfl, Nat.le_of_ble_eq_true rfl⟩ (dX0_leastRoom 1 rfl) 4 rfl (kX2_allPlaces hs q1 i2 i3 i4 (.ref q5) v6) rfl [0] [1, 2] (q0 := 0) rfl rfl rfl rfl (by decide) rfl rfl rfl rfl (Nat.le_of_ble_eq_true rfl) 0 0 (show 0 + 0 ≤ 0 from Nat.le_of_ble_eq_true rfl) (show 0 + 0 ≤ 0 from Nat.le_of_ble_eq_true rfl) (fun z9 v w hz => ?_)
  obtain ⟨rfl, rfl⟩ := hz
  show V E K mX0_leastRoom (Qm E K mX0_leastRoom (zX0_leastRoom E q1 q5 q7 i2 i3 i4 v6 f8)) 0 0 [(q5, .inr (2, [.ref q7])), (q7, .inl (E.2.1, 81, .inl f8)), (q1, .inr (1, [.int i2, .int i3, .int i4, .ref q5, v6]))] 4 [(0, .ref q1)] [.int z9] _
  refine V_istore_n (dX0_leastRoom 2 rfl) 5 rfl [(0, .ref q1), (1, .int z9)] (Nat.le_of_ble_eq_true rfl) rfl ?_
  refine V_ldc (M := mX0_leastRoom) (v := (2147483647 : Int32)) tw_387 (dX0_leastRoom 3 rfl) 7 rfl ?_
  refine V_istore_n (dX0_leastRoom 4 rfl) 8 rfl [(0, .ref q1), (1, .int z9), (2, .int (2147483647 : Int32))] (Nat.le_of_ble_eq_true rfl) rfl ?_
  refine V_iconst (0 : Int32) (by decide) (dX0_leastRoom 5 rfl) 9 rfl ?_
  refine V_istore_n (dX0_leastRoom 6 rfl) 10 rfl [(0, .ref q1), (1, .int z9), (2, .int (2147483647 : Int32)), (3, .int (0 : Int32))] (Nat.le_of_ble_eq_true rfl) rfl ?_
  refine V_world [2, 0, 1] [(q1, .inr (1, [.int i2, .int i3, .int i4, .ref q5, v6])), (q5, .inr (2, [.ref q7])), (q7, .inl (E.2.1, 81, .inl f8))] rfl rfl rfl ?_
  refine vLX0_leastRoom_L10 hs q1 q5 q7 i2 i3 i4 v6 f8 z9 0 0  600 (2147483647 : Int32) (0 : Int32))
set_option maxRecDepth 20000 in
theorem kX0_isLeastCut {E : EX} {l : Launch} (hl : l.stackTraces = false) (q1 q7 q9 : Nat) (i4 i5 i6 : Int32) (v8 : Value) (f10 : Nat → Int32) (i2 i3 : Int32) : Ct E l mX0_isLeastCut [.ref q1, .int i2, .int i3] [(q1, .inr (1, [.int i4, .int i5, .int i6, .ref q7, v8])), (q7, .inr (2, [.ref q9])), (q9, .inl (E.2.1, 81, .inl f10))] (fX0_isLeastCut i4 i5 i6 f10 i2 i3) (zX0_isLeastCut E q1 q7 q9 i4 i5 i6 v8 f10) := Ct_of hl mf_X0_isLeastCut.1 (Nat.le_of_ble_eq_true rfl) (fun K hs => by
  refine V_less 0 0 (Nat.le_refl _) (Nat.le_refl _) ?_
  refine V_pick [0, 1, 2] [(0, .ref q1), (1, .int i2), (2, .int i3)] rfl ?_
  unfold fX0_isLeastCut
  refine V_aload_n (dX0_isLeastCut 0 rfl) 1 rfl 0 rfl ?_
  refine V_iload_n (dX0_isLeastCut 1 rfl) 2 rfl 1 rfl ?_
  refine V_callS (M := mX0_isLeastCut) (wcs := [(q1, .inr (1, [.int i4, .int i5, .int i6, .ref q7, v8]))]) (wr := [(q7, .inr (2, [.ref q9])), (q9, .inl (E.2.1, 81, .inl f10))]) mf_X0_isCut tw_388 tw_389 ⟨Nat.le_of_ble_eq_true rfl, Nat.le_of_ble_eq_true rfl⟩ (dX0_isLeastCut 2 rfl) 5 rfl (kX0_isCut hs q1 i4 i5 i6 (.ref q7) v8 i2) rfl [0] [1, 2] rfl rfl rfl rfl (by decide) rfl (Nat.le_of_ble_eq_true rfl) 0 0 (show 0 + 0 ≤ 0 from Nat.le_of_ble_eq_true rfl) (show 0 + 0 ≤ 0 from Nat.le_of_ble_eq_true rfl) (fun z11 v w hz => ?_)
  obtain ⟨rfl, rfl⟩ := hz
  show V E K mX0_isLeastCut (Qm E K mX0_isLeastCut (zX0_isLeastCut E q1 q7 q9 i4 i5 i6 v8 f10)) 0 0 [(q7, .inr (2, [.ref q9])), (q9, .inl (E.2.1, 81, .inl f10)), (q1, .inr (1, [.int i4, .int i5, .int i6, .ref q7, v8]))] 5 [(0, .ref q1), (1, .int i2), (2, .int i3)] [.int z11] _
  refine V_if_eq (dX0_isLeastCut 3 rfl) 25 (by decide) 8 rfl ?_ ?_
  · refine V_iconst (0 : Int32) (by decide) (dX0_isLeastCut 13 rfl) 26 rfl ?_
    refine V_world [2, 0, 1] [(q1, .inr (1, [.int i4, .int i5, .int i6, .ref q7, v8])), (q7, .inr (2, [.ref q9])), (q9, .inl (E.2.1, 81, .inl f10))] rfl rfl rfl ?_
    exact V_zret rfl (by decide) (dX0_isLeastCut 14 rfl) ⟨rfl, rfl⟩
  · refine V_aload_n (dX0_isLeastCut 4 rfl) 9 rfl 0 rfl ?_
    refine V_aload_n (dX0_isLeastCut 5 rfl) 10 rfl 0 rfl ?_
    refine V_getN gf_C_42 2 rfl rfl (dX0_isLeastCut 6 rfl) 13 rfl ?_
    refine V_iload_n (dX0_isLeastCut 7 rfl) 14 rfl 1 rfl ?_
    refine V_callS (M := mX0_isLeastCut) (wcs := [(q1, .inr (1, [.int i4, .int i5, .int i6, .ref q7, v8])), (q7, .inr (2, [.ref q9])), (q9, .inl (E.2.1, 81, .inl f10))]) (wr := []) mf_X0_sumAcross tw_392 tw_393 ⟨Nat.le_of_ble_eq_true rfl, Nat.le_of_ble_eq_true rfl⟩ (dX0_isLeastCut 8 rfl) 17 rfl (kX0_sumAcross hs q1 q7 q9 i4 i5 i6 (.ref q7) v8 f10 i2) rfl [2, 0, 1] [] rfl rfl rfl rfl (by decide) rfl (Nat.le_of_ble_eq_true rfl) 0 0 (show 0 + 0 ≤ 0 from Nat.le_of_ble_eq_true rfl) (show 0 + 0 ≤ 0 from Nat.le_of_ble_eq_true rfl) (fun z12 v w hz => ?_)
    obtain ⟨rfl, rfl⟩ := hz
    show V E K mX0_isLeastCut (Qm E K mX0_isLeastCut (zX0_isLeastCut E q1 q7 q9 i4 i5 i6 v8 f10)) 0 0 [(q1, .inr (1, [.int i4, .int i5, .int i6, .ref q7, v8])), (q7, .inr (2, [.ref q9])), (q9, .inl (E.2.1, 81, .inl f10))] 17 [(0, .ref q1), (1, .int i2), (2, .int i3)] [.int z12] _
    refine V_iload_n (dX0_isLeastCut 9 rfl) 18 rfl 2 rfl ?_
    refine V_icmp_ne (dX0_isLeastCut 10 rfl) 25 (by decide) 21 rfl ?_ ?_
    · refine V_iconst (0 : Int32) (by decide) (dX0_isLeastCut 13 rfl) 26 rfl ?_
      exact V_zret rfl (by decide) (dX0_isLeastCut 14 rfl) ⟨rfl, rfl⟩
    · refine V_iconst (1 : Int32) (by decide) (dX0_isLeastCut 11 rfl) 22 rfl ?_
      refine V_goto (dX0_isLeastCut 12 rfl) 26 (by decide) ?_
      exact V_zret rfl (by decide) (dX0_isLeastCut 14 rfl) ⟨rfl, rfl⟩)
set_option maxRecDepth 20000 in
theorem vBX0_countOfLeast_L15 {E : EX} {K : KX} (hs : K.l.stackTraces = false) (q1 q5 q7 : Nat) (i2 i3 i4 : Int32) (v6 : Value) (f8 : Nat → Int32) (i26 i27 : Int32) (bc bs : Nat) (i28 i29 : Int32) {rec : Int32 → Int32 → Option (Int32)}  (hrec : ∀ (i28 i29 : Int32), V E K mX0_countOfLeast (Qm E K mX0_countOfLeast (zX0_countOfLeast E q1 q5 q7 i2 i3 i4 v6 f8)) (bc) (bs) [(q1, .inr (1, [.int i2, .int i3, .int i4, .ref q5, v6])), (q5, .inr (2, [.ref q7])), (q7, .inl (E.2.1, 81, .inl f8))] 15 [(0, .ref q1), (1, .int i26), (2, .int i27), (3, .int i28), (4, .int i29)] [] (rec i28 i29))  : V E K mX0_countOfLeast (Qm E K mX0_countOfLeast (zX0_countOfLeast E q1 q5 q7 i2 i3 i4 v6 f8)) (bc) (bs) [(q1, .inr (1, [.int i2, .int i3, .int i4, .ref q5, v6])), (q5, .inr (2, [.ref q7])), (q7, .inl (E.2.1, 81, .inl f8))] 15 [(0, .ref q1), (1, .int i26), (2, .int i27), (3, .int i28), (4, .int i29)] [] (BX0_countOfLeast_L15  i2 i3 i4 f8 i26 i27 i28 i29 rec ) := by
  unfold BX0_countOfLeast_L15
  refine V_iload (dX0_countOfLeast 10 rfl) 17 rfl 4 rfl ?_
  refine V_iload_n (dX0_countOfLeast 11 rfl) 18 rfl 1 rfl ?_
  refine V_icmp_gt (dX0_countOfLeast 12 rfl) 40 (by decide) 21 rfl ?_ ?_
  · refine V_iload_n (dX0_countOfLeast 21 rfl) 41 rfl 3 rfl ?_
    exact V_iret rfl (dX0_countOfLeast 22 rfl) ⟨rfl, rfl⟩
  · refine V_aload_n (dX0_countOfLeast 13 rfl) 22 rfl 0 rfl ?_
    refine V_iload (dX0_countOfLeast 14 rfl) 24 rfl 4 rfl ?_
    refine V_iload_n (dX0_countOfLeast 15 rfl) 25 rfl 2 rfl ?_
    refine V_callS (M := mX0_countOfLeast) (wcs := [(q1, .inr (1, [.int i2, .int i3, .int i4, .ref q5, v6])), (q5, .inr (2, [.ref q7])), (q7, .inl (E.2.1, 81, .inl f8))]) (wr := []) mf_X0_isLeastCut tw_405 tw_406 ⟨Nat.le_of_ble_eq_true rfl, Nat.le_of_ble_eq_true rfl⟩ (dX0_countOfLeast 16 rfl) 28 rfl (kX0_isLeastCut hs q1 q5 q7 i2 i3 i4 v6 f8 i29 i27) rfl [0, 1, 2] [] rfl rfl rfl rfl (by decide) rfl (Nat.le_of_ble_eq_true rfl) (bc) (bs) (show (bc) + 0 ≤ (bc) by omega) (show (bs) + 0 ≤ (bs) by omega) (fun z30 v w hz => ?_)
    obtain ⟨rfl, rfl⟩ := hz
    show V E K mX0_countOfLeast (Qm E K mX0_countOfLeast (zX0_countOfLeast E q1 q5 q7 i2 i3 i4 v6 f8)) (bc) (bs) [(q1, .inr (1, [.int i2, .int i3, .int i4, .ref q5, v6])), (q5, .inr (2, [.ref q7])), (q7, .inl (E.2.1, 81, .inl f8))] 28 [(0, .ref q1), (1, .int i26), (2, .int i27), (3, .int i28), (4, .int i29)] [.int z30] _
    refine V_jn (fun (k31 : Int32 → Option (Int32)) => ∀ (i33 : Int32), V E K mX0_countOfLeast (Qm E K mX0_countOfLeast (zX0_countOfLeast E q1 q5 q7 i2 i3 i4 v6 f8)) (bc) (bs) [(q1, .inr (1, [.int i2, .int i3, .int i4, .ref q5, v6])), (q5, .inr (2, [.ref q7])), (q7, .inl (E.2.1, 81, .inl f8))] 34 [(0, .ref q1), (1, .int i26), (2, .int i27), (3, .int i33), (4, .int i29)] [] (k31 i33)) ?_ ?_
    · intro i33
      show V E K mX0_countOfLeast (Qm E K mX0_countOfLeast (zX0_countOfLeast E q1 q5 q7 i2 i3 i4 v6 f8)) (bc) (bs) [(q1, .inr (1, [.int i2, .int i3, .int i4, .ref q5, v6])), (q5, .inr (2, [.ref q7])), (q7, .inl (E.2.1, 81, .inl f8))] 34 [(0, .ref q1), (1, .int i26), (2, .int i27), (3, .int i33), (4, .int i29)] [] _
      refine V_iinc (dX0_countOfLeast 19 rfl) 37 rfl 4 rfl (i29 + (1 : Int32)) rfl [(0, .ref q1), (1, .int i26), (2, .int i27), (3, .int i33), (4, .int (i29 + (1 : Int32)))] (Nat.le_of_ble_eq_true rfl) rfl ?_
      refine V_goto (dX0_countOfLeast 20 rfl) 15 (by decide) ?_
      exact hrec i33 (i29 + (1 : Int32))
    · intro k31 hk32
      refine V_if_eq (dX0_countOfLeast 17 rfl) 34 (by decide) 31 rfl ?_ ?_
      · exact hk32 i28
      · refine V_iinc (dX0_countOfLeast 18 rfl) 34 rfl 3 rfl (i28 + (1 : Int32)) rfl [(0, .ref q1), (1, .int i26), (2, .int i27), (3, .int (i28 + (1 : Int32))), (4, .int i29)] (Nat.le_of_ble_eq_true rfl) rfl ?_
        exact hk32 (i28 + (1 : Int32))
set_option maxRecDepth 20000 in
theorem vLX0_countOfLeast_L15 {E : EX} {K : KX} (hs : K.l.stackTraces = false) (q1 q5 q7 : Nat) (i2 i3 i4 : Int32) (v6 : Value) (f8 : Nat → Int32) (i26 i27 : Int32) (bc bs : Nat)   : ∀ (n : Nat) (i28 i29 : Int32), V E K mX0_countOfLeast (Qm E K mX0_countOfLeast (zX0_countOfLeast E q1 q5 q7 i2 i3 i4 v6 f8)) (bc) (bs) [(q1, .inr (1, [.int i2, .int i3, .int i4, .ref q5, v6])), (q5, .inr (2, [.ref q7])), (q7, .inl (E.2.1, 81, .inl f8))] 15 [(0, .ref q1), (1, .int i26), (2, .int i27), (3, .int i28), (4, .int i29)] [] (LX0_countOfLeast_L15  i2 i3 i4 f8 i26 i27 n i28 i29 )
  | 0, _, _ => V_none
  | n + 1, i28, i29 => vBX0_countOfLeast_L15 hs q1 q5 q7 i2 i3 i4 v6 f8 i26 i27 bc bs i28 i29 (fun i28 i29 => vLX0_countOfLeast_L15 hs q1 q5 q7 i2 i3 i4 v6 f8 i26 i27 bc bs  n i28 i29) 
set_option maxRecDepth 20000 in
theorem kX0_countOfLeast {E : EX} {l : Launch} (hl : l.stackTraces = false) (q1 q5 q7 : Nat) (i2 i3 i4 : Int32) (v6 : Value) (f8 : Nat → Int32) : Ct E l mX0_countOfLeast [.ref q1] [(q1, .inr (1, [.int i2, .int i3, .int i4, .ref q5, v6])), (q5, .inr (2, [.ref q7])), (q7, .inl (E.2.1, 81, .inl f8))] (fX0_countOfLeast i2 i3 i4 f8) (zX0_countOfLeast E q1 q5 q7 i2 i3 i4 v6 f8) := Ct_of hl mf_X0_countOfLeast.1 (Nat.le_of_ble_eq_true rfl) (fun K hs => by
  refine V_less 0 0 (Nat.le_refl _) (Nat.le_refl _) ?_
  refine V_pick [0] [(0, .ref q1)] rfl ?_
  unfold fX0_countOfLeast
  refine V_aload_n (dX0_countOfLeast 0 rfl) 1 rfl 0 rfl ?_
  refine V_callV (M := mX0_countOfLeast) (wcs := [(q1, .inr (1, [.int i2, .int i3, .int i4, .ref q5, v6]))]) (wr := [(q5, .inr (2, [.ref q7])), (q7, .inl (E.2.1, 81, .inl f8))]) mf_X2_allPlaces tw_383 tw_384 tw_385 ⟨Nat.le_of_ble_eq_true rfl, Nat.le_of_ble_eq_true rfl⟩ (dX0_countOfLeast 1 rfl) 4 rfl (kX2_allPlaces hs q1 i2 i3 i4 (.ref q5) v6) rfl [0] [1, 2] (q0 := 0) rfl rfl rfl rfl (by decide) rfl rfl rfl rfl (Nat.le_of_ble_eq_true rfl) 0 0 (show 0 + 0 ≤ 0 from Nat.le_of_ble_eq_true rfl) (show 0 + 0 ≤ 0 from Nat.le_of_ble_eq_true rfl) (fun z9 v w hz => ?_)
  obtain ⟨rfl, rfl⟩ := hz
  show V E K mX0_countOfLeast (Qm E K mX0_countOfLeast (zX0_countOfLeast E q1 q5 q7 i2 i3 i4 v6 f8)) 0 0 [(q5, .inr (2, [.ref q7])), (q7, .inl (E.2.1, 81, .inl f8)), (q1, .inr (1, [.int i2, .int i3, .int i4, .ref q5, v6]))] 4 [(0, .ref q1)] [.int z9] _
  refine V_istore_n (dX0_countOfLeast 2 rfl) 5 rfl [(0, .ref q1), (1, .int z9)] (Nat.le_of_ble_eq_true rfl) rfl ?_
  refine V_aload_n (dX0_countOfLeast 3 rfl) 6 rfl 0 rfl ?_
  refine V_callS (M := mX0_countOfLeast) (wcs := [(q1, .inr (1, [.int i2, .int i3, .int i4, .ref q5, v6])), (q5, .inr (2, [.ref q7])), (q7, .inl (E.2.1, 81, .inl f8))]) (wr := []) mf_X0_leastRoom tw_404 tw_381 ⟨Nat.le_of_ble_eq_true rfl, Nat.le_of_ble_eq_true rfl⟩ (dX0_countOfLeast 4 rfl) 9 rfl (kX0_leastRoom hs q1 q5 q7 i2 i3 i4 v6 f8) rfl [2, 0, 1] [] rfl rfl rfl rfl (by decide) rfl (Nat.le_of_ble_eq_true rfl) 0 0 (show 0 + 0 ≤ 0 from Nat.le_of_ble_eq_true rfl) (show 0 + 0 ≤ 0 from Nat.le_of_ble_eq_true rfl) (fun z10 v w hz => ?_)
  obtain ⟨rfl, rfl⟩ := hz
  show V E K mX0_countOfLeast (Qm E K mX0_countOfLeast (zX0_countOfLeast E q1 q5 q7 i2 i3 i4 v6 f8)) 0 0 [(q1, .inr (1, [.int i2, .int i3, .int i4, .ref q5, v6])), (q5, .inr (2, [.ref q7])), (q7, .inl (E.2.1, 81, .inl f8))] 9 [(0, .ref q1), (1, .int z9)] [.int z10] _
  refine V_istore_n (dX0_countOfLeast 5 rfl) 10 rfl [(0, .ref q1), (1, .int z9), (2, .int z10)] (Nat.le_of_ble_eq_true rfl) rfl ?_
  refine V_iconst (0 : Int32) (by decide) (dX0_countOfLeast 6 rfl) 11 rfl ?_
  refine V_istore_n (dX0_countOfLeast 7 rfl) 12 rfl [(0, .ref q1), (1, .int z9), (2, .int z10), (3, .int (0 : Int32))] (Nat.le_of_ble_eq_true rfl) rfl ?_
  refine V_iconst (0 : Int32) (by decide) (dX0_countOfLeast 8 rfl) 13 rfl ?_
  refine V_istore (dX0_countOfLeast 9 rfl) 15 rfl [(0, .ref q1), (1, .int z9), (2, .int z10), (3, .int (0 : Int32)), (4, .int (0 : Int32))] (Nat.le_of_ble_eq_true rfl) rfl ?_
  refine vLX0_countOfLeast_L15 hs q1 q5 q7 i2 i3 i4 v6 f8 z9 z10 0 0  600 (0 : Int32) (0 : Int32))
set_option maxRecDepth 20000 in
theorem vBX0_leastByNumber_L16 {E : EX} {K : KX} (hs : K.l.stackTraces = false) (q1 q6 q8 : Nat) (i3 i4 i5 : Int32) (v7 : Value) (f9 : Nat → Int32) (i2 i28 i29 : Int32) (bc bs : Nat) (i30 i31 : Int32) {rec : Int32 → Int32 → Option (Int32)}  (hrec : ∀ (i30 i31 : Int32), V E K mX0_leastByNumber (Qm E K mX0_leastByNumber (zX0_leastByNumber E q1 q6 q8 i3 i4 i5 v7 f9)) (bc) (bs) [(q1, .inr (1, [.int i3, .int i4, .int i5, .ref q6, v7])), (q6, .inr (2, [.ref q8])), (q8, .inl (E.2.1, 81, .inl f9))] 16 [(0, .ref q1), (1, .int i2), (2, .int i28), (3, .int i29), (4, .int i30), (5, .int i31)] [] (rec i30 i31))  : V E K mX0_leastByNumber (Qm E K mX0_leastByNumber (zX0_leastByNumber E q1 q6 q8 i3 i4 i5 v7 f9)) (bc) (bs) [(q1, .inr (1, [.int i3, .int i4, .int i5, .ref q6, v7])), (q6, .inr (2, [.ref q8])), (q8, .inl (E.2.1, 81, .inl f9))] 16 [(0, .ref q1), (1, .int i2), (2, .int i28), (3, .int i29), (4, .int i30), (5, .int i31)] [] (BX0_leastByNumber_L16  i3 i4 i5 f9 i2 i28 i29 i30 i31 rec ) := by
  unfold BX0_leastByNumber_L16
  refine V_iload (dX0_leastByNumber 10 rfl) 18 rfl 5 rfl ?_
  refine V_iload_n (dX0_leastByNumber 11 rfl) 19 rfl 2 rfl ?_
  refine V_icmp_gt (dX0_leastByNumber 12 rfl) 50 (by decide) 22 rfl ?_ ?_
  · refine V_iconst (-1 : Int32) (by decide) (dX0_leastByNumber 26 rfl) 51 rfl ?_
    exact V_iret rfl (dX0_leastByNumber 27 rfl) ⟨rfl, rfl⟩
  · refine V_aload_n (dX0_leastByNumber 13 rfl) 23 rfl 0 rfl ?_
    refine V_iload (dX0_leastByNumber 14 rfl) 25 rfl 5 rfl ?_
    refine V_iload_n (dX0_leastByNumber 15 rfl) 26 rfl 3 rfl ?_
    refine V_callS (M := mX0_leastByNumber) (wcs := [(q1, .inr (1, [.int i3, .int i4, .int i5, .ref q6, v7])), (q6, .inr (2, [.ref q8])), (q8, .inl (E.2.1, 81, .inl f9))]) (wr := []) mf_X0_isLeastCut tw_405 tw_406 ⟨Nat.le_of_ble_eq_true rfl, Nat.le_of_ble_eq_true rfl⟩ (dX0_leastByNumber 16 rfl) 29 rfl (kX0_isLeastCut hs q1 q6 q8 i3 i4 i5 v7 f9 i31 i29) rfl [0, 1, 2] [] rfl rfl rfl rfl (by decide) rfl (Nat.le_of_ble_eq_true rfl) (bc) (bs) (show (bc) + 0 ≤ (bc) by omega) (show (bs) + 0 ≤ (bs) by omega) (fun z32 v w hz => ?_)
    obtain ⟨rfl, rfl⟩ := hz
    show V E K mX0_leastByNumber (Qm E K mX0_leastByNumber (zX0_leastByNumber E q1 q6 q8 i3 i4 i5 v7 f9)) (bc) (bs) [(q1, .inr (1, [.int i3, .int i4, .int i5, .ref q6, v7])), (q6, .inr (2, [.ref q8])), (q8, .inl (E.2.1, 81, .inl f9))] 29 [(0, .ref q1), (1, .int i2), (2, .int i28), (3, .int i29), (4, .int i30), (5, .int i31)] [.int z32] _
    refine V_jn (fun (k33 : Int32 → Option (Int32)) => ∀ (i35 : Int32), V E K mX0_leastByNumber (Qm E K mX0_leastByNumber (zX0_leastByNumber E q1 q6 q8 i3 i4 i5 v7 f9)) (bc) (bs) [(q1, .inr (1, [.int i3, .int i4, .int i5, .ref q6, v7])), (q6, .inr (2, [.ref q8])), (q8, .inl (E.2.1, 81, .inl f9))] 44 [(0, .ref q1), (1, .int i2), (2, .int i28), (3, .int i29), (4, .int i35), (5, .int i31)] [] (k33 i35)) ?_ ?_
    · intro i35
      show V E K mX0_leastByNumber (Qm E K mX0_leastByNumber (zX0_leastByNumber E q1 q6 q8 i3 i4 i5 v7 f9)) (bc) (bs) [(q1, .inr (1, [.int i3, .int i4, .int i5, .ref q6, v7])), (q6, .inr (2, [.ref q8])), (q8, .inl (E.2.1, 81, .inl f9))] 44 [(0, .ref q1), (1, .int i2), (2, .int i28), (3, .int i29), (4, .int i35), (5, .int i31)] [] _
      refine V_iinc (dX0_leastByNumber 24 rfl) 47 rfl 5 rfl (i31 + (1 : Int32)) rfl [(0, .ref q1), (1, .int i2), (2, .int i28), (3, .int i29), (4, .int i35), (5, .int (i31 + (1 : Int32)))] (Nat.le_of_ble_eq_true rfl) rfl ?_
      refine V_goto (dX0_leastByNumber 25 rfl) 16 (by decide) ?_
      exact hrec i35 (i31 + (1 : Int32))
    · intro k33 hk34
      refine V_if_eq (dX0_leastByNumber 17 rfl) 44 (by decide) 32 rfl ?_ ?_
      · exact hk34 i30
      · refine V_iload (dX0_leastByNumber 18 rfl) 34 rfl 4 rfl ?_
        refine V_iload_n (dX0_leastByNumber 19 rfl) 35 rfl 1 rfl ?_
        refine V_icmp_ne (dX0_leastByNumber 20 rfl) 41 (by decide) 38 rfl ?_ ?_
        · refine V_iinc (dX0_leastByNumber 23 rfl) 44 rfl 4 rfl (i30 + (1 : Int32)) rfl [(0, .ref q1), (1, .int i2), (2, .int i28), (3, .int i29), (4, .int (i30 + (1 : Int32))), (5, .int i31)] (Nat.le_of_ble_eq_true rfl) rfl ?_
          exact hk34 (i30 + (1 : Int32))
        · refine V_iload (dX0_leastByNumber 21 rfl) 40 rfl 5 rfl ?_
          exact V_iret rfl (dX0_leastByNumber 22 rfl) ⟨rfl, rfl⟩
set_option maxRecDepth 20000 in
theorem vLX0_leastByNumber_L16 {E : EX} {K : KX} (hs : K.l.stackTraces = false) (q1 q6 q8 : Nat) (i3 i4 i5 : Int32) (v7 : Value) (f9 : Nat → Int32) (i2 i28 i29 : Int32) (bc bs : Nat)   : ∀ (n : Nat) (i30 i31 : Int32), V E K mX0_leastByNumber (Qm E K mX0_leastByNumber (zX0_leastByNumber E q1 q6 q8 i3 i4 i5 v7 f9)) (bc) (bs) [(q1, .inr (1, [.int i3, .int i4, .int i5, .ref q6, v7])), (q6, .inr (2, [.ref q8])), (q8, .inl (E.2.1, 81, .inl f9))] 16 [(0, .ref q1), (1, .int i2), (2, .int i28), (3, .int i29), (4, .int i30), (5, .int i31)] [] (LX0_leastByNumber_L16  i3 i4 i5 f9 i2 i28 i29 n i30 i31 )
  | 0, _, _ => V_none
  | n + 1, i30, i31 => vBX0_leastByNumber_L16 hs q1 q6 q8 i3 i4 i5 v7 f9 i2 i28 i29 bc bs i30 i31 (fun i30 i31 => vLX0_leastByNumber_L16 hs q1 q6 q8 i3 i4 i5 v7 f9 i2 i28 i29 bc bs  n i30 i31) 
set_option maxRecDepth 20000 in
theorem kX0_leastByNumber {E : EX} {l : Launch} (hl : l.stackTraces = false) (q1 q6 q8 : Nat) (i3 i4 i5 : Int32) (v7 : Value) (f9 : Nat → Int32) (i2 : Int32) : Ct E l mX0_leastByNumber [.ref q1, .int i2] [(q1, .inr (1, [.int i3, .int i4, .int i5, .ref q6, v7])), (q6, .inr (2, [.ref q8])), (q8, .inl (E.2.1, 81, .inl f9))] (fX0_leastByNumber i3 i4 i5 f9 i2) (zX0_leastByNumber E q1 q6 q8 i3 i4 i5 v7 f9) := Ct_of hl mf_X0_leastByNumber.1 (Nat.le_of_ble_eq_true rfl) (fun K hs => by
  refine V_less 0 0 (Nat.le_refl _) (Nat.le_refl _) ?_
  refine V_pick [0, 1] [(0, .ref q1), (1, .int i2)] rfl ?_
  unfold fX0_leastByNumber
  refine V_aload_n (dX0_leastByNumber 0 rfl) 1 rfl 0 rfl ?_
  refine V_callV (M := mX0_leastByNumber) (wcs := [(q1, .inr (1, [.int i3, .int i4, .int i5, .ref q6, v7]))]) (wr := [(q6, .inr (2, [.ref q8])), (q8, .inl (E.2.1, 81, .inl f9))]) mf_X2_allPlaces tw_383 tw_384 tw_385 ⟨Nat.le_of_ble_eq_true rfl, Nat.le_of_ble_eq_true rfl⟩ (dX0_leastByNumber 1 rfl) 4 rfl (kX2_allPlaces hs q1 i3 i4 i5 (.ref q6) v7) rfl [0] [1, 2] (q0 := 0) rfl rfl rfl rfl (by decide) rfl rfl rfl rfl (Nat.le_of_ble_eq_true rfl) 0 0 (show 0 + 0 ≤ 0 from Nat.le_of_ble_eq_true rfl) (show 0 + 0 ≤ 0 from Nat.le_of_ble_eq_true rfl) (fun z10 v w hz => ?_)
  obtain ⟨rfl, rfl⟩ := hz
  show V E K mX0_leastByNumber (Qm E K mX0_leastByNumber (zX0_leastByNumber E q1 q6 q8 i3 i4 i5 v7 f9)) 0 0 [(q6, .inr (2, [.ref q8])), (q8, .inl (E.2.1, 81, .inl f9)), (q1, .inr (1, [.int i3, .int i4, .int i5, .ref q6, v7]))] 4 [(0, .ref q1), (1, .int i2)] [.int z10] _
  refine V_istore_n (dX0_leastByNumber 2 rfl) 5 rfl [(0, .ref q1), (1, .int i2), (2, .int z10)] (Nat.le_of_ble_eq_true rfl) rfl ?_
  refine V_aload_n (dX0_leastByNumber 3 rfl) 6 rfl 0 rfl ?_
  refine V_callS (M := mX0_leastByNumber) (wcs := [(q1, .inr (1, [.int i3, .int i4, .int i5, .ref q6, v7])), (q6, .inr (2, [.ref q8])), (q8, .inl (E.2.1, 81, .inl f9))]) (wr := []) mf_X0_leastRoom tw_404 tw_381 ⟨Nat.le_of_ble_eq_true rfl, Nat.le_of_ble_eq_true rfl⟩ (dX0_leastByNumber 4 rfl) 9 rfl (kX0_leastRoom hs q1 q6 q8 i3 i4 i5 v7 f9) rfl [2, 0, 1] [] rfl rfl rfl rfl (by decide) rfl (Nat.le_of_ble_eq_true rfl) 0 0 (show 0 + 0 ≤ 0 from Nat.le_of_ble_eq_true rfl) (show 0 + 0 ≤ 0 from Nat.le_of_ble_eq_true rfl) (fun z11 v w hz => ?_)
  obtain ⟨rfl, rfl⟩ := hz
  show V E K mX0_leastByNumber (Qm E K mX0_leastByNumber (zX0_leastByNumber E q1 q6 q8 i3 i4 i5 v7 f9)) 0 0 [(q1, .inr (1, [.int i3, .int i4, .int i5, .ref q6, v7])), (q6, .inr (2, [.ref q8])), (q8, .inl (E.2.1, 81, .inl f9))] 9 [(0, .ref q1), (1, .int i2), (2, .int z10)] [.int z11] _
  refine V_istore_n (dX0_leastByNumber 5 rfl) 10 rfl [(0, .ref q1), (1, .int i2), (2, .int z10), (3, .int z11)] (Nat.le_of_ble_eq_true rfl) rfl ?_
  refine V_iconst (0 : Int32) (by decide) (dX0_leastByNumber 6 rfl) 11 rfl ?_
  refine V_istore (dX0_leastByNumber 7 rfl) 13 rfl [(0, .ref q1), (1, .int i2), (2, .int z10), (3, .int z11), (4, .int (0 : Int32))] (Nat.le_of_ble_eq_true rfl) rfl ?_
  refine V_iconst (0 : Int32) (by decide) (dX0_leastByNumber 8 rfl) 14 rfl ?_
  refine V_istore (dX0_leastByNumber 9 rfl) 16 rfl [(0, .ref q1), (1, .int i2), (2, .int z10), (3, .int z11), (4, .int (0 : Int32)), (5, .int (0 : Int32))] (Nat.le_of_ble_eq_true rfl) rfl ?_
  refine vLX0_leastByNumber_L16 hs q1 q6 q8 i3 i4 i5 v7 f9 i2 z10 z11 0 0  600 (0 : Int32) (0 : Int32))
set_option maxRecDepth 20000 in
theorem vBX0_nearest_L15 {E : EX} {K : KX} (hs : K.l.stackTraces = false) (q1 q5 q7 : Nat) (i2 i3 i4 : Int32) (v6 : Value) (f8 : Nat → Int32) (i27 i28 : Int32) (bc bs : Nat) (i29 i30 : Int32) {rec : Int32 → Int32 → Option (Int32)}  (hrec : ∀ (i29 i30 : Int32), V E K mX0_nearest (Qm E K mX0_nearest (zX0_nearest E q1 q5 q7 i2 i3 i4 v6 f8)) (bc) (bs) [(q1, .inr (1, [.int i2, .int i3, .int i4, .ref q5, v6])), (q5, .inr (2, [.ref q7])), (q7, .inl (E.2.1, 81, .inl f8))] 15 [(0, .ref q1), (1, .int i27), (2, .int i28), (3, .int i29), (4, .int i30)] [] (rec i29 i30))  : V E K mX0_nearest (Qm E K mX0_nearest (zX0_nearest E q1 q5 q7 i2 i3 i4 v6 f8)) (bc) (bs) [(q1, .inr (1, [.int i2, .int i3, .int i4, .ref q5, v6])), (q5, .inr (2, [.ref q7])), (q7, .inl (E.2.1, 81, .inl f8))] 15 [(0, .ref q1), (1, .int i27), (2, .int i28), (3, .int i29), (4, .int i30)] [] (BX0_nearest_L15  i2 i3 i4 f8 i27 i28 i29 i30 rec ) := by
  unfold BX0_nearest_L15
  refine V_iload (dX0_nearest 10 rfl) 17 rfl 4 rfl ?_
  refine V_iload_n (dX0_nearest 11 rfl) 18 rfl 2 rfl ?_
  refine V_icmp_gt (dX0_nearest 12 rfl) 42 (by decide) 21 rfl ?_ ?_
  · refine V_iload_n (dX0_nearest 24 rfl) 43 rfl 3 rfl ?_
    exact V_iret rfl (dX0_nearest 25 rfl) ⟨rfl, rfl⟩
  · refine V_aload_n (dX0_nearest 13 rfl) 22 rfl 0 rfl ?_
    refine V_iload (dX0_nearest 14 rfl) 24 rfl 4 rfl ?_
    refine V_iload_n (dX0_nearest 15 rfl) 25 rfl 1 rfl ?_
    refine V_callS (M := mX0_nearest) (wcs := [(q1, .inr (1, [.int i2, .int i3, .int i4, .ref q5, v6])), (q5, .inr (2, [.ref q7])), (q7, .inl (E.2.1, 81, .inl f8))]) (wr := []) mf_X0_isLeastCut tw_405 tw_406 ⟨Nat.le_of_ble_eq_true rfl, Nat.le_of_ble_eq_true rfl⟩ (dX0_nearest 16 rfl) 28 rfl (kX0_isLeastCut hs q1 q5 q7 i2 i3 i4 v6 f8 i30 i27) rfl [0, 1, 2] [] rfl rfl rfl rfl (by decide) rfl (Nat.le_of_ble_eq_true rfl) (bc) (bs) (show (bc) + 0 ≤ (bc) by omega) (show (bs) + 0 ≤ (bs) by omega) (fun z31 v w hz => ?_)
    obtain ⟨rfl, rfl⟩ := hz
    show V E K mX0_nearest (Qm E K mX0_nearest (zX0_nearest E q1 q5 q7 i2 i3 i4 v6 f8)) (bc) (bs) [(q1, .inr (1, [.int i2, .int i3, .int i4, .ref q5, v6])), (q5, .inr (2, [.ref q7])), (q7, .inl (E.2.1, 81, .inl f8))] 28 [(0, .ref q1), (1, .int i27), (2, .int i28), (3, .int i29), (4, .int i30)] [.int z31] _
    refine V_jn (fun (k32 : Int32 → Option (Int32)) => ∀ (i35 : Int32), V E K mX0_nearest (Qm E K mX0_nearest (zX0_nearest E q1 q5 q7 i2 i3 i4 v6 f8)) (bc) (bs) [(q1, .inr (1, [.int i2, .int i3, .int i4, .ref q5, v6])), (q5, .inr (2, [.ref q7])), (q7, .inl (E.2.1, 81, .inl f8))] 36 [(0, .ref q1), (1, .int i27), (2, .int i28), (3, .int i35), (4, .int i30)] [] (k32 i35)) ?_ ?_
    · intro i35
      show V E K mX0_nearest (Qm E K mX0_nearest (zX0_nearest E q1 q5 q7 i2 i3 i4 v6 f8)) (bc) (bs) [(q1, .inr (1, [.int i2, .int i3, .int i4, .ref q5, v6])), (q5, .inr (2, [.ref q7])), (q7, .inl (E.2.1, 81, .inl f8))] 36 [(0, .ref q1), (1, .int i27), (2, .int i28), (3, .int i35), (4, .int i30)] [] _
      refine V_iinc (dX0_nearest 22 rfl) 39 rfl 4 rfl (i30 + (1 : Int32)) rfl [(0, .ref q1), (1, .int i27), (2, .int i28), (3, .int i35), (4, .int (i30 + (1 : Int32)))] (Nat.le_of_ble_eq_true rfl) rfl ?_
      refine V_goto (dX0_nearest 23 rfl) 15 (by decide) ?_
      exact hrec i35 (i30 + (1 : Int32))
    · intro k32 hk33
      refine V_if_eq (dX0_nearest 17 rfl) 36 (by decide) 31 rfl ?_ ?_
      · exact hk33 i29
      · refine V_iload_n (dX0_nearest 18 rfl) 32 rfl 3 rfl ?_
        refine V_iload (dX0_nearest 19 rfl) 34 rfl 4 rfl ?_
        refine V_iand (dX0_nearest 20 rfl) 35 rfl ?_
        refine V_nmI (fun i34 => ?_)
        refine V_istore_n (dX0_nearest 21 rfl) 36 rfl [(0, .ref q1), (1, .int i27), (2, .int i28), (3, .int i34), (4, .int i30)] (Nat.le_of_ble_eq_true rfl) rfl ?_
        exact hk33 i34
set_option maxRecDepth 20000 in
theorem vLX0_nearest_L15 {E : EX} {K : KX} (hs : K.l.stackTraces = false) (q1 q5 q7 : Nat) (i2 i3 i4 : Int32) (v6 : Value) (f8 : Nat → Int32) (i27 i28 : Int32) (bc bs : Nat)   : ∀ (n : Nat) (i29 i30 : Int32), V E K mX0_nearest (Qm E K mX0_nearest (zX0_nearest E q1 q5 q7 i2 i3 i4 v6 f8)) (bc) (bs) [(q1, .inr (1, [.int i2, .int i3, .int i4, .ref q5, v6])), (q5, .inr (2, [.ref q7])), (q7, .inl (E.2.1, 81, .inl f8))] 15 [(0, .ref q1), (1, .int i27), (2, .int i28), (3, .int i29), (4, .int i30)] [] (LX0_nearest_L15  i2 i3 i4 f8 i27 i28 n i29 i30 )
  | 0, _, _ => V_none
  | n + 1, i29, i30 => vBX0_nearest_L15 hs q1 q5 q7 i2 i3 i4 v6 f8 i27 i28 bc bs i29 i30 (fun i29 i30 => vLX0_nearest_L15 hs q1 q5 q7 i2 i3 i4 v6 f8 i27 i28 bc bs  n i29 i30) 
set_option maxRecDepth 20000 in
theorem kX0_nearest {E : EX} {l : Launch} (hl : l.stackTraces = false) (q1 q5 q7 : Nat) (i2 i3 i4 : Int32) (v6 : Value) (f8 : Nat → Int32) : Ct E l mX0_nearest [.ref q1] [(q1, .inr (1, [.int i2, .int i3, .int i4, .ref q5, v6])), (q5, .inr (2, [.ref q7])), (q7, .inl (E.2.1, 81, .inl f8))] (fX0_nearest i2 i3 i4 f8) (zX0_nearest E q1 q5 q7 i2 i3 i4 v6 f8) := Ct_of hl mf_X0_nearest.1 (Nat.le_of_ble_eq_true rfl) (fun K hs => by
  refine V_less 0 0 (Nat.le_refl _) (Nat.le_refl _) ?_
  refine V_pick [0] [(0, .ref q1)] rfl ?_
  unfold fX0_nearest
  refine V_aload_n (dX0_nearest 0 rfl) 1 rfl 0 rfl ?_
  refine V_callS (M := mX0_nearest) (wcs := [(q1, .inr (1, [.int i2, .int i3, .int i4, .ref q5, v6])), (q5, .inr (2, [.ref q7])), (q7, .inl (E.2.1, 81, .inl f8))]) (wr := []) mf_X0_leastRoom tw_404 tw_381 ⟨Nat.le_of_ble_eq_true rfl, Nat.le_of_ble_eq_true rfl⟩ (dX0_nearest 1 rfl) 4 rfl (kX0_leastRoom hs q1 q5 q7 i2 i3 i4 v6 f8) rfl [0, 1, 2] [] rfl rfl rfl rfl (by decide) rfl (Nat.le_of_ble_eq_true rfl) 0 0 (show 0 + 0 ≤ 0 from Nat.le_of_ble_eq_true rfl) (show 0 + 0 ≤ 0 from Nat.le_of_ble_eq_true rfl) (fun z9 v w hz => ?_)
  obtain ⟨rfl, rfl⟩ := hz
  show V E K mX0_nearest (Qm E K mX0_nearest (zX0_nearest E q1 q5 q7 i2 i3 i4 v6 f8)) 0 0 [(q1, .inr (1, [.int i2, .int i3, .int i4, .ref q5, v6])), (q5, .inr (2, [.ref q7])), (q7, .inl (E.2.1, 81, .inl f8))] 4 [(0, .ref q1)] [.int z9] _
  refine V_istore_n (dX0_nearest 2 rfl) 5 rfl [(0, .ref q1), (1, .int z9)] (Nat.le_of_ble_eq_true rfl) rfl ?_
  refine V_aload_n (dX0_nearest 3 rfl) 6 rfl 0 rfl ?_
  refine V_callV (M := mX0_nearest) (wcs := [(q1, .inr (1, [.int i2, .int i3, .int i4, .ref q5, v6]))]) (wr := [(q5, .inr (2, [.ref q7])), (q7, .inl (E.2.1, 81, .inl f8))]) mf_X2_allPlaces tw_383 tw_384 tw_385 ⟨Nat.le_of_ble_eq_true rfl, Nat.le_of_ble_eq_true rfl⟩ (dX0_nearest 4 rfl) 9 rfl (kX2_allPlaces hs q1 i2 i3 i4 (.ref q5) v6) rfl [0] [1, 2] (q0 := 0) rfl rfl rfl rfl (by decide) rfl rfl rfl rfl (Nat.le_of_ble_eq_true rfl) 0 0 (show 0 + 0 ≤ 0 from Nat.le_of_ble_eq_true rfl) (show 0 + 0 ≤ 0 from Nat.le_of_ble_eq_true rfl) (fun z10 v w hz => ?_)
  obtain ⟨rfl, rfl⟩ := hz
  show V E K mX0_nearest (Qm E K mX0_nearest (zX0_nearest E q1 q5 q7 i2 i3 i4 v6 f8)) 0 0 [(q5, .inr (2, [.ref q7])), (q7, .inl (E.2.1, 81, .inl f8)), (q1, .inr (1, [.int i2, .int i3, .int i4, .ref q5, v6]))] 9 [(0, .ref q1), (1, .int z9)] [.int z10] _
  refine V_istore_n (dX0_nearest 5 rfl) 10 rfl [(0, .ref q1), (1, .int z9), (2, .int z10)] (Nat.le_of_ble_eq_true rfl) rfl ?_
  refine V_iload_n (dX0_nearest 6 rfl) 11 rfl 2 rfl ?_
  refine V_istore_n (dX0_nearest 7 rfl) 12 rfl [(0, .ref q1), (1, .int z9), (2, .int z10), (3, .int z10)] (Nat.le_of_ble_eq_true rfl) rfl ?_
  refine V_iconst (0 : Int32) (by decide) (dX0_nearest 8 rfl) 13 rfl ?_
  refine V_istore (dX0_nearest 9 rfl) 15 rfl [(0, .ref q1), (1, .int z9), (2, .int z10), (3, .int z10), (4, .int (0 : Int32))] (Nat.le_of_ble_eq_true rfl) rfl ?_
  refine V_world [2, 0, 1] [(q1, .inr (1, [.int i2, .int i3, .int i4, .ref q5, v6])), (q5, .inr (2, [.ref q7])), (q7, .inl (E.2.1, 81, .inl f8))] rfl rfl rfl ?_
  refine vLX0_nearest_L15 hs q1 q5 q7 i2 i3 i4 v6 f8 z9 z10 0 0  600 z10 (0 : Int32))
set_option maxRecDepth 20000 in
theorem vBX0_farthest_L15 {E : EX} {K : KX} (hs : K.l.stackTraces = false) (q1 q5 q7 : Nat) (i2 i3 i4 : Int32) (v6 : Value) (f8 : Nat → Int32) (i27 i28 : Int32) (bc bs : Nat) (i29 i30 : Int32) {rec : Int32 → Int32 → Option (Int32)}  (hrec : ∀ (i29 i30 : Int32), V E K mX0_farthest (Qm E K mX0_farthest (zX0_farthest E q1 q5 q7 i2 i3 i4 v6 f8)) (bc) (bs) [(q1, .inr (1, [.int i2, .int i3, .int i4, .ref q5, v6])), (q5, .inr (2, [.ref q7])), (q7, .inl (E.2.1, 81, .inl f8))] 15 [(0, .ref q1), (1, .int i27), (2, .int i28), (3, .int i29), (4, .int i30)] [] (rec i29 i30))  : V E K mX0_farthest (Qm E K mX0_farthest (zX0_farthest E q1 q5 q7 i2 i3 i4 v6 f8)) (bc) (bs) [(q1, .inr (1, [.int i2, .int i3, .int i4, .ref q5, v6])), (q5, .inr (2, [.ref q7])), (q7, .inl (E.2.1, 81, .inl f8))] 15 [(0, .ref q1), (1, .int i27), (2, .int i28), (3, .int i29), (4, .int i30)] [] (BX0_farthest_L15  i2 i3 i4 f8 i27 i28 i29 i30 rec ) := by
  unfold BX0_farthest_L15
  refine V_iload (dX0_farthest 10 rfl) 17 rfl 4 rfl ?_
  refine V_iload_n (dX0_farthest 11 rfl) 18 rfl 1 rfl ?_
  refine V_icmp_gt (dX0_farthest 12 rfl) 42 (by decide) 21 rfl ?_ ?_
  · refine V_iload_n (dX0_farthest 24 rfl) 43 rfl 3 rfl ?_
    exact V_iret rfl (dX0_farthest 25 rfl) ⟨rfl, rfl⟩
  · refine V_aload_n (dX0_farthest 13 rfl) 22 rfl 0 rfl ?_
    refine V_iload (dX0_farthest 14 rfl) 24 rfl 4 rfl ?_
    refine V_iload_n (dX0_farthest 15 rfl) 25 rfl 2 rfl ?_
    refine V_callS (M := mX0_farthest) (wcs := [(q1, .inr (1, [.int i2, .int i3, .int i4, .ref q5, v6])), (q5, .inr (2, [.ref q7])), (q7, .inl (E.2.1, 81, .inl f8))]) (wr := []) mf_X0_isLeastCut tw_405 tw_406 ⟨Nat.le_of_ble_eq_true rfl, Nat.le_of_ble_eq_true rfl⟩ (dX0_farthest 16 rfl) 28 rfl (kX0_isLeastCut hs q1 q5 q7 i2 i3 i4 v6 f8 i30 i28) rfl [0, 1, 2] [] rfl rfl rfl rfl (by decide) rfl (Nat.le_of_ble_eq_true rfl) (bc) (bs) (show (bc) + 0 ≤ (bc) by omega) (show (bs) + 0 ≤ (bs) by omega) (fun z31 v w hz => ?_)
    obtain ⟨rfl, rfl⟩ := hz
    show V E K mX0_farthest (Qm E K mX0_farthest (zX0_farthest E q1 q5 q7 i2 i3 i4 v6 f8)) (bc) (bs) [(q1, .inr (1, [.int i2, .int i3, .int i4, .ref q5, v6])), (q5, .inr (2, [.ref q7])), (q7, .inl (E.2.1, 81, .inl f8))] 28 [(0, .ref q1), (1, .int i27), (2, .int i28), (3, .int i29), (4, .int i30)] [.int z31] _
    refine V_jn (fun (k32 : Int32 → Option (Int32)) => ∀ (i35 : Int32), V E K mX0_farthest (Qm E K mX0_farthest (zX0_farthest E q1 q5 q7 i2 i3 i4 v6 f8)) (bc) (bs) [(q1, .inr (1, [.int i2, .int i3, .int i4, .ref q5, v6])), (q5, .inr (2, [.ref q7])), (q7, .inl (E.2.1, 81, .inl f8))] 36 [(0, .ref q1), (1, .int i27), (2, .int i28), (3, .int i35), (4, .int i30)] [] (k32 i35)) ?_ ?_
    · intro i35
      show V E K mX0_farthest (Qm E K mX0_farthest (zX0_farthest E q1 q5 q7 i2 i3 i4 v6 f8)) (bc) (bs) [(q1, .inr (1, [.int i2, .int i3, .int i4, .ref q5, v6])), (q5, .inr (2, [.ref q7])), (q7, .inl (E.2.1, 81, .inl f8))] 36 [(0, .ref q1), (1, .int i27), (2, .int i28), (3, .int i35), (4, .int i30)] [] _
      refine V_iinc (dX0_farthest 22 rfl) 39 rfl 4 rfl (i30 + (1 : Int32)) rfl [(0, .ref q1), (1, .int i27), (2, .int i28), (3, .int i35), (4, .int (i30 + (1 : Int32)))] (Nat.le_of_ble_eq_true rfl) rfl ?_
      refine V_goto (dX0_farthest 23 rfl) 15 (by decide) ?_
      exact hrec i35 (i30 + (1 : Int32))
    · intro k32 hk33
      refine V_if_eq (dX0_farthest 17 rfl) 36 (by decide) 31 rfl ?_ ?_
      · exact hk33 i29
      · refine V_iload_n (dX0_farthest 18 rfl) 32 rfl 3 rfl ?_
        refine V_iload (dX0_farthest 19 rfl) 34 rfl 4 rfl ?_
        refine V_ior (dX0_farthest 20 rfl) 35 rfl ?_
        refine V_nmI (fun i34 => ?_)
        refine V_istore_n (dX0_farthest 21 rfl) 36 rfl [(0, .ref q1), (1, .int i27), (2, .int i28), (3, .int i34), (4, .int i30)] (Nat.le_of_ble_eq_true rfl) rfl ?_
        exact hk33 i34
set_option maxRecDepth 20000 in
theorem vLX0_farthest_L15 {E : EX} {K : KX} (hs : K.l.stackTraces = false) (q1 q5 q7 : Nat) (i2 i3 i4 : Int32) (v6 : Value) (f8 : Nat → Int32) (i27 i28 : Int32) (bc bs : Nat)   : ∀ (n : Nat) (i29 i30 : Int32), V E K mX0_farthest (Qm E K mX0_farthest (zX0_farthest E q1 q5 q7 i2 i3 i4 v6 f8)) (bc) (bs) [(q1, .inr (1, [.int i2, .int i3, .int i4, .ref q5, v6])), (q5, .inr (2, [.ref q7])), (q7, .inl (E.2.1, 81, .inl f8))] 15 [(0, .ref q1), (1, .int i27), (2, .int i28), (3, .int i29), (4, .int i30)] [] (LX0_farthest_L15  i2 i3 i4 f8 i27 i28 n i29 i30 )
  | 0, _, _ => V_none
  | n + 1, i29, i30 => vBX0_farthest_L15 hs q1 q5 q7 i2 i3 i4 v6 f8 i27 i28 bc bs i29 i30 (fun i29 i30 => vLX0_farthest_L15 hs q1 q5 q7 i2 i3 i4 v6 f8 i27 i28 bc bs  n i29 i30) 
set_option maxRecDepth 20000 in
theorem kX0_farthest {E : EX} {l : Launch} (hl : l.stackTraces = false) (q1 q5 q7 : Nat) (i2 i3 i4 : Int32) (v6 : Value) (f8 : Nat → Int32) : Ct E l mX0_farthest [.ref q1] [(q1, .inr (1, [.int i2, .int i3, .int i4, .ref q5, v6])), (q5, .inr (2, [.ref q7])), (q7, .inl (E.2.1, 81, .inl f8))] (fX0_farthest i2 i3 i4 f8) (zX0_farthest E q1 q5 q7 i2 i3 i4 v6 f8) := Ct_of hl mf_X0_farthest.1 (Nat.le_of_ble_eq_true rfl) (fun K hs => by
  refine V_less 0 0 (Nat.le_refl _) (Nat.le_refl _) ?_
  refine V_pick [0] [(0, .ref q1)] rfl ?_
  unfold fX0_farthest
  refine V_aload_n (dX0_farthest 0 rfl) 1 rfl 0 rfl ?_
  refine V_callV (M := mX0_farthest) (wcs := [(q1, .inr (1, [.int i2, .int i3, .int i4, .ref q5, v6]))]) (wr := [(q5, .inr (2, [.ref q7])), (q7, .inl (E.2.1, 81, .inl f8))]) mf_X2_allPlaces tw_383 tw_384 tw_385 ⟨Nat.le_of_ble_eq_true rfl, Nat.le_of_ble_eq_true rfl⟩ (dX0_farthest 1 rfl) 4 rfl (kX2_allPlaces hs q1 i2 i3 i4 (.ref q5) v6) rfl [0] [1, 2] (q0 := 0) rfl rfl rfl rfl (by decide) rfl rfl rfl rfl (Nat.le_of_ble_eq_true rfl) 0 0 (show 0 + 0 ≤ 0 from Nat.le_of_ble_eq_true rfl) (show 0 + 0 ≤ 0 from Nat.le_of_ble_eq_true rfl) (fun z9 v w hz => ?_)
  obtain ⟨rfl, rfl⟩ := hz
  show V E K mX0_farthest (Qm E K mX0_farthest (zX0_farthest E q1 q5 q7 i2 i3 i4 v6 f8)) 0 0 [(q5, .inr (2, [.ref q7])), (q7, .inl (E.2.1, 81, .inl f8)), (q1, .inr (1, [.int i2, .int i3, .int i4, .ref q5, v6]))] 4 [(0, .ref q1)] [.int z9] _
  refine V_istore_n (dX0_farthest 2 rfl) 5 rfl [(0, .ref q1), (1, .int z9)] (Nat.le_of_ble_eq_true rfl) rfl ?_
  refine V_aload_n (dX0_farthest 3 rfl) 6 rfl 0 rfl ?_
  refine V_callS (M := mX0_farthest) (wcs := [(q1, .inr (1, [.int i2, .int i3, .int i4, .ref q5, v6])), (q5, .inr (2, [.ref q7])), (q7, .inl (E.2.1, 81, .inl f8))]) (wr := []) mf_X0_leastRoom tw_404 tw_381 ⟨Nat.le_of_ble_eq_true rfl, Nat.le_of_ble_eq_true rfl⟩ (dX0_farthest 4 rfl) 9 rfl (kX0_leastRoom hs q1 q5 q7 i2 i3 i4 v6 f8) rfl [2, 0, 1] [] rfl rfl rfl rfl (by decide) rfl (Nat.le_of_ble_eq_true rfl) 0 0 (show 0 + 0 ≤ 0 from Nat.le_of_ble_eq_true rfl) (show 0 + 0 ≤ 0 from Nat.le_of_ble_eq_true rfl) (fun z10 v w hz => ?_)
  obtain ⟨rfl, rfl⟩ := hz
  show V E K mX0_farthest (Qm E K mX0_farthest (zX0_farthest E q1 q5 q7 i2 i3 i4 v6 f8)) 0 0 [(q1, .inr (1, [.int i2, .int i3, .int i4, .ref q5, v6])), (q5, .inr (2, [.ref q7])), (q7, .inl (E.2.1, 81, .inl f8))] 9 [(0, .ref q1), (1, .int z9)] [.int z10] _
  refine V_istore_n (dX0_farthest 5 rfl) 10 rfl [(0, .ref q1), (1, .int z9), (2, .int z10)] (Nat.le_of_ble_eq_true rfl) rfl ?_
  refine V_iconst (0 : Int32) (by decide) (dX0_farthest 6 rfl) 11 rfl ?_
  refine V_istore_n (dX0_farthest 7 rfl) 12 rfl [(0, .ref q1), (1, .int z9), (2, .int z10), (3, .int (0 : Int32))] (Nat.le_of_ble_eq_true rfl) rfl ?_
  refine V_iconst (0 : Int32) (by decide) (dX0_farthest 8 rfl) 13 rfl ?_
  refine V_istore (dX0_farthest 9 rfl) 15 rfl [(0, .ref q1), (1, .int z9), (2, .int z10), (3, .int (0 : Int32)), (4, .int (0 : Int32))] (Nat.le_of_ble_eq_true rfl) rfl ?_
  refine vLX0_farthest_L15 hs q1 q5 q7 i2 i3 i4 v6 f8 z9 z10 0 0  600 (0 : Int32) (0 : Int32))
set_option maxRecDepth 20000 in
theorem vBX0_letEachThrough_L7 {E : EX} {K : KX} (hs : K.l.stackTraces = false) (q1 q7 q8 : Nat) (i3 i4 i5 : Int32) (v6 : Value) (f9 : Nat → Int32) (i2 i25 : Int32) (bc bs : Nat) (i26 : Int32) {rec : Int32 → Option (Int32)}  (hrec : ∀ (i26 : Int32), V E K mX0_letEachThrough (Qm E K mX0_letEachThrough (zX0_letEachThrough E q1 q7 q8 i3 i4 i5 v6 f9)) (bc) (bs) [(q1, .inr (1, [.int i3, .int i4, .int i5, v6, .ref q7])), (q7, .inr (2, [.ref q8])), (q8, .inl (E.2.1, 81, .inl f9))] 7 [(0, .ref q1), (1, .int i2), (2, .int i25), (3, .int i26)] [] (rec i26))  : V E K mX0_letEachThrough (Qm E K mX0_letEachThrough (zX0_letEachThrough E q1 q7 q8 i3 i4 i5 v6 f9)) (bc) (bs) [(q1, .inr (1, [.int i3, .int i4, .int i5, v6, .ref q7])), (q7, .inr (2, [.ref q8])), (q8, .inl (E.2.1, 81, .inl f9))] 7 [(0, .ref q1), (1, .int i2), (2, .int i25), (3, .int i26)] [] (BX0_letEachThrough_L7  i3 i4 i5 f9 i2 i25 i26 rec ) := by
  unfold BX0_letEachThrough_L7
  refine V_iload_n (dX0_letEachThrough 5 rfl) 8 rfl 3 rfl ?_
  refine V_iload_n (dX0_letEachThrough 6 rfl) 9 rfl 2 rfl ?_
  refine V_icmp_gt (dX0_letEachThrough 7 rfl) 41 (by decide) 12 rfl ?_ ?_
  · refine V_iconst (1 : Int32) (by decide) (dX0_letEachThrough 23 rfl) 42 rfl ?_
    exact V_zret rfl (by decide) (dX0_letEachThrough 24 rfl) ⟨rfl, rfl⟩
  · refine V_aload_n (dX0_letEachThrough 8 rfl) 13 rfl 0 rfl ?_
    refine V_iload_n (dX0_letEachThrough 9 rfl) 14 rfl 3 rfl ?_
    refine V_callS (M := mX0_letEachThrough) (wcs := [(q1, .inr (1, [.int i3, .int i4, .int i5, v6, .ref q7]))]) (wr := [(q7, .inr (2, [.ref q8])), (q8, .inl (E.2.1, 81, .inl f9))]) mf_X0_isCut tw_388 tw_389 ⟨Nat.le_of_ble_eq_true rfl, Nat.le_of_ble_eq_true rfl⟩ (dX0_letEachThrough 10 rfl) 17 rfl (kX0_isCut hs q1 i3 i4 i5 v6 (.ref q7) i26) rfl [0] [1, 2] rfl rfl rfl rfl (by decide) rfl (Nat.le_of_ble_eq_true rfl) (bc) (bs) (show (bc) + 0 ≤ (bc) by omega) (show (bs) + 0 ≤ (bs) by omega) (fun z27 v w hz => ?_)
    obtain ⟨rfl, rfl⟩ := hz
    show V E K mX0_letEachThrough (Qm E K mX0_letEachThrough (zX0_letEachThrough E q1 q7 q8 i3 i4 i5 v6 f9)) (bc) (bs) [(q7, .inr (2, [.ref q8])), (q8, .inl (E.2.1, 81, .inl f9)), (q1, .inr (1, [.int i3, .int i4, .int i5, v6, .ref q7]))] 17 [(0, .ref q1), (1, .int i2), (2, .int i25), (3, .int i26)] [.int z27] _
    refine V_jn (fun (k28 : Unit → Option (Int32)) => ∀ (_ : Unit), V E K mX0_letEachThrough (Qm E K mX0_letEachThrough (zX0_letEachThrough E q1 q7 q8 i3 i4 i5 v6 f9)) (bc) (bs) [(q1, .inr (1, [.int i3, .int i4, .int i5, v6, .ref q7])), (q7, .inr (2, [.ref q8])), (q8, .inl (E.2.1, 81, .inl f9))] 35 [(0, .ref q1), (1, .int i2), (2, .int i25), (3, .int i26)] [] (k28 ())) ?_ ?_
    · intro _
      show V E K mX0_letEachThrough (Qm E K mX0_letEachThrough (zX0_letEachThrough E q1 q7 q8 i3 i4 i5 v6 f9)) (bc) (bs) [(q1, .inr (1, [.int i3, .int i4, .int i5, v6, .ref q7])), (q7, .inr (2, [.ref q8])), (q8, .inl (E.2.1, 81, .inl f9))] 35 [(0, .ref q1), (1, .int i2), (2, .int i25), (3, .int i26)] [] _
      refine V_iinc (dX0_letEachThrough 21 rfl) 38 rfl 3 rfl (i26 + (1 : Int32)) rfl [(0, .ref q1), (1, .int i2), (2, .int i25), (3, .int (i26 + (1 : Int32)))] (Nat.le_of_ble_eq_true rfl) rfl ?_
      refine V_goto (dX0_letEachThrough 22 rfl) 7 (by decide) ?_
      exact hrec (i26 + (1 : Int32))
    · intro k28 hk29
      refine V_if_eq (dX0_letEachThrough 11 rfl) 35 (by decide) 20 rfl ?_ ?_
      · refine V_world [2, 0, 1] [(q1, .inr (1, [.int i3, .int i4, .int i5, v6, .ref q7])), (q7, .inr (2, [.ref q8])), (q8, .inl (E.2.1, 81, .inl f9))] rfl rfl rfl ?_
        exact hk29 ()
      · refine V_aload_n (dX0_letEachThrough 12 rfl) 21 rfl 0 rfl ?_
        refine V_aload_n (dX0_letEachThrough 13 rfl) 22 rfl 0 rfl ?_
        refine V_getN gf_C_63 2 rfl rfl (dX0_letEachThrough 14 rfl) 25 rfl ?_
        refine V_iload_n (dX0_letEachThrough 15 rfl) 26 rfl 3 rfl ?_
        refine V_callS (M := mX0_letEachThrough) (wcs := [(q1, .inr (1, [.int i3, .int i4, .int i5, v6, .ref q7])), (q7, .inr (2, [.ref q8])), (q8, .inl (E.2.1, 81, .inl f9))]) (wr := []) mf_X0_sumAcross tw_392 tw_393 ⟨Nat.le_of_ble_eq_true rfl, Nat.le_of_ble_eq_true rfl⟩ (dX0_letEachThrough 16 rfl) 29 rfl (kX0_sumAcross hs q1 q7 q8 i3 i4 i5 v6 (.ref q7) f9 i26) rfl [2, 0, 1] [] rfl rfl rfl rfl (by decide) rfl (Nat.le_of_ble_eq_true rfl) (bc) (bs) (show (bc) + 0 ≤ (bc) by omega) (show (bs) + 0 ≤ (bs) by omega) (fun z30 v w hz => ?_)
        obtain ⟨rfl, rfl⟩ := hz
        show V E K mX0_letEachThrough (Qm E K mX0_letEachThrough (zX0_letEachThrough E q1 q7 q8 i3 i4 i5 v6 f9)) (bc) (bs) [(q1, .inr (1, [.int i3, .int i4, .int i5, v6, .ref q7])), (q7, .inr (2, [.ref q8])), (q8, .inl (E.2.1, 81, .inl f9))] 29 [(0, .ref q1), (1, .int i2), (2, .int i25), (3, .int i26)] [.int z30] _
        refine V_iload_n (dX0_letEachThrough 17 rfl) 30 rfl 1 rfl ?_
        refine V_icmp_eq (dX0_letEachThrough 18 rfl) 35 (by decide) 33 rfl ?_ ?_
        · exact hk29 ()
        · refine V_iconst (0 : Int32) (by decide) (dX0_letEachThrough 19 rfl) 34 rfl ?_
          exact V_zret rfl (by decide) (dX0_letEachThrough 20 rfl) ⟨rfl, rfl⟩
set_option maxRecDepth 20000 in
theorem vLX0_letEachThrough_L7 {E : EX} {K : KX} (hs : K.l.stackTraces = false) (q1 q7 q8 : Nat) (i3 i4 i5 : Int32) (v6 : Value) (f9 : Nat → Int32) (i2 i25 : Int32) (bc bs : Nat)   : ∀ (n : Nat) (i26 : Int32), V E K mX0_letEachThrough (Qm E K mX0_letEachThrough (zX0_letEachThrough E q1 q7 q8 i3 i4 i5 v6 f9)) (bc) (bs) [(q1, .inr (1, [.int i3, .int i4, .int i5, v6, .ref q7])), (q7, .inr (2, [.ref q8])), (q8, .inl (E.2.1, 81, .inl f9))] 7 [(0, .ref q1), (1, .int i2), (2, .int i25), (3, .int i26)] [] (LX0_letEachThrough_L7  i3 i4 i5 f9 i2 i25 n i26 )
  | 0, _ => V_none
  | n + 1, i26 => vBX0_letEachThrough_L7 hs q1 q7 q8 i3 i4 i5 v6 f9 i2 i25 bc bs i26 (fun i26 => vLX0_letEachThrough_L7 hs q1 q7 q8 i3 i4 i5 v6 f9 i2 i25 bc bs  n i26) 
set_option maxRecDepth 20000 in
theorem kX0_letEachThrough {E : EX} {l : Launch} (hl : l.stackTraces = false) (q1 q7 q8 : Nat) (i3 i4 i5 : Int32) (v6 : Value) (f9 : Nat → Int32) (i2 : Int32) : Ct E l mX0_letEachThrough [.ref q1, .int i2] [(q1, .inr (1, [.int i3, .int i4, .int i5, v6, .ref q7])), (q7, .inr (2, [.ref q8])), (q8, .inl (E.2.1, 81, .inl f9))] (fX0_letEachThrough i3 i4 i5 f9 i2) (zX0_letEachThrough E q1 q7 q8 i3 i4 i5 v6 f9) := Ct_of hl mf_X0_letEachThrough.1 (Nat.le_of_ble_eq_true rfl) (fun K hs => by
  refine V_less 0 0 (Nat.le_refl _) (Nat.le_refl _) ?_
  refine V_pick [0, 1] [(0, .ref q1), (1, .int i2)] rfl ?_
  unfold fX0_letEachThrough
  refine V_aload_n (dX0_letEachThrough 0 rfl) 1 rfl 0 rfl ?_
  refine V_callV (M := mX0_letEachThrough) (wcs := [(q1, .inr (1, [.int i3, .int i4, .int i5, v6, .ref q7]))]) (wr := [(q7, .inr (2, [.ref q8])), (q8, .inl (E.2.1, 81, .inl f9))]) mf_X2_allPlaces tw_383 tw_384 tw_385 ⟨Nat.le_of_ble_eq_true rfl, Nat.le_of_ble_eq_true rfl⟩ (dX0_letEachThrough 1 rfl) 4 rfl (kX2_allPlaces hs q1 i3 i4 i5 v6 (.ref q7)) rfl [0] [1, 2] (q0 := 0) rfl rfl rfl rfl (by decide) rfl rfl rfl rfl (Nat.le_of_ble_eq_true rfl) 0 0 (show 0 + 0 ≤ 0 from Nat.le_of_ble_eq_true rfl) (show 0 + 0 ≤ 0 from Nat.le_of_ble_eq_true rfl) (fun z10 v w hz => ?_)
  obtain ⟨rfl, rfl⟩ := hz
  show V E K mX0_letEachThrough (Qm E K mX0_letEachThrough (zX0_letEachThrough E q1 q7 q8 i3 i4 i5 v6 f9)) 0 0 [(q7, .inr (2, [.ref q8])), (q8, .inl (E.2.1, 81, .inl f9)), (q1, .inr (1, [.int i3, .int i4, .int i5, v6, .ref q7]))] 4 [(0, .ref q1), (1, .int i2)] [.int z10] _
  refine V_istore_n (dX0_letEachThrough 2 rfl) 5 rfl [(0, .ref q1), (1, .int i2), (2, .int z10)] (Nat.le_of_ble_eq_true rfl) rfl ?_
  refine V_iconst (0 : Int32) (by decide) (dX0_letEachThrough 3 rfl) 6 rfl ?_
  refine V_istore_n (dX0_letEachThrough 4 rfl) 7 rfl [(0, .ref q1), (1, .int i2), (2, .int z10), (3, .int (0 : Int32))] (Nat.le_of_ble_eq_true rfl) rfl ?_
  refine V_world [2, 0, 1] [(q1, .inr (1, [.int i3, .int i4, .int i5, v6, .ref q7])), (q7, .inr (2, [.ref q8])), (q8, .inl (E.2.1, 81, .inl f9))] rfl rfl rfl ?_
  refine vLX0_letEachThrough_L7 hs q1 q7 q8 i3 i4 i5 v6 f9 i2 z10 0 0  600 (0 : Int32))
set_option maxRecDepth 20000 in
theorem kX3_init {E : EX} {l : Launch} (hl : l.stackTraces = false) (q1 : Nat) (v2 : Value) (i3 i4 : Int32) : Ct E l mX3_init [.ref q1] [(q1, .inr (5, [v2, .int i3, .int i4]))] (fX3_init ) (zX3_init E q1 i3 i4) := Ct_of hl mf_X3_init.1 (Nat.le_of_ble_eq_true rfl) (fun K hs => by
  refine V_less 2 12 (Nat.le_refl _) (Nat.le_refl _) ?_
  refine V_pick [0] [(0, .ref q1)] rfl ?_
  unfold fX3_init
  refine V_aload_n (dX3_init 0 rfl) 1 rfl 0 rfl ?_
  refine V_objinit tw_191 tw_98 tw_99 (Nat.le_of_ble_eq_true rfl) (Nat.le_of_ble_eq_true rfl) (dX3_init 1 rfl) 4 rfl ?_
  refine V_aload_n (dX3_init 2 rfl) 5 rfl 0 rfl ?_
  refine V_new nf_P_9 (dX3_init 3 rfl) 8 rfl 1 10 (show 1 + 1 ≤ 2 from Nat.le_of_ble_eq_true rfl) (show 10 + 2 ≤ 12 from Nat.le_of_ble_eq_true rfl) (fun q5 => ?_)
  refine V_eqW (ws2 := [(q1, .inr (5, [v2, .int i3, .int i4])), (q5, .inr (4, [.null, .int (0 : Int32)]))]) rfl ?_
  refine V_dup rfl (dX3_init 4 rfl) 9 rfl ?_
  refine V_callIN (M := mX3_init) (wcs := [(q5, .inr (4, [.null, .int (0 : Int32)]))]) (wr := [(q1, .inr (5, [v2, .int i3, .int i4]))]) mf_X4_init rfl rfl (show (_, _, _, "Brookmill") ∈ nestM by decide +kernel) tw_161 ⟨Nat.le_of_ble_eq_true rfl, Nat.le_of_ble_eq_true rfl⟩ (dX3_init 5 rfl) 12 rfl (kX4_init hs q5 .null (0 : Int32)) rfl [1] [0] rfl rfl rfl rfl (by decide) rfl (Nat.le_of_ble_eq_true rfl) 0 0 (show 0 + 1 ≤ 1 from Nat.le_of_ble_eq_true rfl) (show 0 + 10 ≤ 10 from Nat.le_of_ble_eq_true rfl) (fun z6 v w hz => ?_)
  obtain ⟨q7, rfl, rfl⟩ := hz
  show V E K mX3_init (Qm E K mX3_init (zX3_init E q1 i3 i4)) 0 0 [(q1, .inr (5, [v2, .int i3, .int i4])), (q5, .inr (4, [.ref q7, .int (0 : Int32)])), (q7, .inl (E.2.1, 10, .inl (fun _ => 0)))] 12 [(0, .ref q1)] [.ref q5, .ref q1] _
  refine V_putF pf_P_12 rfl 0 rfl rfl rfl (Nat.le_of_ble_eq_true rfl) (dX3_init 6 rfl) 15 rfl [(q1, .inr (5, [.ref q5, .int i3, .int i4])), (q5, .inr (4, [.ref q7, .int (0 : Int32)])), (q7, .inl (E.2.1, 10, .inl (fun _ => 0)))] rfl ?_
  exact V_vret rfl (dX3_init 7 rfl) ⟨q5, q7, rfl, rfl⟩)
set_option maxRecDepth 20000 in
theorem vBX3_leastFlow_L5 {E : EX} {K : KX} (hs : K.l.stackTraces = false) (q1 q3 q6 q2 q13 q14 : Nat) (i4 i5 i7 : Int32) (f8 : Nat → Int32) (i9 i10 i11 : Int32) (v12 : Value) (f15 : Nat → Int32) (bc bs : Nat) (i35 i36 : Int32) {rec : Int32 → Int32 → Option (Int32)}  (hrec : ∀ (i35 i36 : Int32), V E K mX3_leastFlow (Qm E K mX3_leastFlow (zX3_leastFlow E q1 q3 q6 q2 q13 q14 i4 i5 i7 f8 i9 i10 i11 v12 f15)) (bc) (bs) [(q1, .inr (5, [.ref q3, .int i4, .int i5])), (q3, .inr (4, [.ref q6, .int i7])), (q6, .inl (E.2.1, 10, .inl f8)), (q2, .inr (1, [.int i9, .int i10, .int i11, v12, .ref q13])), (q13, .inr (2, [.ref q14])), (q14, .inl (E.2.1, 81, .inl f15))] 5 [(0, .ref q1), (1, .ref q2), (2, .int i35), (3, .int i36)] [] (rec i35 i36))  : V E K mX3_leastFlow (Qm E K mX3_leastFlow (zX3_leastFlow E q1 q3 q6 q2 q13 q14 i4 i5 i7 f8 i9 i10 i11 v12 f15)) (bc) (bs) [(q1, .inr (5, [.ref q3, .int i4, .int i5])), (q3, .inr (4, [.ref q6, .int i7])), (q6, .inl (E.2.1, 10, .inl f8)), (q2, .inr (1, [.int i9, .int i10, .int i11, v12, .ref q13])), (q13, .inr (2, [.ref q14])), (q14, .inl (E.2.1, 81, .inl f15))] 5 [(0, .ref q1), (1, .ref q2), (2, .int i35), (3, .int i36)] [] (BX3_leastFlow_L5  i7 f8 f15 i35 i36 rec ) := by
  unfold BX3_leastFlow_L5
  refine V_iload_n (dX3_leastFlow 4 rfl) 6 rfl 3 rfl ?_
  refine V_aload_n (dX3_leastFlow 5 rfl) 7 rfl 0 rfl ?_
  refine V_get gf_P_12 0 rfl rfl (dX3_leastFlow 6 rfl) 10 rfl ?_
  refine V_getN gf_P_87 1 rfl rfl (dX3_leastFlow 7 rfl) 13 rfl ?_
  refine V_icmp_ge (dX3_leastFlow 8 rfl) 52 (by decide) 16 rfl ?_ ?_
  · refine V_iload_n (dX3_leastFlow 27 rfl) 53 rfl 2 rfl ?_
    exact V_iret rfl (dX3_leastFlow 28 rfl) ⟨rfl, rfl⟩
  · refine V_iload_n (dX3_leastFlow 9 rfl) 17 rfl 2 rfl ?_
    refine V_aload_n (dX3_leastFlow 10 rfl) 18 rfl 1 rfl ?_
    refine V_getN gf_P_77 3 rfl rfl (dX3_leastFlow 11 rfl) 21 rfl ?_
    refine V_aload_n (dX3_leastFlow 12 rfl) 22 rfl 0 rfl ?_
    refine V_get gf_P_12 0 rfl rfl (dX3_leastFlow 13 rfl) 25 rfl ?_
    refine V_iload_n (dX3_leastFlow 14 rfl) 26 rfl 3 rfl ?_
    refine V_iconst (1 : Int32) (by decide) (dX3_leastFlow 15 rfl) 27 rfl ?_
    refine V_isub (dX3_leastFlow 16 rfl) 28 rfl ?_
    refine V_callV (M := mX3_leastFlow) (wcs := [(q3, .inr (4, [.ref q6, .int i7])), (q6, .inl (E.2.1, 10, .inl f8))]) (wr := [(q1, .inr (5, [.ref q3, .int i4, .int i5])), (q2, .inr (1, [.int i9, .int i10, .int i11, v12, .ref q13])), (q13, .inr (2, [.ref q14])), (q14, .inl (E.2.1, 81, .inl f15))]) mf_X4_at tw_335 tw_336 tw_337 ⟨Nat.le_of_ble_eq_true rfl, Nat.le_of_ble_eq_true rfl⟩ (dX3_leastFlow 17 rfl) 31 rfl (kX4_at hs q3 q6 i7 f8 (i36 - (1 : Int32))) rfl [1, 2] [0, 3, 4, 5] (q0 := 0) rfl rfl rfl rfl (by decide) rfl rfl rfl rfl (Nat.le_of_ble_eq_true rfl) (bc) (bs) (show (bc) + 0 ≤ (bc) by omega) (show (bs) + 0 ≤ (bs) by omega) (fun z37 v w hz => ?_)
    obtain ⟨rfl, rfl⟩ := hz
    show V E K mX3_leastFlow (Qm E K mX3_leastFlow (zX3_leastFlow E q1 q3 q6 q2 q13 q14 i4 i5 i7 f8 i9 i10 i11 v12 f15)) (bc) (bs) [(q1, .inr (5, [.ref q3, .int i4, .int i5])), (q2, .inr (1, [.int i9, .int i10, .int i11, v12, .ref q13])), (q13, .inr (2, [.ref q14])), (q14, .inl (E.2.1, 81, .inl f15)), (q3, .inr (4, [.ref q6, .int i7])), (q6, .inl (E.2.1, 10, .inl f8))] 31 [(0, .ref q1), (1, .ref q2), (2, .int i35), (3, .int i36)] [.int z37, .ref q13, .int i35] _
    refine V_aload_n (dX3_leastFlow 18 rfl) 32 rfl 0 rfl ?_
    refine V_get gf_P_12 0 rfl rfl (dX3_leastFlow 19 rfl) 35 rfl ?_
    refine V_iload_n (dX3_leastFlow 20 rfl) 36 rfl 3 rfl ?_
    refine V_callV (M := mX3_leastFlow) (wcs := [(q3, .inr (4, [.ref q6, .int i7])), (q6, .inl (E.2.1, 10, .inl f8))]) (wr := [(q1, .inr (5, [.ref q3, .int i4, .int i5])), (q2, .inr (1, [.int i9, .int i10, .int i11, v12, .ref q13])), (q13, .inr (2, [.ref q14])), (q14, .inl (E.2.1, 81, .inl f15))]) mf_X4_at tw_335 tw_336 tw_337 ⟨Nat.le_of_ble_eq_true rfl, Nat.le_of_ble_eq_true rfl⟩ (dX3_leastFlow 21 rfl) 39 rfl (kX4_at hs q3 q6 i7 f8 i36) rfl [4, 5] [0, 1, 2, 3] (q0 := 0) rfl rfl rfl rfl (by decide) rfl rfl rfl rfl (Nat.le_of_ble_eq_true rfl) (bc) (bs) (show (bc) + 0 ≤ (bc) by omega) (show (bs) + 0 ≤ (bs) by omega) (fun z38 v w hz => ?_)
    obtain ⟨rfl, rfl⟩ := hz
    show V E K mX3_leastFlow (Qm E K mX3_leastFlow (zX3_leastFlow E q1 q3 q6 q2 q13 q14 i4 i5 i7 f8 i9 i10 i11 v12 f15)) (bc) (bs) [(q1, .inr (5, [.ref q3, .int i4, .int i5])), (q2, .inr (1, [.int i9, .int i10, .int i11, v12, .ref q13])), (q13, .inr (2, [.ref q14])), (q14, .inl (E.2.1, 81, .inl f15)), (q3, .inr (4, [.ref q6, .int i7])), (q6, .inl (E.2.1, 10, .inl f8))] 39 [(0, .ref q1), (1, .ref q2), (2, .int i35), (3, .int i36)] [.int z38, .int z37, .ref q13, .int i35] _
    refine V_callV (M := mX3_leastFlow) (wcs := [(q13, .inr (2, [.ref q14])), (q14, .inl (E.2.1, 81, .inl f15))]) (wr := [(q1, .inr (5, [.ref q3, .int i4, .int i5])), (q2, .inr (1, [.int i9, .int i10, .int i11, v12, .ref q13])), (q3, .inr (4, [.ref q6, .int i7])), (q6, .inl (E.2.1, 10, .inl f8))]) mf_X1_at tw_339 tw_290 tw_291 ⟨Nat.le_of_ble_eq_true rfl, Nat.le_of_ble_eq_true rfl⟩ (dX3_leastFlow 22 rfl) 42 rfl (kX1_at hs q13 q14 f15 z37 z38) rfl [2, 3] [0, 1, 4, 5] (q0 := 0) rfl rfl rfl rfl (by decide) rfl rfl rfl rfl (Nat.le_of_ble_eq_true rfl) (bc) (bs) (show (bc) + 0 ≤ (bc) by omega) (show (bs) + 0 ≤ (bs) by omega) (fun z39 v w hz => ?_)
    obtain ⟨rfl, rfl⟩ := hz
    show V E K mX3_leastFlow (Qm E K mX3_leastFlow (zX3_leastFlow E q1 q3 q6 q2 q13 q14 i4 i5 i7 f8 i9 i10 i11 v12 f15)) (bc) (bs) [(q1, .inr (5, [.ref q3, .int i4, .int i5])), (q2, .inr (1, [.int i9, .int i10, .int i11, v12, .ref q13])), (q3, .inr (4, [.ref q6, .int i7])), (q6, .inl (E.2.1, 10, .inl f8)), (q13, .inr (2, [.ref q14])), (q14, .inl (E.2.1, 81, .inl f15))] 42 [(0, .ref q1), (1, .ref q2), (2, .int i35), (3, .int i36)] [.int z39, .int i35] _
    refine V_mmin tw_340 tw_341 tw_82 tw_342 (Nat.le_of_ble_eq_true rfl) (Nat.le_of_ble_eq_true rfl) (dX3_leastFlow 23 rfl) 45 rfl ?_
    refine V_nmI (fun i40 => ?_)
    refine V_istore_n (dX3_leastFlow 24 rfl) 46 rfl [(0, .ref q1), (1, .ref q2), (2, .int i40), (3, .int i36)] (Nat.le_of_ble_eq_true rfl) rfl ?_
    refine V_iinc (dX3_leastFlow 25 rfl) 49 rfl 3 rfl (i36 + (1 : Int32)) rfl [(0, .ref q1), (1, .ref q2), (2, .int i40), (3, .int (i36 + (1 : Int32)))] (Nat.le_of_ble_eq_true rfl) rfl ?_
    refine V_goto (dX3_leastFlow 26 rfl) 5 (by decide) ?_
    refine V_world [0, 2, 3, 1, 4, 5] [(q1, .inr (5, [.ref q3, .int i4, .int i5])), (q3, .inr (4, [.ref q6, .int i7])), (q6, .inl (E.2.1, 10, .inl f8)), (q2, .inr (1, [.int i9, .int i10, .int i11, v12, .ref q13])), (q13, .inr (2, [.ref q14])), (q14, .inl (E.2.1, 81, .inl f15))] rfl rfl rfl ?_
    exact hrec i40 (i36 + (1 : Int32))
set_option maxRecDepth 20000 in
theorem vLX3_leastFlow_L5 {E : EX} {K : KX} (hs : K.l.stackTraces = false) (q1 q3 q6 q2 q13 q14 : Nat) (i4 i5 i7 : Int32) (f8 : Nat → Int32) (i9 i10 i11 : Int32) (v12 : Value) (f15 : Nat → Int32) (bc bs : Nat)   : ∀ (n : Nat) (i35 i36 : Int32), V E K mX3_leastFlow (Qm E K mX3_leastFlow (zX3_leastFlow E q1 q3 q6 q2 q13 q14 i4 i5 i7 f8 i9 i10 i11 v12 f15)) (bc) (bs) [(q1, .inr (5, [.ref q3, .int i4, .int i5])), (q3, .inr (4, [.ref q6, .int i7])), (q6, .inl (E.2.1, 10, .inl f8)), (q2, .inr (1, [.int i9, .int i10, .int i11, v12, .ref q13])), (q13, .inr (2, [.ref q14])), (q14, .inl (E.2.1, 81, .inl f15))] 5 [(0, .ref q1), (1, .ref q2), (2, .int i35), (3, .int i36)] [] (LX3_leastFlow_L5  i7 f8 f15 n i35 i36 )
  | 0, _, _ => V_none
  | n + 1, i35, i36 => vBX3_leastFlow_L5 hs q1 q3 q6 q2 q13 q14 i4 i5 i7 f8 i9 i10 i11 v12 f15 bc bs i35 i36 (fun i35 i36 => vLX3_leastFlow_L5 hs q1 q3 q6 q2 q13 q14 i4 i5 i7 f8 i9 i10 i11 v12 f15 bc bs  n i35 i36) 
set_option maxRecDepth 20000 in
theorem kX3_leastFlow {E : EX} {l : Launch} (hl : l.stackTraces = false) (q1 q2 q3 q6 q13 q14 : Nat) (i4 i5 i7 : Int32) (f8 : Nat → Int32) (i9 i10 i11 : Int32) (v12 : Value) (f15 : Nat → Int32) : Ct E l mX3_leastFlow [.ref q1, .ref q2] [(q1, .inr (5, [.ref q3, .int i4, .int i5])), (q3, .inr (4, [.ref q6, .int i7])), (q6, .inl (E.2.1, 10, .inl f8)), (q2, .inr (1, [.int i9, .int i10, .int i11, v12, .ref q13])), (q13, .inr (2, [.ref q14])), (q14, .inl (E.2.1, 81, .inl f15))] (fX3_leastFlow i7 f8 f15) (zX3_leastFlow E q1 q3 q6 q2 q13 q14 i4 i5 i7 f8 i9 i10 i11 v12 f15) := Ct_of hl mf_X3_leastFlow.1 (Nat.le_of_ble_eq_true rfl) (fun K hs => by
  refine V_less 0 0 (Nat.le_refl _) (Nat.le_refl _) ?_
  refine V_pick [0, 1] [(0, .ref q1), (1, .ref q2)] rfl ?_
  unfold fX3_leastFlow
  refine V_ldc (M := mX3_leastFlow) (v := (2147483647 : Int32)) tw_334 (dX3_leastFlow 0 rfl) 2 rfl ?_
  refine V_istore_n (dX3_leastFlow 1 rfl) 3 rfl [(0, .ref q1), (1, .ref q2), (2, .int (2147483647 : Int32))] (Nat.le_of_ble_eq_true rfl) rfl ?_
  refine V_iconst (1 : Int32) (by decide) (dX3_leastFlow 2 rfl) 4 rfl ?_
  refine V_istore_n (dX3_leastFlow 3 rfl) 5 rfl [(0, .ref q1), (1, .ref q2), (2, .int (2147483647 : Int32)), (3, .int (1 : Int32))] (Nat.le_of_ble_eq_true rfl) rfl ?_
  refine vLX3_leastFlow_L5 hs q1 q3 q6 q2 q13 q14 i4 i5 i7 f8 i9 i10 i11 v12 f15 0 0  12 (2147483647 : Int32) (1 : Int32))
set_option maxRecDepth 20000 in
theorem vBX3_next_L2 {E : EX} {K : KX} (hs : K.l.stackTraces = false) (q1 q7 q8 : Nat) (i3 i4 i5 : Int32) (v6 : Value) (f9 : Nat → Int32) (i2 : Int32) (bc bs : Nat) (i20 : Int32) {rec : Int32 → Option (Int32)}  (hrec : ∀ (i20 : Int32), V E K mX3_next (Qm E K mX3_next (zX3_next E q1 q7 q8 i3 i4 i5 v6 f9)) (bc) (bs) [(q1, .inr (1, [.int i3, .int i4, .int i5, v6, .ref q7])), (q7, .inr (2, [.ref q8])), (q8, .inl (E.2.1, 81, .inl f9))] 2 [(0, .ref q1), (1, .int i2), (2, .int i20)] [] (rec i20))  : V E K mX3_next (Qm E K mX3_next (zX3_next E q1 q7 q8 i3 i4 i5 v6 f9)) (bc) (bs) [(q1, .inr (1, [.int i3, .int i4, .int i5, v6, .ref q7])), (q7, .inr (2, [.ref q8])), (q8, .inl (E.2.1, 81, .inl f9))] 2 [(0, .ref q1), (1, .int i2), (2, .int i20)] [] (BX3_next_L2  i3 f9 i2 i20 rec ) := by
  unfold BX3_next_L2
  refine V_iload_n (dX3_next 2 rfl) 3 rfl 2 rfl ?_
  refine V_aload_n (dX3_next 3 rfl) 4 rfl 0 rfl ?_
  refine V_getN gf_P_35 0 rfl rfl (dX3_next 4 rfl) 7 rfl ?_
  refine V_icmp_ge (dX3_next 5 rfl) 30 (by decide) 10 rfl ?_ ?_
  · refine V_iconst (-1 : Int32) (by decide) (dX3_next 16 rfl) 31 rfl ?_
    exact V_iret rfl (dX3_next 17 rfl) ⟨rfl, rfl⟩
  · refine V_aload_n (dX3_next 6 rfl) 11 rfl 0 rfl ?_
    refine V_getN gf_P_77 0 rfl rfl (dX3_next 7 rfl) 14 rfl ?_
    refine V_iload_n (dX3_next 8 rfl) 15 rfl 1 rfl ?_
    refine V_iload_n (dX3_next 9 rfl) 16 rfl 2 rfl ?_
    refine V_callV (M := mX3_next) (wcs := [(q7, .inr (2, [.ref q8])), (q8, .inl (E.2.1, 81, .inl f9))]) (wr := [(q1, .inr (1, [.int i3, .int i4, .int i5, v6, .ref q7]))]) mf_X1_at tw_339 tw_290 tw_291 ⟨Nat.le_of_ble_eq_true rfl, Nat.le_of_ble_eq_true rfl⟩ (dX3_next 10 rfl) 19 rfl (kX1_at hs q7 q8 f9 i2 i20) rfl [1, 2] [0] (q0 := 0) rfl rfl rfl rfl (by decide) rfl rfl rfl rfl (Nat.le_of_ble_eq_true rfl) (bc) (bs) (show (bc) + 0 ≤ (bc) by omega) (show (bs) + 0 ≤ (bs) by omega) (fun z21 v w hz => ?_)
    obtain ⟨rfl, rfl⟩ := hz
    show V E K mX3_next (Qm E K mX3_next (zX3_next E q1 q7 q8 i3 i4 i5 v6 f9)) (bc) (bs) [(q1, .inr (1, [.int i3, .int i4, .int i5, v6, .ref q7])), (q7, .inr (2, [.ref q8])), (q8, .inl (E.2.1, 81, .inl f9))] 19 [(0, .ref q1), (1, .int i2), (2, .int i20)] [.int z21] _
    refine V_if_le (dX3_next 11 rfl) 24 (by decide) 22 rfl ?_ ?_
    · refine V_iinc (dX3_next 14 rfl) 27 rfl 2 rfl (i20 + (1 : Int32)) rfl [(0, .ref q1), (1, .int i2), (2, .int (i20 + (1 : Int32)))] (Nat.le_of_ble_eq_true rfl) rfl ?_
      refine V_goto (dX3_next 15 rfl) 2 (by decide) ?_
      exact hrec (i20 + (1 : Int32))
    · refine V_iload_n (dX3_next 12 rfl) 23 rfl 2 rfl ?_
      exact V_iret rfl (dX3_next 13 rfl) ⟨rfl, rfl⟩
set_option maxRecDepth 20000 in
theorem vLX3_next_L2 {E : EX} {K : KX} (hs : K.l.stackTraces = false) (q1 q7 q8 : Nat) (i3 i4 i5 : Int32) (v6 : Value) (f9 : Nat → Int32) (i2 : Int32) (bc bs : Nat)   : ∀ (n : Nat) (i20 : Int32), V E K mX3_next (Qm E K mX3_next (zX3_next E q1 q7 q8 i3 i4 i5 v6 f9)) (bc) (bs) [(q1, .inr (1, [.int i3, .int i4, .int i5, v6, .ref q7])), (q7, .inr (2, [.ref q8])), (q8, .inl (E.2.1, 81, .inl f9))] 2 [(0, .ref q1), (1, .int i2), (2, .int i20)] [] (LX3_next_L2  i3 f9 i2 n i20 )
  | 0, _ => V_none
  | n + 1, i20 => vBX3_next_L2 hs q1 q7 q8 i3 i4 i5 v6 f9 i2 bc bs i20 (fun i20 => vLX3_next_L2 hs q1 q7 q8 i3 i4 i5 v6 f9 i2 bc bs  n i20) 
set_option maxRecDepth 20000 in
theorem kX3_next {E : EX} {l : Launch} (hl : l.stackTraces = false) (q1 q7 q8 : Nat) (i3 i4 i5 : Int32) (v6 : Value) (f9 : Nat → Int32) (i2 : Int32) : Ct E l mX3_next [.ref q1, .int i2] [(q1, .inr (1, [.int i3, .int i4, .int i5, v6, .ref q7])), (q7, .inr (2, [.ref q8])), (q8, .inl (E.2.1, 81, .inl f9))] (fX3_next i3 f9 i2) (zX3_next E q1 q7 q8 i3 i4 i5 v6 f9) := Ct_of hl mf_X3_next.1 (Nat.le_of_ble_eq_true rfl) (fun K hs => by
  refine V_less 0 0 (Nat.le_refl _) (Nat.le_refl _) ?_
  refine V_pick [0, 1] [(0, .ref q1), (1, .int i2)] rfl ?_
  unfold fX3_next
  refine V_iconst (0 : Int32) (by decide) (dX3_next 0 rfl) 1 rfl ?_
  refine V_istore_n (dX3_next 1 rfl) 2 rfl [(0, .ref q1), (1, .int i2), (2, .int (0 : Int32))] (Nat.le_of_ble_eq_true rfl) rfl ?_
  refine vLX3_next_L2 hs q1 q7 q8 i3 i4 i5 v6 f9 i2 0 0  12 (0 : Int32))
set_option maxRecDepth 20000 in
theorem vBX3_walk_L16 {E : EX} {K : KX} (hs : K.l.stackTraces = false) (q1 q6 q9 q2 q16 q17 : Nat) (i12 i13 i14 : Int32) (v15 : Value) (f18 : Nat → Int32) (i4 i5 i7 i8 : Int32) (bc bs : Nat) (i42 i43 i44 i45 : Int32) (f46 : Nat → Int32) {rec : Int32 → Int32 → Int32 → Int32 → (Nat → Int32) → Option (Int32 × Int32 × Int32 × Int32 × (Nat → Int32))} {k1 : Int32 → (Nat → Int32) → Option (Int32 × Int32 × Int32 × Int32 × (Nat → Int32))} {k2 : Int32 → Int32 → (Nat → Int32) → Option (Int32 × Int32 × Int32 × Int32 × (Nat → Int32))} (hrec : ∀ (i42 i43 i44 i45 : Int32) (f46 : Nat → Int32), V E K mX3_walk (Qm E K mX3_walk (zX3_walk E q1 q6 q9 q2 q16 q17 i12 i13 i14 v15 f18)) (bc) (bs) [(q1, .inr (5, [.ref q6, .int i7, .int i8])), (q6, .inr (4, [.ref q9, .int i45])), (q9, .inl (E.2.1, 10, .inl f46)), (q2, .inr (1, [.int i12, .int i13, .int i14, v15, .ref q16])), (q16, .inr (2, [.ref q17])), (q17, .inl (E.2.1, 81, .inl f18))] 16 [(0, .ref q1), (1, .ref q2), (3, .int i4), (4, .int i5), (5, .int i42), (6, .int i43), (7, .int i44)] [] (rec i42 i43 i44 i45 f46)) (hk1 : ∀ (i51 : Int32) (f52 : Nat → Int32), V E K mX3_walk (Qm E K mX3_walk (zX3_walk E q1 q6 q9 q2 q16 q17 i12 i13 i14 v15 f18)) (bc) (bs) [(q1, .inr (5, [.ref q6, .int i7, .int i8])), (q6, .inr (4, [.ref q9, .int i51])), (q9, .inl (E.2.1, 10, .inl f52)), (q2, .inr (1, [.int i12, .int i13, .int i14, v15, .ref q16])), (q16, .inr (2, [.ref q17])), (q17, .inl (E.2.1, 81, .inl f18))] 46 [(0, .ref q1), (1, .ref q2), (4, .int i5)] [] (k1 i51 f52)) (hk2 : ∀ (i53 i54 : Int32) (f55 : Nat → Int32), V E K mX3_walk (Qm E K mX3_walk (zX3_walk E q1 q6 q9 q2 q16 q17 i12 i13 i14 v15 f18)) (bc) (bs) [(q1, .inr (5, [.ref q6, .int i7, .int i8])), (q6, .inr (4, [.ref q9, .int i54])), (q9, .inl (E.2.1, 10, .inl f55)), (q2, .inr (1, [.int i12, .int i13, .int i14, v15, .ref q16])), (q16, .inr (2, [.ref q17])), (q17, .inl (E.2.1, 81, .inl f18))] 77 [(0, .ref q1), (1, .ref q2), (6, .int i53)] [] (k2 i53 i54 f55)) : V E K mX3_walk (Qm E K mX3_walk (zX3_walk E q1 q6 q9 q2 q16 q17 i12 i13 i14 v15 f18)) (bc) (bs) [(q1, .inr (5, [.ref q6, .int i7, .int i8])), (q6, .inr (4, [.ref q9, .int i45])), (q9, .inl (E.2.1, 10, .inl f46)), (q2, .inr (1, [.int i12, .int i13, .int i14, v15, .ref q16])), (q16, .inr (2, [.ref q17])), (q17, .inl (E.2.1, 81, .inl f18))] 16 [(0, .ref q1), (1, .ref q2), (3, .int i4), (4, .int i5), (5, .int i42), (6, .int i43), (7, .int i44)] [] (BX3_walk_L16  i12 f18 i4 i7 i8 i42 i43 i44 i45 f46 rec k1 k2) := by
  unfold BX3_walk_L16
  refine V_iload (dX3_walk 9 rfl) 18 rfl 6 rfl ?_
  refine V_aload_n (dX3_walk 10 rfl) 19 rfl 1 rfl ?_
  refine V_getN gf_P_35 3 rfl rfl (dX3_walk 11 rfl) 22 rfl ?_
  refine V_icmp_gt (dX3_walk 12 rfl) 125 (by decide) 25 rfl ?_ ?_
  · refine V_iconst (0 : Int32) (by decide) (dX3_walk 65 rfl) 126 rfl ?_
    exact V_zret rfl (by decide) (dX3_walk 66 rfl) ⟨rfl, rfl⟩
  · refine V_iload (dX3_walk 13 rfl) 27 rfl 5 rfl ?_
    refine V_iconst (-1 : Int32) (by decide) (dX3_walk 14 rfl) 28 rfl ?_
    refine V_icmp_eq (dX3_walk 15 rfl) 125 (by decide) 31 rfl ?_ ?_
    · refine V_iconst (0 : Int32) (by decide) (dX3_walk 65 rfl) 126 rfl ?_
      exact V_zret rfl (by decide) (dX3_walk 66 rfl) ⟨rfl, rfl⟩
    · refine V_aload_n (dX3_walk 16 rfl) 32 rfl 0 rfl ?_
      refine V_get gf_P_12 0 rfl rfl (dX3_walk 17 rfl) 35 rfl ?_
      refine V_iload (dX3_walk 18 rfl) 37 rfl 5 rfl ?_
      refine V_callV (M := mX3_walk) (wcs := [(q6, .inr (4, [.ref q9, .int i45])), (q9, .inl (E.2.1, 10, .inl f46))]) (wr := [(q1, .inr (5, [.ref q6, .int i7, .int i8])), (q2, .inr (1, [.int i12, .int i13, .int i14, v15, .ref q16])), (q16, .inr (2, [.ref q17])), (q17, .inl (E.2.1, 81, .inl f18))]) mf_X4_add tw_326 tw_327 tw_328 ⟨Nat.le_of_ble_eq_true rfl, Nat.le_of_ble_eq_true rfl⟩ (dX3_walk 19 rfl) 40 rfl (kX4_add hs q6 q9 i45 f46 i43) rfl [1, 2] [0, 3, 4, 5] (q0 := 0) rfl rfl rfl rfl (by decide) rfl rfl rfl rfl (Nat.le_of_ble_eq_true rfl) (bc) (bs) (show (bc) + 0 ≤ (bc) by omega) (show (bs) + 0 ≤ (bs) by omega) (fun z47 v w hz => ?_)
      obtain ⟨rfl, rfl⟩ := hz
      show V E K mX3_walk (Qm E K mX3_walk (zX3_walk E q1 q6 q9 q2 q16 q17 i12 i13 i14 v15 f18)) (bc) (bs) [(q1, .inr (5, [.ref q6, .int i7, .int i8])), (q2, .inr (1, [.int i12, .int i13, .int i14, v15, .ref q16])), (q16, .inr (2, [.ref q17])), (q17, .inl (E.2.1, 81, .inl f18)), (q6, .inr (4, [.ref q9, .int z47.1])), (q9, .inl (E.2.1, 10, .inl z47.2))] 40 [(0, .ref q1), (1, .ref q2), (3, .int i4), (4, .int i5), (5, .int i42), (6, .int i43), (7, .int i44)] [] _
      refine V_iload (dX3_walk 20 rfl) 42 rfl 5 rfl ?_
      refine V_iload_n (dX3_walk 21 rfl) 43 rfl 2 rfl ?_
      refine V_icmp_ne (dX3_walk 22 rfl) 67 (by decide) 46 rfl ?_ ?_
      · refine V_iload (dX3_walk 35 rfl) 69 rfl 4 rfl ?_
        refine V_iload (dX3_walk 36 rfl) 71 rfl 5 rfl ?_
        refine V_callSN (M := mX3_walk) (wcs := []) (wr := [(q1, .inr (5, [.ref q6, .int i7, .int i8])), (q2, .inr (1, [.int i12, .int i13, .int i14, v15, .ref q16])), (q16, .inr (2, [.ref q17])), (q17, .inl (E.2.1, 81, .inl f18)), (q6, .inr (4, [.ref q9, .int z47.1])), (q9, .inl (E.2.1, 10, .inl z47.2))]) mf_X6_holds (show (_, _, _, "Brookmill") ∈ nestM by decide +kernel) tw_344 ⟨Nat.le_of_ble_eq_true rfl, Nat.le_of_ble_eq_true rfl⟩ (dX3_walk 37 rfl) 74 rfl (kX6_holds hs i42 i43) rfl [] [0, 1, 2, 3, 4, 5] rfl rfl rfl rfl (by decide) rfl (Nat.le_of_ble_eq_true rfl) (bc) (bs) (show (bc) + 0 ≤ (bc) by omega) (show (bs) + 0 ≤ (bs) by omega) (fun z48 v w hz => ?_)
        obtain ⟨rfl, rfl⟩ := hz
        show V E K mX3_walk (Qm E K mX3_walk (zX3_walk E q1 q6 q9 q2 q16 q17 i12 i13 i14 v15 f18)) (bc) (bs) [(q1, .inr (5, [.ref q6, .int i7, .int i8])), (q2, .inr (1, [.int i12, .int i13, .int i14, v15, .ref q16])), (q16, .inr (2, [.ref q17])), (q17, .inl (E.2.1, 81, .inl f18)), (q6, .inr (4, [.ref q9, .int z47.1])), (q9, .inl (E.2.1, 10, .inl z47.2))] 74 [(0, .ref q1), (1, .ref q2), (3, .int i4), (4, .int i5), (5, .int i42), (6, .int i43), (7, .int i44)] [.int z48] _
        refine V_if_eq (dX3_walk 38 rfl) 102 (by decide) 77 rfl ?_ ?_
        · refine V_iload (dX3_walk 53 rfl) 104 rfl 4 rfl ?_
          refine V_iconst (1 : Int32) (by decide) (dX3_walk 54 rfl) 105 rfl ?_
          refine V_iload (dX3_walk 55 rfl) 107 rfl 5 rfl ?_
          refine V_ishl (dX3_walk 56 rfl) 108 rfl ?_
          refine V_ior (dX3_walk 57 rfl) 109 rfl ?_
          refine V_nmI (fun i49 => ?_)
          refine V_istore (dX3_walk 58 rfl) 111 rfl [(0, .ref q1), (1, .ref q2), (3, .int i4), (4, .int i5), (5, .int i49), (6, .int i43), (7, .int i44)] (Nat.le_of_ble_eq_true rfl) rfl ?_
          refine V_aload_n (dX3_walk 59 rfl) 112 rfl 1 rfl ?_
          refine V_iload (dX3_walk 60 rfl) 114 rfl 5 rfl ?_
          refine V_callS (M := mX3_walk) (wcs := [(q2, .inr (1, [.int i12, .int i13, .int i14, v15, .ref q16])), (q16, .inr (2, [.ref q17])), (q17, .inl (E.2.1, 81, .inl f18))]) (wr := [(q1, .inr (5, [.ref q6, .int i7, .int i8])), (q6, .inr (4, [.ref q9, .int z47.1])), (q9, .inl (E.2.1, 10, .inl z47.2))]) mf_X3_next tw_353 tw_354 ⟨Nat.le_of_ble_eq_true rfl, Nat.le_of_ble_eq_true rfl⟩ (dX3_walk 61 rfl) 117 rfl (kX3_next hs q2 q16 q17 i12 i13 i14 v15 f18 i43) rfl [1, 2, 3] [0, 4, 5] rfl rfl rfl rfl (by decide) rfl (Nat.le_of_ble_eq_true rfl) (bc) (bs) (show (bc) + 0 ≤ (bc) by omega) (show (bs) + 0 ≤ (bs) by omega) (fun z50 v w hz => ?_)
          obtain ⟨rfl, rfl⟩ := hz
          show V E K mX3_walk (Qm E K mX3_walk (zX3_walk E q1 q6 q9 q2 q16 q17 i12 i13 i14 v15 f18)) (bc) (bs) [(q1, .inr (5, [.ref q6, .int i7, .int i8])), (q6, .inr (4, [.ref q9, .int z47.1])), (q9, .inl (E.2.1, 10, .inl z47.2)), (q2, .inr (1, [.int i12, .int i13, .int i14, v15, .ref q16])), (q16, .inr (2, [.ref q17])), (q17, .inl (E.2.1, 81, .inl f18))] 117 [(0, .ref q1), (1, .ref q2), (3, .int i4), (4, .int i5), (5, .int i49), (6, .int i43), (7, .int i44)] [.int z50] _
          refine V_istore (dX3_walk 62 rfl) 119 rfl [(0, .ref q1), (1, .ref q2), (3, .int i4), (4, .int i5), (5, .int i49), (6, .int z50), (7, .int i44)] (Nat.le_of_ble_eq_true rfl) rfl ?_
          refine V_iinc (dX3_walk 63 rfl) 122 rfl 6 rfl (i44 + (1 : Int32)) rfl [(0, .ref q1), (1, .ref q2), (3, .int i4), (4, .int i5), (5, .int i49), (6, .int z50), (7, .int (i44 + (1 : Int32)))] (Nat.le_of_ble_eq_true rfl) rfl ?_
          refine V_goto (dX3_walk 64 rfl) 16 (by decide) ?_
          exact hrec i49 z50 (i44 + (1 : Int32)) z47.1 z47.2
        · refine V_world [0, 4, 5, 1, 2, 3] [(q1, .inr (5, [.ref q6, .int i7, .int i8])), (q6, .inr (4, [.ref q9, .int z47.1])), (q9, .inl (E.2.1, 10, .inl z47.2)), (q2, .inr (1, [.int i12, .int i13, .int i14, v15, .ref q16])), (q16, .inr (2, [.ref q17])), (q17, .inl (E.2.1, 81, .inl f18))] rfl rfl rfl ?_
          refine V_pick [0, 1, 5] [(0, .ref q1), (1, .ref q2), (6, .int i43)] rfl ?_
          exact hk2 i43 z47.1 z47.2
      · refine V_world [0, 4, 5, 1, 2, 3] [(q1, .inr (5, [.ref q6, .int i7, .int i8])), (q6, .inr (4, [.ref q9, .int z47.1])), (q9, .inl (E.2.1, 10, .inl z47.2)), (q2, .inr (1, [.int i12, .int i13, .int i14, v15, .ref q16])), (q16, .inr (2, [.ref q17])), (q17, .inl (E.2.1, 81, .inl f18))] rfl rfl rfl ?_
        refine V_pick [0, 1, 3] [(0, .ref q1), (1, .ref q2), (4, .int i5)] rfl ?_
        exact hk1 z47.1 z47.2
set_option maxRecDepth 20000 in
theorem vLX3_walk_L16 {E : EX} {K : KX} (hs : K.l.stackTraces = false) (q1 q6 q9 q2 q16 q17 : Nat) (i12 i13 i14 : Int32) (v15 : Value) (f18 : Nat → Int32) (i4 i5 i7 i8 : Int32) (bc bs : Nat) {k1 : Int32 → (Nat → Int32) → Option (Int32 × Int32 × Int32 × Int32 × (Nat → Int32))} {k2 : Int32 → Int32 → (Nat → Int32) → Option (Int32 × Int32 × Int32 × Int32 × (Nat → Int32))} (hk1 : ∀ (i51 : Int32) (f52 : Nat → Int32), V E K mX3_walk (Qm E K mX3_walk (zX3_walk E q1 q6 q9 q2 q16 q17 i12 i13 i14 v15 f18)) (bc) (bs) [(q1, .inr (5, [.ref q6, .int i7, .int i8])), (q6, .inr (4, [.ref q9, .int i51])), (q9, .inl (E.2.1, 10, .inl f52)), (q2, .inr (1, [.int i12, .int i13, .int i14, v15, .ref q16])), (q16, .inr (2, [.ref q17])), (q17, .inl (E.2.1, 81, .inl f18))] 46 [(0, .ref q1), (1, .ref q2), (4, .int i5)] [] (k1 i51 f52)) (hk2 : ∀ (i53 i54 : Int32) (f55 : Nat → Int32), V E K mX3_walk (Qm E K mX3_walk (zX3_walk E q1 q6 q9 q2 q16 q17 i12 i13 i14 v15 f18)) (bc) (bs) [(q1, .inr (5, [.ref q6, .int i7, .int i8])), (q6, .inr (4, [.ref q9, .int i54])), (q9, .inl (E.2.1, 10, .inl f55)), (q2, .inr (1, [.int i12, .int i13, .int i14, v15, .ref q16])), (q16, .inr (2, [.ref q17])), (q17, .inl (E.2.1, 81, .inl f18))] 77 [(0, .ref q1), (1, .ref q2), (6, .int i53)] [] (k2 i53 i54 f55)) : ∀ (n : Nat) (i42 i43 i44 i45 : Int32) (f46 : Nat → Int32), V E K mX3_walk (Qm E K mX3_walk (zX3_walk E q1 q6 q9 q2 q16 q17 i12 i13 i14 v15 f18)) (bc) (bs) [(q1, .inr (5, [.ref q6, .int i7, .int i8])), (q6, .inr (4, [.ref q9, .int i45])), (q9, .inl (E.2.1, 10, .inl f46)), (q2, .inr (1, [.int i12, .int i13, .int i14, v15, .ref q16])), (q16, .inr (2, [.ref q17])), (q17, .inl (E.2.1, 81, .inl f18))] 16 [(0, .ref q1), (1, .ref q2), (3, .int i4), (4, .int i5), (5, .int i42), (6, .int i43), (7, .int i44)] [] (LX3_walk_L16  i12 f18 i4 i7 i8 n i42 i43 i44 i45 f46 k1 k2)
  | 0, _, _, _, _, _ => V_none
  | n + 1, i42, i43, i44, i45, f46 => vBX3_walk_L16 hs q1 q6 q9 q2 q16 q17 i12 i13 i14 v15 f18 i4 i5 i7 i8 bc bs i42 i43 i44 i45 f46 (fun i42 i43 i44 i45 f46 => vLX3_walk_L16 hs q1 q6 q9 q2 q16 q17 i12 i13 i14 v15 f18 i4 i5 i7 i8 bc bs hk1 hk2 n i42 i43 i44 i45 f46) hk1 hk2
set_option maxRecDepth 20000 in
theorem kX3_walk {E : EX} {l : Launch} (hl : l.stackTraces = false) (q1 q2 q6 q9 q16 q17 : Nat) (i7 i8 i10 : Int32) (f11 : Nat → Int32) (i12 i13 i14 : Int32) (v15 : Value) (f18 : Nat → Int32) (i3 i4 i5 : Int32) : Ct E l mX3_walk [.ref q1, .ref q2, .int i3, .int i4, .int i5] [(q1, .inr (5, [.ref q6, .int i7, .int i8])), (q6, .inr (4, [.ref q9, .int i10])), (q9, .inl (E.2.1, 10, .inl f11)), (q2, .inr (1, [.int i12, .int i13, .int i14, v15, .ref q16])), (q16, .inr (2, [.ref q17])), (q17, .inl (E.2.1, 81, .inl f18))] (fX3_walk i7 i8 f11 i12 f18 i3 i4 i5) (zX3_walk E q1 q6 q9 q2 q16 q17 i12 i13 i14 v15 f18) := Ct_of hl mf_X3_walk.1 (Nat.le_of_ble_eq_true rfl) (fun K hs => by
  refine V_less 0 0 (Nat.le_refl _) (Nat.le_refl _) ?_
  refine V_pick [0, 1, 2, 3, 4] [(0, .ref q1), (1, .ref q2), (2, .int i3), (3, .int i4), (4, .int i5)] rfl ?_
  unfold fX3_walk
  refine V_aload_n (dX3_walk 0 rfl) 1 rfl 0 rfl ?_
  refine V_get gf_P_12 0 rfl rfl (dX3_walk 1 rfl) 4 rfl ?_
  refine V_callV (M := mX3_walk) (wcs := [(q6, .inr (4, [.ref q9, .int i10]))]) (wr := [(q1, .inr (5, [.ref q6, .int i7, .int i8])), (q9, .inl (E.2.1, 10, .inl f11)), (q2, .inr (1, [.int i12, .int i13, .int i14, v15, .ref q16])), (q16, .inr (2, [.ref q17])), (q17, .inl (E.2.1, 81, .inl f18))]) mf_X4_clear tw_322 tw_323 tw_324 ⟨Nat.le_of_ble_eq_true rfl, Nat.le_of_ble_eq_true rfl⟩ (dX3_walk 2 rfl) 7 rfl (kX4_clear hs q6 (.ref q9) i10) rfl [1] [0, 2, 3, 4, 5] (q0 := 0) rfl rfl rfl rfl (by decide) rfl rfl rfl rfl (Nat.le_of_ble_eq_true rfl) 0 0 (show 0 + 0 ≤ 0 from Nat.le_of_ble_eq_true rfl) (show 0 + 0 ≤ 0 from Nat.le_of_ble_eq_true rfl) (fun z19 v w hz => ?_)
  obtain ⟨rfl, rfl⟩ := hz
  show V E K mX3_walk (Qm E K mX3_walk (zX3_walk E q1 q6 q9 q2 q16 q17 i12 i13 i14 v15 f18)) 0 0 [(q1, .inr (5, [.ref q6, .int i7, .int i8])), (q9, .inl (E.2.1, 10, .inl f11)), (q2, .inr (1, [.int i12, .int i13, .int i14, v15, .ref q16])), (q16, .inr (2, [.ref q17])), (q17, .inl (E.2.1, 81, .inl f18)), (q6, .inr (4, [.ref q9, .int (0 : Int32)]))] 7 [(0, .ref q1), (1, .ref q2), (2, .int i3), (3, .int i4), (4, .int i5)] [] _
  refine V_iconst (0 : Int32) (by decide) (dX3_walk 3 rfl) 8 rfl ?_
  refine V_istore (dX3_walk 4 rfl) 10 rfl [(0, .ref q1), (1, .ref q2), (2, .int i3), (3, .int i4), (4, .int i5), (5, .int (0 : Int32))] (Nat.le_of_ble_eq_true rfl) rfl ?_
  refine V_iload_n (dX3_walk 5 rfl) 11 rfl 2 rfl ?_
  refine V_istore (dX3_walk 6 rfl) 13 rfl [(0, .ref q1), (1, .ref q2), (2, .int i3), (3, .int i4), (4, .int i5), (5, .int (0 : Int32)), (6, .int i3)] (Nat.le_of_ble_eq_true rfl) rfl ?_
  refine V_iconst (0 : Int32) (by decide) (dX3_walk 7 rfl) 14 rfl ?_
  refine V_istore (dX3_walk 8 rfl) 16 rfl [(0, .ref q1), (1, .ref q2), (2, .int i3), (3, .int i4), (4, .int i5), (5, .int (0 : Int32)), (6, .int i3), (7, .int (0 : Int32))] (Nat.le_of_ble_eq_true rfl) rfl ?_
  refine V_world [0, 5, 1, 2, 3, 4] [(q1, .inr (5, [.ref q6, .int i7, .int i8])), (q6, .inr (4, [.ref q9, .int (0 : Int32)])), (q9, .inl (E.2.1, 10, .inl f11)), (q2, .inr (1, [.int i12, .int i13, .int i14, v15, .ref q16])), (q16, .inr (2, [.ref q17])), (q17, .inl (E.2.1, 81, .inl f18))] rfl rfl rfl ?_
  refine V_pick [0, 1, 3, 4, 5, 6, 7] [(0, .ref q1), (1, .ref q2), (3, .int i4), (4, .int i5), (5, .int (0 : Int32)), (6, .int i3), (7, .int (0 : Int32))] rfl ?_
  refine vLX3_walk_L16 hs q1 q6 q9 q2 q16 q17 i12 i13 i14 v15 f18 i4 i5 i7 i8 0 0 ?_ ?_ 12 (0 : Int32) i3 (0 : Int32) (0 : Int32) f11
  · intro i51 f52
    show V E K mX3_walk (Qm E K mX3_walk (zX3_walk E q1 q6 q9 q2 q16 q17 i12 i13 i14 v15 f18)) 0 0 [(q1, .inr (5, [.ref q6, .int i7, .int i8])), (q6, .inr (4, [.ref q9, .int i51])), (q9, .inl (E.2.1, 10, .inl f52)), (q2, .inr (1, [.int i12, .int i13, .int i14, v15, .ref q16])), (q16, .inr (2, [.ref q17])), (q17, .inl (E.2.1, 81, .inl f18))] 46 [(0, .ref q1), (1, .ref q2), (4, .int i5)] [] _
    refine V_aload_n (dX3_walk 23 rfl) 47 rfl 0 rfl ?_
    refine V_iconst (0 : Int32) (by decide) (dX3_walk 24 rfl) 48 rfl ?_
    refine V_put pf_P_56 0 rfl rfl rfl (Nat.le_of_ble_eq_true rfl) (dX3_walk 25 rfl) 51 rfl [(q1, .inr (5, [.ref q6, .int i7, .int (0 : Int32)])), (q6, .inr (4, [.ref q9, .int i51])), (q9, .inl (E.2.1, 10, .inl f52)), (q2, .inr (1, [.int i12, .int i13, .int i14, v15, .ref q16])), (q16, .inr (2, [.ref q17])), (q17, .inl (E.2.1, 81, .inl f18))] rfl ?_
    refine V_aload_n (dX3_walk 26 rfl) 52 rfl 0 rfl ?_
    refine V_aload_n (dX3_walk 27 rfl) 53 rfl 0 rfl ?_
    refine V_aload_n (dX3_walk 28 rfl) 54 rfl 1 rfl ?_
    refine V_callV (M := mX3_walk) (wcs := [(q1, .inr (5, [.ref q6, .int i7, .int (0 : Int32)])), (q6, .inr (4, [.ref q9, .int i51])), (q9, .inl (E.2.1, 10, .inl f52)), (q2, .inr (1, [.int i12, .int i13, .int i14, v15, .ref q16])), (q16, .inr (2, [.ref q17])), (q17, .inl (E.2.1, 81, .inl f18))]) (wr := []) mf_X3_leastFlow tw_330 tw_332 tw_3 ⟨Nat.le_of_ble_eq_true rfl, Nat.le_of_ble_eq_true rfl⟩ (dX3_walk 29 rfl) 57 rfl (kX3_leastFlow hs q1 q2 q6 q9 q16 q17 i7 (0 : Int32) i51 f52 i12 i13 i14 v15 f18) rfl [0, 1, 2, 3, 4, 5] [] (q0 := 0) rfl rfl rfl rfl (by decide) rfl rfl rfl rfl (Nat.le_of_ble_eq_true rfl) 0 0 (show 0 + 0 ≤ 0 from Nat.le_of_ble_eq_true rfl) (show 0 + 0 ≤ 0 from Nat.le_of_ble_eq_true rfl) (fun z56 v w hz => ?_)
    obtain ⟨rfl, rfl⟩ := hz
    show V E K mX3_walk (Qm E K mX3_walk (zX3_walk E q1 q6 q9 q2 q16 q17 i12 i13 i14 v15 f18)) 0 0 [(q1, .inr (5, [.ref q6, .int i7, .int (0 : Int32)])), (q6, .inr (4, [.ref q9, .int i51])), (q9, .inl (E.2.1, 10, .inl f52)), (q2, .inr (1, [.int i12, .int i13, .int i14, v15, .ref q16])), (q16, .inr (2, [.ref q17])), (q17, .inl (E.2.1, 81, .inl f18))] 57 [(0, .ref q1), (1, .ref q2), (4, .int i5)] [.int z56, .ref q1] _
    refine V_iload (dX3_walk 30 rfl) 59 rfl 2 rfl ?_
    refine V_mmin tw_340 tw_341 tw_82 tw_342 (Nat.le_of_ble_eq_true rfl) (Nat.le_of_ble_eq_true rfl) (dX3_walk 31 rfl) 62 rfl ?_
    refine V_put pf_P_42 0 rfl rfl rfl (Nat.le_of_ble_eq_true rfl) (dX3_walk 32 rfl) 65 rfl [(q1, .inr (5, [.ref q6, .int (if i5 < z56 then i5 else z56), .int (0 : Int32)])), (q6, .inr (4, [.ref q9, .int i51])), (q9, .inl (E.2.1, 10, .inl f52)), (q2, .inr (1, [.int i12, .int i13, .int i14, v15, .ref q16])), (q16, .inr (2, [.ref q17])), (q17, .inl (E.2.1, 81, .inl f18))] rfl ?_
    refine V_iconst (1 : Int32) (by decide) (dX3_walk 33 rfl) 66 rfl ?_
    exact V_zret rfl (by decide) (dX3_walk 34 rfl) ⟨rfl, rfl⟩
  · intro i53 i54 f55
    show V E K mX3_walk (Qm E K mX3_walk (zX3_walk E q1 q6 q9 q2 q16 q17 i12 i13 i14 v15 f18)) 0 0 [(q1, .inr (5, [.ref q6, .int i7, .int i8])), (q6, .inr (4, [.ref q9, .int i54])), (q9, .inl (E.2.1, 10, .inl f55)), (q2, .inr (1, [.int i12, .int i13, .int i14, v15, .ref q16])), (q16, .inr (2, [.ref q17])), (q17, .inl (E.2.1, 81, .inl f18))] 77 [(0, .ref q1), (1, .ref q2), (6, .int i53)] [] _
    refine V_aload_n (dX3_walk 39 rfl) 78 rfl 0 rfl ?_
    refine V_get gf_P_12 0 rfl rfl (dX3_walk 40 rfl) 81 rfl ?_
    refine V_iload (dX3_walk 41 rfl) 83 rfl 2 rfl ?_
    refine V_callV (M := mX3_walk) (wcs := [(q6, .inr (4, [.ref q9, .int i54])), (q9, .inl (E.2.1, 10, .inl f55))]) (wr := [(q1, .inr (5, [.ref q6, .int i7, .int i8])), (q2, .inr (1, [.int i12, .int i13, .int i14, v15, .ref q16])), (q16, .inr (2, [.ref q17])), (q17, .inl (E.2.1, 81, .inl f18))]) mf_X4_startAt tw_346 tw_347 tw_348 ⟨Nat.le_of_ble_eq_true rfl, Nat.le_of_ble_eq_true rfl⟩ (dX3_walk 42 rfl) 86 rfl (kX4_startAt hs q6 q9 i54 f55 i53) rfl [1, 2] [0, 3, 4, 5] (q0 := 0) rfl rfl rfl rfl (by decide) rfl rfl rfl rfl (Nat.le_of_ble_eq_true rfl) 0 0 (show 0 + 0 ≤ 0 from Nat.le_of_ble_eq_true rfl) (show 0 + 0 ≤ 0 from Nat.le_of_ble_eq_true rfl) (fun z57 v w hz => ?_)
    obtain ⟨rfl, rfl⟩ := hz
    show V E K mX3_walk (Qm E K mX3_walk (zX3_walk E q1 q6 q9 q2 q16 q17 i12 i13 i14 v15 f18)) 0 0 [(q1, .inr (5, [.ref q6, .int i7, .int i8])), (q2, .inr (1, [.int i12, .int i13, .int i14, v15, .ref q16])), (q16, .inr (2, [.ref q17])), (q17, .inl (E.2.1, 81, .inl f18)), (q6, .inr (4, [.ref q9, .int z57.1])), (q9, .inl (E.2.1, 10, .inl z57.2))] 86 [(0, .ref q1), (1, .ref q2), (6, .int i53)] [] _
    refine V_aload_n (dX3_walk 43 rfl) 87 rfl 0 rfl ?_
    refine V_iconst (1 : Int32) (by decide) (dX3_walk 44 rfl) 88 rfl ?_
    refine V_put pf_P_56 0 rfl rfl rfl (Nat.le_of_ble_eq_true rfl) (dX3_walk 45 rfl) 91 rfl [(q1, .inr (5, [.ref q6, .int i7, .int (1 : Int32)])), (q2, .inr (1, [.int i12, .int i13, .int i14, v15, .ref q16])), (q16, .inr (2, [.ref q17])), (q17, .inl (E.2.1, 81, .inl f18)), (q6, .inr (4, [.ref q9, .int z57.1])), (q9, .inl (E.2.1, 10, .inl z57.2))] rfl ?_
    refine V_aload_n (dX3_walk 46 rfl) 92 rfl 0 rfl ?_
    refine V_aload_n (dX3_walk 47 rfl) 93 rfl 0 rfl ?_
    refine V_aload_n (dX3_walk 48 rfl) 94 rfl 1 rfl ?_
    refine V_callV (M := mX3_walk) (wcs := [(q1, .inr (5, [.ref q6, .int i7, .int (1 : Int32)])), (q6, .inr (4, [.ref q9, .int z57.1])), (q9, .inl (E.2.1, 10, .inl z57.2)), (q2, .inr (1, [.int i12, .int i13, .int i14, v15, .ref q16])), (q16, .inr (2, [.ref q17])), (q17, .inl (E.2.1, 81, .inl f18))]) (wr := []) mf_X3_leastFlow tw_330 tw_332 tw_3 ⟨Nat.le_of_ble_eq_true rfl, Nat.le_of_ble_eq_true rfl⟩ (dX3_walk 49 rfl) 97 rfl (kX3_leastFlow hs q1 q2 q6 q9 q16 q17 i7 (1 : Int32) z57.1 z57.2 i12 i13 i14 v15 f18) rfl [0, 4, 5, 1, 2, 3] [] (q0 := 0) rfl rfl rfl rfl (by decide) rfl rfl rfl rfl (Nat.le_of_ble_eq_true rfl) 0 0 (show 0 + 0 ≤ 0 from Nat.le_of_ble_eq_true rfl) (show 0 + 0 ≤ 0 from Nat.le_of_ble_eq_true rfl) (fun z58 v w hz => ?_)
    obtain ⟨rfl, rfl⟩ := hz
    show V E K mX3_walk (Qm E K mX3_walk (zX3_walk E q1 q6 q9 q2 q16 q17 i12 i13 i14 v15 f18)) 0 0 [(q1, .inr (5, [.ref q6, .int i7, .int (1 : Int32)])), (q6, .inr (4, [.ref q9, .int z57.1])), (q9, .inl (E.2.1, 10, .inl z57.2)), (q2, .inr (1, [.int i12, .int i13, .int i14, v15, .ref q16])), (q16, .inr (2, [.ref q17])), (q17, .inl (E.2.1, 81, .inl f18))] 97 [(0, .ref q1), (1, .ref q2), (6, .int i53)] [.int z58, .ref q1] _
    refine V_put pf_P_42 0 rfl rfl rfl (Nat.le_of_ble_eq_true rfl) (dX3_walk 50 rfl) 100 rfl [(q1, .inr (5, [.ref q6, .int z58, .int (1 : Int32)])), (q6, .inr (4, [.ref q9, .int z57.1])), (q9, .inl (E.2.1, 10, .inl z57.2)), (q2, .inr (1, [.int i12, .int i13, .int i14, v15, .ref q16])), (q16, .inr (2, [.ref q17])), (q17, .inl (E.2.1, 81, .inl f18))] rfl ?_
    refine V_iconst (1 : Int32) (by decide) (dX3_walk 51 rfl) 101 rfl ?_
    exact V_zret rfl (by decide) (dX3_walk 52 rfl) ⟨rfl, rfl⟩)
set_option maxRecDepth 20000 in
theorem vBX3_find_L26 {E : EX} {K : KX} (hs : K.l.stackTraces = false) (q1 q3 q6 q2 q13 q14 : Nat) (i9 i10 i11 : Int32) (v12 : Value) (f15 : Nat → Int32) (i33 i4 i5 i7 : Int32) (f8 : Nat → Int32) (bc bs : Nat) (i34 : Int32) {rec : Int32 → Option (Int32 × Int32 × Int32 × Int32 × (Nat → Int32))} {k1 : Int32 → Option (Int32 × Int32 × Int32 × Int32 × (Nat → Int32))} (hrec : ∀ (i34 : Int32), V E K mX3_find (Qm E K mX3_find (zX3_find E q1 q3 q6 q2 q13 q14 i9 i10 i11 v12 f15)) (bc) (bs) [(q1, .inr (5, [.ref q3, .int i4, .int i5])), (q3, .inr (4, [.ref q6, .int i7])), (q6, .inl (E.2.1, 10, .inl f8)), (q2, .inr (1, [.int i9, .int i10, .int i11, v12, .ref q13])), (q13, .inr (2, [.ref q14])), (q14, .inl (E.2.1, 81, .inl f15))] 26 [(0, .ref q1), (1, .ref q2), (2, .int i33), (3, .int i34)] [] (rec i34)) (hk1 : ∀ (i36 : Int32), V E K mX3_find (Qm E K mX3_find (zX3_find E q1 q3 q6 q2 q13 q14 i9 i10 i11 v12 f15)) (bc) (bs) [(q1, .inr (5, [.ref q3, .int i4, .int i5])), (q3, .inr (4, [.ref q6, .int i7])), (q6, .inl (E.2.1, 10, .inl f8)), (q2, .inr (1, [.int i9, .int i10, .int i11, v12, .ref q13])), (q13, .inr (2, [.ref q14])), (q14, .inl (E.2.1, 81, .inl f15))] 43 [(0, .ref q1), (1, .ref q2), (2, .int i33), (3, .int i36)] [] (k1 i36)) : V E K mX3_find (Qm E K mX3_find (zX3_find E q1 q3 q6 q2 q13 q14 i9 i10 i11 v12 f15)) (bc) (bs) [(q1, .inr (5, [.ref q3, .int i4, .int i5])), (q3, .inr (4, [.ref q6, .int i7])), (q6, .inl (E.2.1, 10, .inl f8)), (q2, .inr (1, [.int i9, .int i10, .int i11, v12, .ref q13])), (q13, .inr (2, [.ref q14])), (q14, .inl (E.2.1, 81, .inl f15))] 26 [(0, .ref q1), (1, .ref q2), (2, .int i33), (3, .int i34)] [] (BX3_find_L26  i9 f15 i4 i5 i7 f8 i34 rec k1) := by
  unfold BX3_find_L26
  refine V_iload_n (dX3_find 16 rfl) 27 rfl 3 rfl ?_
  refine V_aload_n (dX3_find 17 rfl) 28 rfl 1 rfl ?_
  refine V_getN gf_P_35 3 rfl rfl (dX3_find 18 rfl) 31 rfl ?_
  refine V_icmp_ge (dX3_find 19 rfl) 58 (by decide) 34 rfl ?_ ?_
  · refine V_iconst (0 : Int32) (by decide) (dX3_find 34 rfl) 59 rfl ?_
    exact V_zret rfl (by decide) (dX3_find 35 rfl) ⟨rfl, rfl⟩
  · refine V_aload_n (dX3_find 20 rfl) 35 rfl 1 rfl ?_
    refine V_iload_n (dX3_find 21 rfl) 36 rfl 3 rfl ?_
    refine V_callS (M := mX3_find) (wcs := [(q2, .inr (1, [.int i9, .int i10, .int i11, v12, .ref q13])), (q13, .inr (2, [.ref q14])), (q14, .inl (E.2.1, 81, .inl f15))]) (wr := [(q1, .inr (5, [.ref q3, .int i4, .int i5])), (q3, .inr (4, [.ref q6, .int i7])), (q6, .inl (E.2.1, 10, .inl f8))]) mf_X3_next tw_353 tw_354 ⟨Nat.le_of_ble_eq_true rfl, Nat.le_of_ble_eq_true rfl⟩ (dX3_find 22 rfl) 39 rfl (kX3_next hs q2 q13 q14 i9 i10 i11 v12 f15 i34) rfl [3, 4, 5] [0, 1, 2] rfl rfl rfl rfl (by decide) rfl (Nat.le_of_ble_eq_true rfl) (bc) (bs) (show (bc) + 0 ≤ (bc) by omega) (show (bs) + 0 ≤ (bs) by omega) (fun z35 v w hz => ?_)
    obtain ⟨rfl, rfl⟩ := hz
    show V E K mX3_find (Qm E K mX3_find (zX3_find E q1 q3 q6 q2 q13 q14 i9 i10 i11 v12 f15)) (bc) (bs) [(q1, .inr (5, [.ref q3, .int i4, .int i5])), (q3, .inr (4, [.ref q6, .int i7])), (q6, .inl (E.2.1, 10, .inl f8)), (q2, .inr (1, [.int i9, .int i10, .int i11, v12, .ref q13])), (q13, .inr (2, [.ref q14])), (q14, .inl (E.2.1, 81, .inl f15))] 39 [(0, .ref q1), (1, .ref q2), (2, .int i33), (3, .int i34)] [.int z35] _
    refine V_iconst (-1 : Int32) (by decide) (dX3_find 23 rfl) 40 rfl ?_
    refine V_icmp_eq (dX3_find 24 rfl) 52 (by decide) 43 rfl ?_ ?_
    · refine V_iinc (dX3_find 32 rfl) 55 rfl 3 rfl (i34 + (1 : Int32)) rfl [(0, .ref q1), (1, .ref q2), (2, .int i33), (3, .int (i34 + (1 : Int32)))] (Nat.le_of_ble_eq_true rfl) rfl ?_
      refine V_goto (dX3_find 33 rfl) 26 (by decide) ?_
      exact hrec (i34 + (1 : Int32))
    · exact hk1 i34
set_option maxRecDepth 20000 in
theorem vLX3_find_L26 {E : EX} {K : KX} (hs : K.l.stackTraces = false) (q1 q3 q6 q2 q13 q14 : Nat) (i9 i10 i11 : Int32) (v12 : Value) (f15 : Nat → Int32) (i33 i4 i5 i7 : Int32) (f8 : Nat → Int32) (bc bs : Nat) {k1 : Int32 → Option (Int32 × Int32 × Int32 × Int32 × (Nat → Int32))} (hk1 : ∀ (i36 : Int32), V E K mX3_find (Qm E K mX3_find (zX3_find E q1 q3 q6 q2 q13 q14 i9 i10 i11 v12 f15)) (bc) (bs) [(q1, .inr (5, [.ref q3, .int i4, .int i5])), (q3, .inr (4, [.ref q6, .int i7])), (q6, .inl (E.2.1, 10, .inl f8)), (q2, .inr (1, [.int i9, .int i10, .int i11, v12, .ref q13])), (q13, .inr (2, [.ref q14])), (q14, .inl (E.2.1, 81, .inl f15))] 43 [(0, .ref q1), (1, .ref q2), (2, .int i33), (3, .int i36)] [] (k1 i36)) : ∀ (n : Nat) (i34 : Int32), V E K mX3_find (Qm E K mX3_find (zX3_find E q1 q3 q6 q2 q13 q14 i9 i10 i11 v12 f15)) (bc) (bs) [(q1, .inr (5, [.ref q3, .int i4, .int i5])), (q3, .inr (4, [.ref q6, .int i7])), (q6, .inl (E.2.1, 10, .inl f8)), (q2, .inr (1, [.int i9, .int i10, .int i11, v12, .ref q13])), (q13, .inr (2, [.ref q14])), (q14, .inl (E.2.1, 81, .inl f15))] 26 [(0, .ref q1), (1, .ref q2), (2, .int i33), (3, .int i34)] [] (LX3_find_L26  i9 f15 i4 i5 i7 f8 n i34 k1)
  | 0, _ => V_none
  | n + 1, i34 => vBX3_find_L26 hs q1 q3 q6 q2 q13 q14 i9 i10 i11 v12 f15 i33 i4 i5 i7 f8 bc bs i34 (fun i34 => vLX3_find_L26 hs q1 q3 q6 q2 q13 q14 i9 i10 i11 v12 f15 i33 i4 i5 i7 f8 bc bs hk1 n i34) hk1
set_option maxRecDepth 20000 in
theorem kX3_find {E : EX} {l : Launch} (hl : l.stackTraces = false) (q1 q2 q3 q6 q13 q14 : Nat) (i4 i5 i7 : Int32) (f8 : Nat → Int32) (i9 i10 i11 : Int32) (v12 : Value) (f15 : Nat → Int32) : Ct E l mX3_find [.ref q1, .ref q2] [(q1, .inr (5, [.ref q3, .int i4, .int i5])), (q3, .inr (4, [.ref q6, .int i7])), (q6, .inl (E.2.1, 10, .inl f8)), (q2, .inr (1, [.int i9, .int i10, .int i11, v12, .ref q13])), (q13, .inr (2, [.ref q14])), (q14, .inl (E.2.1, 81, .inl f15))] (fX3_find i4 i5 i7 f8 i9 i10 i11 f15) (zX3_find E q1 q3 q6 q2 q13 q14 i9 i10 i11 v12 f15) := Ct_of hl mf_X3_find.1 (Nat.le_of_ble_eq_true rfl) (fun K hs => by
  refine V_less 0 0 (Nat.le_refl _) (Nat.le_refl _) ?_
  refine V_pick [0, 1] [(0, .ref q1), (1, .ref q2)] rfl ?_
  unfold fX3_find
  refine V_aload_n (dX3_find 0 rfl) 1 rfl 1 rfl ?_
  refine V_callV (M := mX3_find) (wcs := [(q2, .inr (1, [.int i9, .int i10, .int i11, v12, .ref q13])), (q13, .inr (2, [.ref q14])), (q14, .inl (E.2.1, 81, .inl f15))]) (wr := [(q1, .inr (5, [.ref q3, .int i4, .int i5])), (q3, .inr (4, [.ref q6, .int i7])), (q6, .inl (E.2.1, 10, .inl f8))]) mf_X2_valueNow tw_317 tw_298 tw_299 ⟨Nat.le_of_ble_eq_true rfl, Nat.le_of_ble_eq_true rfl⟩ (dX3_find 1 rfl) 4 rfl (kX2_valueNow hs q2 q13 q14 i9 i10 i11 v12 f15) rfl [3, 4, 5] [0, 1, 2] (q0 := 0) rfl rfl rfl rfl (by decide) rfl rfl rfl rfl (Nat.le_of_ble_eq_true rfl) 0 0 (show 0 + 0 ≤ 0 from Nat.le_of_ble_eq_true rfl) (show 0 + 0 ≤ 0 from Nat.le_of_ble_eq_true rfl) (fun z16 v w hz => ?_)
  obtain ⟨rfl, rfl⟩ := hz
  show V E K mX3_find (Qm E K mX3_find (zX3_find E q1 q3 q6 q2 q13 q14 i9 i10 i11 v12 f15)) 0 0 [(q1, .inr (5, [.ref q3, .int i4, .int i5])), (q3, .inr (4, [.ref q6, .int i7])), (q6, .inl (E.2.1, 10, .inl f8)), (q2, .inr (1, [.int i9, .int i10, .int i11, v12, .ref q13])), (q13, .inr (2, [.ref q14])), (q14, .inl (E.2.1, 81, .inl f15))] 4 [(0, .ref q1), (1, .ref q2)] [.int z16] _
  refine V_istore_n (dX3_find 2 rfl) 5 rfl [(0, .ref q1), (1, .ref q2), (2, .int z16)] (Nat.le_of_ble_eq_true rfl) rfl ?_
  refine V_iload_n (dX3_find 3 rfl) 6 rfl 2 rfl ?_
  refine V_if_le (dX3_find 4 rfl) 24 (by decide) 9 rfl ?_ ?_
  · refine V_iconst (0 : Int32) (by decide) (dX3_find 14 rfl) 25 rfl ?_
    refine V_istore_n (dX3_find 15 rfl) 26 rfl [(0, .ref q1), (1, .ref q2), (2, .int z16), (3, .int (0 : Int32))] (Nat.le_of_ble_eq_true rfl) rfl ?_
    refine vLX3_find_L26 hs q1 q3 q6 q2 q13 q14 i9 i10 i11 v12 f15 z16 i4 i5 i7 f8 0 0 ?_ 12 (0 : Int32)
    intro i36
    show V E K mX3_find (Qm E K mX3_find (zX3_find E q1 q3 q6 q2 q13 q14 i9 i10 i11 v12 f15)) 0 0 [(q1, .inr (5, [.ref q3, .int i4, .int i5])), (q3, .inr (4, [.ref q6, .int i7])), (q6, .inl (E.2.1, 10, .inl f8)), (q2, .inr (1, [.int i9, .int i10, .int i11, v12, .ref q13])), (q13, .inr (2, [.ref q14])), (q14, .inl (E.2.1, 81, .inl f15))] 43 [(0, .ref q1), (1, .ref q2), (2, .int z16), (3, .int i36)] [] _
    refine V_aload_n (dX3_find 25 rfl) 44 rfl 0 rfl ?_
    refine V_aload_n (dX3_find 26 rfl) 45 rfl 1 rfl ?_
    refine V_iload_n (dX3_find 27 rfl) 46 rfl 3 rfl ?_
    refine V_iconst (-1 : Int32) (by decide) (dX3_find 28 rfl) 47 rfl ?_
    refine V_iload_n (dX3_find 29 rfl) 48 rfl 2 rfl ?_
    refine V_callV (M := mX3_find) (wcs := [(q1, .inr (5, [.ref q3, .int i4, .int i5])), (q3, .inr (4, [.ref q6, .int i7])), (q6, .inl (E.2.1, 10, .inl f8)), (q2, .inr (1, [.int i9, .int i10, .int i11, v12, .ref q13])), (q13, .inr (2, [.ref q14])), (q14, .inl (E.2.1, 81, .inl f15))]) (wr := []) mf_X3_walk tw_318 tw_320 tw_2 ⟨Nat.le_of_ble_eq_true rfl, Nat.le_of_ble_eq_true rfl⟩ (dX3_find 30 rfl) 51 rfl (kX3_walk hs q1 q2 q3 q6 q13 q14 i4 i5 i7 f8 i9 i10 i11 v12 f15 i36 (-1 : Int32) z16) rfl [0, 1, 2, 3, 4, 5] [] (q0 := 0) rfl rfl rfl rfl (by decide) rfl rfl rfl rfl (Nat.le_of_ble_eq_true rfl) 0 0 (show 0 + 0 ≤ 0 from Nat.le_of_ble_eq_true rfl) (show 0 + 0 ≤ 0 from Nat.le_of_ble_eq_true rfl) (fun z37 v w hz => ?_)
    obtain ⟨rfl, rfl⟩ := hz
    show V E K mX3_find (Qm E K mX3_find (zX3_find E q1 q3 q6 q2 q13 q14 i9 i10 i11 v12 f15)) 0 0 [(q1, .inr (5, [.ref q3, .int z37.2.1, .int z37.2.2.1])), (q3, .inr (4, [.ref q6, .int z37.2.2.2.1])), (q6, .inl (E.2.1, 10, .inl z37.2.2.2.2)), (q2, .inr (1, [.int i9, .int i10, .int i11, v12, .ref q13])), (q13, .inr (2, [.ref q14])), (q14, .inl (E.2.1, 81, .inl f15))] 51 [(0, .ref q1), (1, .ref q2), (2, .int z16), (3, .int i36)] [.int z37.1] _
    refine V_bz (fun hb => ?_)
    exact V_zret rfl (bz_n hb) (dX3_find 31 rfl) ⟨rfl, rfl⟩
  · refine V_aload_n (dX3_find 5 rfl) 10 rfl 0 rfl ?_
    refine V_aload_n (dX3_find 6 rfl) 11 rfl 1 rfl ?_
    refine V_aload_n (dX3_find 7 rfl) 12 rfl 1 rfl ?_
    refine V_getN gf_P_24 3 rfl rfl (dX3_find 8 rfl) 15 rfl ?_
    refine V_aload_n (dX3_find 9 rfl) 16 rfl 1 rfl ?_
    refine V_getN gf_P_28 3 rfl rfl (dX3_find 10 rfl) 19 rfl ?_
    refine V_iload_n (dX3_find 11 rfl) 20 rfl 2 rfl ?_
    refine V_callV (M := mX3_find) (wcs := [(q1, .inr (5, [.ref q3, .int i4, .int i5])), (q3, .inr (4, [.ref q6, .int i7])), (q6, .inl (E.2.1, 10, .inl f8)), (q2, .inr (1, [.int i9, .int i10, .int i11, v12, .ref q13])), (q13, .inr (2, [.ref q14])), (q14, .inl (E.2.1, 81, .inl f15))]) (wr := []) mf_X3_walk tw_318 tw_320 tw_2 ⟨Nat.le_of_ble_eq_true rfl, Nat.le_of_ble_eq_true rfl⟩ (dX3_find 12 rfl) 23 rfl (kX3_walk hs q1 q2 q3 q6 q13 q14 i4 i5 i7 f8 i9 i10 i11 v12 f15 i10 i11 z16) rfl [0, 1, 2, 3, 4, 5] [] (q0 := 0) rfl rfl rfl rfl (by decide) rfl rfl rfl rfl (Nat.le_of_ble_eq_true rfl) 0 0 (show 0 + 0 ≤ 0 from Nat.le_of_ble_eq_true rfl) (show 0 + 0 ≤ 0 from Nat.le_of_ble_eq_true rfl) (fun z38 v w hz => ?_)
    obtain ⟨rfl, rfl⟩ := hz
    show V E K mX3_find (Qm E K mX3_find (zX3_find E q1 q3 q6 q2 q13 q14 i9 i10 i11 v12 f15)) 0 0 [(q1, .inr (5, [.ref q3, .int z38.2.1, .int z38.2.2.1])), (q3, .inr (4, [.ref q6, .int z38.2.2.2.1])), (q6, .inl (E.2.1, 10, .inl z38.2.2.2.2)), (q2, .inr (1, [.int i9, .int i10, .int i11, v12, .ref q13])), (q13, .inr (2, [.ref q14])), (q14, .inl (E.2.1, 81, .inl f15))] 23 [(0, .ref q1), (1, .ref q2), (2, .int z16)] [.int z38.1] _
    refine V_bz (fun hb => ?_)
    exact V_zret rfl (bz_n hb) (dX3_find 13 rfl) ⟨rfl, rfl⟩)
set_option maxRecDepth 20000 in
theorem kX3_takeFrom {E : EX} {l : Launch} (hl : l.stackTraces = false) (q1 q2 q3 q6 q13 q14 : Nat) (i4 i5 i7 : Int32) (f8 : Nat → Int32) (i9 i10 i11 : Int32) (v12 : Value) (f15 : Nat → Int32) : Ct E l mX3_takeFrom [.ref q1, .ref q2] [(q1, .inr (5, [.ref q3, .int i4, .int i5])), (q3, .inr (4, [.ref q6, .int i7])), (q6, .inl (E.2.1, 10, .inl f8)), (q2, .inr (1, [.int i9, .int i10, .int i11, v12, .ref q13])), (q13, .inr (2, [.ref q14])), (q14, .inl (E.2.1, 81, .inl f15))] (fX3_takeFrom i4 i7 f8 f15) (zX3_takeFrom E q1 q3 q6 q2 q13 q14 i4 i5 i7 f8 i9 i10 i11 v12) := Ct_of hl mf_X3_takeFrom.1 (Nat.le_of_ble_eq_true rfl) (fun K hs => by
  refine V_less 0 0 (Nat.le_refl _) (Nat.le_refl _) ?_
  refine V_pick [0, 1] [(0, .ref q1), (1, .ref q2)] rfl ?_
  unfold fX3_takeFrom
  refine V_aload_n (dX3_takeFrom 0 rfl) 1 rfl 1 rfl ?_
  refine V_aload_n (dX3_takeFrom 1 rfl) 2 rfl 0 rfl ?_
  refine V_get gf_P_12 0 rfl rfl (dX3_takeFrom 2 rfl) 5 rfl ?_
  refine V_aload_n (dX3_takeFrom 3 rfl) 6 rfl 0 rfl ?_
  refine V_get gf_P_42 0 rfl rfl (dX3_takeFrom 4 rfl) 9 rfl ?_
  refine V_ineg (dX3_takeFrom 5 rfl) 10 rfl ?_
  refine V_callV (M := mX3_takeFrom) (wcs := [(q2, .inr (1, [.int i9, .int i10, .int i11, v12, .ref q13])), (q13, .inr (2, [.ref q14])), (q14, .inl (E.2.1, 81, .inl f15)), (q3, .inr (4, [.ref q6, .int i7])), (q6, .inl (E.2.1, 10, .inl f8))]) (wr := [(q1, .inr (5, [.ref q3, .int i4, .int i5]))]) mf_X2_carryAlong tw_360 tw_361 tw_362 ⟨Nat.le_of_ble_eq_true rfl, Nat.le_of_ble_eq_true rfl⟩ (dX3_takeFrom 6 rfl) 13 rfl (kX2_carryAlong hs q2 q3 q13 q14 q6 i9 i10 i11 v12 f15 i7 f8 (-i4)) rfl [3, 4, 5, 1, 2] [0] (q0 := 0) rfl rfl rfl rfl (by decide) rfl rfl rfl rfl (Nat.le_of_ble_eq_true rfl) 0 0 (show 0 + 0 ≤ 0 from Nat.le_of_ble_eq_true rfl) (show 0 + 0 ≤ 0 from Nat.le_of_ble_eq_true rfl) (fun z16 v w hz => ?_)
  obtain ⟨rfl, rfl⟩ := hz
  show V E K mX3_takeFrom (Qm E K mX3_takeFrom (zX3_takeFrom E q1 q3 q6 q2 q13 q14 i4 i5 i7 f8 i9 i10 i11 v12)) 0 0 [(q1, .inr (5, [.ref q3, .int i4, .int i5])), (q2, .inr (1, [.int i9, .int i10, .int i11, v12, .ref q13])), (q13, .inr (2, [.ref q14])), (q14, .inl (E.2.1, 81, .inl z16)), (q3, .inr (4, [.ref q6, .int i7])), (q6, .inl (E.2.1, 10, .inl f8))] 13 [(0, .ref q1), (1, .ref q2)] [] _
  refine V_world [0, 4, 5, 1, 2, 3] [(q1, .inr (5, [.ref q3, .int i4, .int i5])), (q3, .inr (4, [.ref q6, .int i7])), (q6, .inl (E.2.1, 10, .inl f8)), (q2, .inr (1, [.int i9, .int i10, .int i11, v12, .ref q13])), (q13, .inr (2, [.ref q14])), (q14, .inl (E.2.1, 81, .inl z16))] rfl rfl rfl ?_
  exact V_vret rfl (dX3_takeFrom 7 rfl) ⟨rfl, rfl⟩)
set_option maxRecDepth 20000 in
theorem kX5_init {E : EX} {l : Launch} (hl : l.stackTraces = false) (q1 : Nat) (v2 v3 : Value) (i4 : Int32) : Ct E l mX5_init [.ref q1] [(q1, .inr (3, [v2, v3, .int i4]))] (fX5_init ) (zX5_init E q1 i4) := Ct_of hl mf_X5_init.1 (Nat.le_of_ble_eq_true rfl) (fun K hs => by
  refine V_less 3 21 (Nat.le_refl _) (Nat.le_refl _) ?_
  refine V_pick [0] [(0, .ref q1)] rfl ?_
  unfold fX5_init
  refine V_aload_n (dX5_init 0 rfl) 1 rfl 0 rfl ?_
  refine V_objinit tw_157 tw_98 tw_99 (Nat.le_of_ble_eq_true rfl) (Nat.le_of_ble_eq_true rfl) (dX5_init 1 rfl) 4 rfl ?_
  refine V_aload_n (dX5_init 2 rfl) 5 rfl 0 rfl ?_
  refine V_new nf_T_9 (dX5_init 3 rfl) 8 rfl 2 19 (show 2 + 1 ≤ 3 from Nat.le_of_ble_eq_true rfl) (show 19 + 2 ≤ 21 from Nat.le_of_ble_eq_true rfl) (fun q5 => ?_)
  refine V_eqW (ws2 := [(q1, .inr (3, [v2, v3, .int i4])), (q5, .inr (4, [.null, .int (0 : Int32)]))]) rfl ?_
  refine V_dup rfl (dX5_init 4 rfl) 9 rfl ?_
  refine V_callIN (M := mX5_init) (wcs := [(q5, .inr (4, [.null, .int (0 : Int32)]))]) (wr := [(q1, .inr (3, [v2, v3, .int i4]))]) mf_X4_init rfl rfl (show (_, _, _, "Brookmill") ∈ nestM by decide +kernel) tw_161 ⟨Nat.le_of_ble_eq_true rfl, Nat.le_of_ble_eq_true rfl⟩ (dX5_init 5 rfl) 12 rfl (kX4_init hs q5 .null (0 : Int32)) rfl [1] [0] rfl rfl rfl rfl (by decide) rfl (Nat.le_of_ble_eq_true rfl) 1 9 (show 1 + 1 ≤ 2 from Nat.le_of_ble_eq_true rfl) (show 9 + 10 ≤ 19 from Nat.le_of_ble_eq_true rfl) (fun z6 v w hz => ?_)
  obtain ⟨q7, rfl, rfl⟩ := hz
  show V E K mX5_init (Qm E K mX5_init (zX5_init E q1 i4)) 1 9 [(q1, .inr (3, [v2, v3, .int i4])), (q5, .inr (4, [.ref q7, .int (0 : Int32)])), (q7, .inl (E.2.1, 10, .inl (fun _ => 0)))] 12 [(0, .ref q1)] [.ref q5, .ref q1] _
  refine V_putF pf_T_12 rfl 0 rfl rfl rfl (Nat.le_of_ble_eq_true rfl) (dX5_init 6 rfl) 15 rfl [(q1, .inr (3, [.ref q5, v3, .int i4])), (q5, .inr (4, [.ref q7, .int (0 : Int32)])), (q7, .inl (E.2.1, 10, .inl (fun _ => 0)))] rfl ?_
  refine V_aload_n (dX5_init 7 rfl) 16 rfl 0 rfl ?_
  refine V_bipush (9 : Int32) (by decide) (dX5_init 8 rfl) 18 rfl ?_
  refine V_newc 9 (by decide) (by decide) (by decide) tw_116 (dX5_init 9 rfl) 20 rfl 0 0 (show 0 + 1 ≤ 1 from Nat.le_of_ble_eq_true rfl) (show 0 + 9 ≤ 9 from Nat.le_of_ble_eq_true rfl) (fun q8 => ?_)
  refine V_eqW (ws2 := [(q1, .inr (3, [.ref q5, v3, .int i4])), (q5, .inr (4, [.ref q7, .int (0 : Int32)])), (q7, .inl (E.2.1, 10, .inl (fun _ => 0))), (q8, .inl (E.2.1, 9, .inl (fun _ => 0)))]) rfl ?_
  refine V_putF pf_T_18 rfl 0 rfl rfl rfl (Nat.le_of_ble_eq_true rfl) (dX5_init 10 rfl) 23 rfl [(q1, .inr (3, [.ref q5, .ref q8, .int i4])), (q5, .inr (4, [.ref q7, .int (0 : Int32)])), (q7, .inl (E.2.1, 10, .inl (fun _ => 0))), (q8, .inl (E.2.1, 9, .inl (fun _ => 0)))] rfl ?_
  exact V_vret rfl (dX5_init 11 rfl) ⟨q5, q7, q8, rfl, rfl⟩)
set_option maxRecDepth 20000 in
theorem vBX5_look_L32 {E : EX} {K : KX} (hs : K.l.stackTraces = false) (q1 q4 q2 q10 q11 q12 q14 : Nat) (v3 : Value) (i7 i8 i9 : Int32) (f13 f15 : Nat → Int32) (i61 : Int32) (f62 : Nat → Int32) (bc bs : Nat) (i85 i86 : Int32) {rec : Int32 → Int32 → Option ((Nat → Int32))} {k1 : Int32 → Option ((Nat → Int32))} (hrec : ∀ (i85 i86 : Int32), V E K mX5_look (Qm E K mX5_look (zX5_look E q1 q4 q2 q10 q11 q12 q14 v3 i7 i8 i9 f13 f15)) (bc) (bs) [(q1, .inr (3, [v3, .ref q4, .int i7])), (q4, .inl (E.2.1, 9, .inl f62)), (q2, .inr (1, [.int i7, .int i8, .int i9, .ref q10, .ref q11])), (q10, .inr (2, [.ref q12])), (q12, .inl (E.2.1, 81, .inl f13)), (q11, .inr (2, [.ref q14])), (q14, .inl (E.2.1, 81, .inl f15))] 32 [(0, .ref q1), (1, .ref q2), (2, .int i61), (3, .int i85), (4, .int i86)] [] (rec i85 i86)) (hk1 : ∀ (i93 : Int32), V E K mX5_look (Qm E K mX5_look (zX5_look E q1 q4 q2 q10 q11 q12 q14 v3 i7 i8 i9 f13 f15)) (bc) (bs) [(q1, .inr (3, [v3, .ref q4, .int i7])), (q4, .inl (E.2.1, 9, .inl f62)), (q2, .inr (1, [.int i7, .int i8, .int i9, .ref q10, .ref q11])), (q10, .inr (2, [.ref q12])), (q12, .inl (E.2.1, 81, .inl f13)), (q11, .inr (2, [.ref q14])), (q14, .inl (E.2.1, 81, .inl f15))] 77 [(0, .ref q1), (1, .ref q2), (2, .int i61), (3, .int i93)] [] (k1 i93)) : V E K mX5_look (Qm E K mX5_look (zX5_look E q1 q4 q2 q10 q11 q12 q14 v3 i7 i8 i9 f13 f15)) (bc) (bs) [(q1, .inr (3, [v3, .ref q4, .int i7])), (q4, .inl (E.2.1, 9, .inl f62)), (q2, .inr (1, [.int i7, .int i8, .int i9, .ref q10, .ref q11])), (q10, .inr (2, [.ref q12])), (q12, .inl (E.2.1, 81, .inl f13)), (q11, .inr (2, [.ref q14])), (q14, .inl (E.2.1, 81, .inl f15))] 32 [(0, .ref q1), (1, .ref q2), (2, .int i61), (3, .int i85), (4, .int i86)] [] (BX5_look_L32  i7 f13 f15 i61 i85 i86 rec k1) := by
  unfold BX5_look_L32
  refine V_iload (dX5_look 19 rfl) 34 rfl 4 rfl ?_
  refine V_aload_n (dX5_look 20 rfl) 35 rfl 0 rfl ?_
  refine V_get gf_T_74 0 rfl rfl (dX5_look 21 rfl) 38 rfl ?_
  refine V_icmp_ge (dX5_look 22 rfl) 77 (by decide) 41 rfl ?_ ?_
  · refine V_pick [0, 1, 2, 3] [(0, .ref q1), (1, .ref q2), (2, .int i61), (3, .int i85)] rfl ?_
    exact hk1 i85
  · refine V_aload_n (dX5_look 23 rfl) 42 rfl 1 rfl ?_
    refine V_getN gf_T_91 2 rfl rfl (dX5_look 24 rfl) 45 rfl ?_
    refine V_iload_n (dX5_look 25 rfl) 46 rfl 2 rfl ?_
    refine V_iload (dX5_look 26 rfl) 48 rfl 4 rfl ?_
    refine V_callV (M := mX5_look) (wcs := [(q10, .inr (2, [.ref q12])), (q12, .inl (E.2.1, 81, .inl f13))]) (wr := [(q1, .inr (3, [v3, .ref q4, .int i7])), (q4, .inl (E.2.1, 9, .inl f62)), (q2, .inr (1, [.int i7, .int i8, .int i9, .ref q10, .ref q11])), (q11, .inr (2, [.ref q14])), (q14, .inl (E.2.1, 81, .inl f15))]) mf_X1_at tw_527 tw_290 tw_291 ⟨Nat.le_of_ble_eq_true rfl, Nat.le_of_ble_eq_true rfl⟩ (dX5_look 27 rfl) 51 rfl (kX1_at hs q10 q12 f13 i61 i86) rfl [3, 4] [0, 1, 2, 5, 6] (q0 := 0) rfl rfl rfl rfl (by decide) rfl rfl rfl rfl (Nat.le_of_ble_eq_true rfl) (bc) (bs) (show (bc) + 0 ≤ (bc) by omega) (show (bs) + 0 ≤ (bs) by omega) (fun z87 v w hz => ?_)
    obtain ⟨rfl, rfl⟩ := hz
    show V E K mX5_look (Qm E K mX5_look (zX5_look E q1 q4 q2 q10 q11 q12 q14 v3 i7 i8 i9 f13 f15)) (bc) (bs) [(q1, .inr (3, [v3, .ref q4, .int i7])), (q4, .inl (E.2.1, 9, .inl f62)), (q2, .inr (1, [.int i7, .int i8, .int i9, .ref q10, .ref q11])), (q11, .inr (2, [.ref q14])), (q14, .inl (E.2.1, 81, .inl f15)), (q10, .inr (2, [.ref q12])), (q12, .inl (E.2.1, 81, .inl f13))] 51 [(0, .ref q1), (1, .ref q2), (2, .int i61), (3, .int i85), (4, .int i86)] [.int z87] _
    refine V_aload_n (dX5_look 28 rfl) 52 rfl 1 rfl ?_
    refine V_getN gf_T_99 2 rfl rfl (dX5_look 29 rfl) 55 rfl ?_
    refine V_iload_n (dX5_look 30 rfl) 56 rfl 2 rfl ?_
    refine V_iload (dX5_look 31 rfl) 58 rfl 4 rfl ?_
    refine V_callV (M := mX5_look) (wcs := [(q11, .inr (2, [.ref q14])), (q14, .inl (E.2.1, 81, .inl f15))]) (wr := [(q1, .inr (3, [v3, .ref q4, .int i7])), (q4, .inl (E.2.1, 9, .inl f62)), (q2, .inr (1, [.int i7, .int i8, .int i9, .ref q10, .ref q11])), (q10, .inr (2, [.ref q12])), (q12, .inl (E.2.1, 81, .inl f13))]) mf_X1_at tw_527 tw_290 tw_291 ⟨Nat.le_of_ble_eq_true rfl, Nat.le_of_ble_eq_true rfl⟩ (dX5_look 32 rfl) 61 rfl (kX1_at hs q11 q14 f15 i61 i86) rfl [3, 4] [0, 1, 2, 5, 6] (q0 := 0) rfl rfl rfl rfl (by decide) rfl rfl rfl rfl (Nat.le_of_ble_eq_true rfl) (bc) (bs) (show (bc) + 0 ≤ (bc) by omega) (show (bs) + 0 ≤ (bs) by omega) (fun z88 v w hz => ?_)
    obtain ⟨rfl, rfl⟩ := hz
    show V E K mX5_look (Qm E K mX5_look (zX5_look E q1 q4 q2 q10 q11 q12 q14 v3 i7 i8 i9 f13 f15)) (bc) (bs) [(q1, .inr (3, [v3, .ref q4, .int i7])), (q4, .inl (E.2.1, 9, .inl f62)), (q2, .inr (1, [.int i7, .int i8, .int i9, .ref q10, .ref q11])), (q10, .inr (2, [.ref q12])), (q12, .inl (E.2.1, 81, .inl f13)), (q11, .inr (2, [.ref q14])), (q14, .inl (E.2.1, 81, .inl f15))] 61 [(0, .ref q1), (1, .ref q2), (2, .int i61), (3, .int i85), (4, .int i86)] [.int z88, .int z87] _
    refine V_jn (fun (k89 : Int32 → Option ((Nat → Int32))) => ∀ (i92 : Int32), V E K mX5_look (Qm E K mX5_look (zX5_look E q1 q4 q2 q10 q11 q12 q14 v3 i7 i8 i9 f13 f15)) (bc) (bs) [(q1, .inr (3, [v3, .ref q4, .int i7])), (q4, .inl (E.2.1, 9, .inl f62)), (q2, .inr (1, [.int i7, .int i8, .int i9, .ref q10, .ref q11])), (q10, .inr (2, [.ref q12])), (q12, .inl (E.2.1, 81, .inl f13)), (q11, .inr (2, [.ref q14])), (q14, .inl (E.2.1, 81, .inl f15))] 71 [(0, .ref q1), (1, .ref q2), (2, .int i61), (3, .int i92), (4, .int i86)] [] (k89 i92)) ?_ ?_
    · intro i92
      show V E K mX5_look (Qm E K mX5_look (zX5_look E q1 q4 q2 q10 q11 q12 q14 v3 i7 i8 i9 f13 f15)) (bc) (bs) [(q1, .inr (3, [v3, .ref q4, .int i7])), (q4, .inl (E.2.1, 9, .inl f62)), (q2, .inr (1, [.int i7, .int i8, .int i9, .ref q10, .ref q11])), (q10, .inr (2, [.ref q12])), (q12, .inl (E.2.1, 81, .inl f13)), (q11, .inr (2, [.ref q14])), (q14, .inl (E.2.1, 81, .inl f15))] 71 [(0, .ref q1), (1, .ref q2), (2, .int i61), (3, .int i92), (4, .int i86)] [] _
      refine V_iinc (dX5_look 40 rfl) 74 rfl 4 rfl (i86 + (1 : Int32)) rfl [(0, .ref q1), (1, .ref q2), (2, .int i61), (3, .int i92), (4, .int (i86 + (1 : Int32)))] (Nat.le_of_ble_eq_true rfl) rfl ?_
      refine V_goto (dX5_look 41 rfl) 32 (by decide) ?_
      exact hrec i92 (i86 + (1 : Int32))
    · intro k89 hk90
      refine V_icmp_le (dX5_look 33 rfl) 71 (by decide) 64 rfl ?_ ?_
      · exact hk90 i85
      · refine V_iload_n (dX5_look 34 rfl) 65 rfl 3 rfl ?_
        refine V_iconst (1 : Int32) (by decide) (dX5_look 35 rfl) 66 rfl ?_
        refine V_iload (dX5_look 36 rfl) 68 rfl 4 rfl ?_
        refine V_ishl (dX5_look 37 rfl) 69 rfl ?_
        refine V_ior (dX5_look 38 rfl) 70 rfl ?_
        refine V_nmI (fun i91 => ?_)
        refine V_istore_n (dX5_look 39 rfl) 71 rfl [(0, .ref q1), (1, .ref q2), (2, .int i61), (3, .int i91), (4, .int i86)] (Nat.le_of_ble_eq_true rfl) rfl ?_
        exact hk90 i91
set_option maxRecDepth 20000 in
theorem vLX5_look_L32 {E : EX} {K : KX} (hs : K.l.stackTraces = false) (q1 q4 q2 q10 q11 q12 q14 : Nat) (v3 : Value) (i7 i8 i9 : Int32) (f13 f15 : Nat → Int32) (i61 : Int32) (f62 : Nat → Int32) (bc bs : Nat) {k1 : Int32 → Option ((Nat → Int32))} (hk1 : ∀ (i93 : Int32), V E K mX5_look (Qm E K mX5_look (zX5_look E q1 q4 q2 q10 q11 q12 q14 v3 i7 i8 i9 f13 f15)) (bc) (bs) [(q1, .inr (3, [v3, .ref q4, .int i7])), (q4, .inl (E.2.1, 9, .inl f62)), (q2, .inr (1, [.int i7, .int i8, .int i9, .ref q10, .ref q11])), (q10, .inr (2, [.ref q12])), (q12, .inl (E.2.1, 81, .inl f13)), (q11, .inr (2, [.ref q14])), (q14, .inl (E.2.1, 81, .inl f15))] 77 [(0, .ref q1), (1, .ref q2), (2, .int i61), (3, .int i93)] [] (k1 i93)) : ∀ (n : Nat) (i85 i86 : Int32), V E K mX5_look (Qm E K mX5_look (zX5_look E q1 q4 q2 q10 q11 q12 q14 v3 i7 i8 i9 f13 f15)) (bc) (bs) [(q1, .inr (3, [v3, .ref q4, .int i7])), (q4, .inl (E.2.1, 9, .inl f62)), (q2, .inr (1, [.int i7, .int i8, .int i9, .ref q10, .ref q11])), (q10, .inr (2, [.ref q12])), (q12, .inl (E.2.1, 81, .inl f13)), (q11, .inr (2, [.ref q14])), (q14, .inl (E.2.1, 81, .inl f15))] 32 [(0, .ref q1), (1, .ref q2), (2, .int i61), (3, .int i85), (4, .int i86)] [] (LX5_look_L32  i7 f13 f15 i61 n i85 i86 k1)
  | 0, _, _ => V_none
  | n + 1, i85, i86 => vBX5_look_L32 hs q1 q4 q2 q10 q11 q12 q14 v3 i7 i8 i9 f13 f15 i61 f62 bc bs i85 i86 (fun i85 i86 => vLX5_look_L32 hs q1 q4 q2 q10 q11 q12 q14 v3 i7 i8 i9 f13 f15 i61 f62 bc bs hk1 n i85 i86) hk1
set_option maxRecDepth 20000 in
theorem vBX5_look_L10 {E : EX} {K : KX} (hs : K.l.stackTraces = false) (q1 q4 q2 q10 q11 q12 q14 : Nat) (v3 : Value) (i7 i8 i9 : Int32) (f13 f15 : Nat → Int32) (bc bs : Nat) (i61 : Int32) (f62 : Nat → Int32) {rec : Int32 → (Nat → Int32) → Option ((Nat → Int32))}  (hrec : ∀ (i61 : Int32) (f62 : Nat → Int32), V E K mX5_look (Qm E K mX5_look (zX5_look E q1 q4 q2 q10 q11 q12 q14 v3 i7 i8 i9 f13 f15)) (bc) (bs) [(q1, .inr (3, [v3, .ref q4, .int i7])), (q4, .inl (E.2.1, 9, .inl f62)), (q2, .inr (1, [.int i7, .int i8, .int i9, .ref q10, .ref q11])), (q10, .inr (2, [.ref q12])), (q12, .inl (E.2.1, 81, .inl f13)), (q11, .inr (2, [.ref q14])), (q14, .inl (E.2.1, 81, .inl f15))] 10 [(0, .ref q1), (1, .ref q2), (2, .int i61)] [] (rec i61 f62))  : V E K mX5_look (Qm E K mX5_look (zX5_look E q1 q4 q2 q10 q11 q12 q14 v3 i7 i8 i9 f13 f15)) (bc) (bs) [(q1, .inr (3, [v3, .ref q4, .int i7])), (q4, .inl (E.2.1, 9, .inl f62)), (q2, .inr (1, [.int i7, .int i8, .int i9, .ref q10, .ref q11])), (q10, .inr (2, [.ref q12])), (q12, .inl (E.2.1, 81, .inl f13)), (q11, .inr (2, [.ref q14])), (q14, .inl (E.2.1, 81, .inl f15))] 10 [(0, .ref q1), (1, .ref q2), (2, .int i61)] [] (BX5_look_L10  i7 f13 f15 i61 f62 rec ) := by
  unfold BX5_look_L10
  refine V_iload_n (dX5_look 6 rfl) 11 rfl 2 rfl ?_
  refine V_aload_n (dX5_look 7 rfl) 12 rfl 0 rfl ?_
  refine V_get gf_T_74 0 rfl rfl (dX5_look 8 rfl) 15 rfl ?_
  refine V_icmp_ge (dX5_look 9 rfl) 90 (by decide) 18 rfl ?_ ?_
  · exact V_vret rfl (dX5_look 49 rfl) ⟨rfl, rfl⟩
  · refine V_iload_n (dX5_look 10 rfl) 19 rfl 2 rfl ?_
    refine V_aload_n (dX5_look 11 rfl) 20 rfl 0 rfl ?_
    refine V_get gf_T_18 0 rfl rfl (dX5_look 12 rfl) 23 rfl ?_
    refine V_alen 1 rfl ((9 : Int32)) (show Int32.ofNat 9 = (9 : Int32) by decide) (dX5_look 13 rfl) 24 rfl ?_
    refine V_icmp_ge (dX5_look 14 rfl) 90 (by decide) 27 rfl ?_ ?_
    · exact V_vret rfl (dX5_look 49 rfl) ⟨rfl, rfl⟩
    · refine V_iconst (0 : Int32) (by decide) (dX5_look 15 rfl) 28 rfl ?_
      refine V_istore_n (dX5_look 16 rfl) 29 rfl [(0, .ref q1), (1, .ref q2), (2, .int i61), (3, .int (0 : Int32))] (Nat.le_of_ble_eq_true rfl) rfl ?_
      refine V_iconst (0 : Int32) (by decide) (dX5_look 17 rfl) 30 rfl ?_
      refine V_istore (dX5_look 18 rfl) 32 rfl [(0, .ref q1), (1, .ref q2), (2, .int i61), (3, .int (0 : Int32)), (4, .int (0 : Int32))] (Nat.le_of_ble_eq_true rfl) rfl ?_
      refine vLX5_look_L32 hs q1 q4 q2 q10 q11 q12 q14 v3 i7 i8 i9 f13 f15 i61 f62 (bc) (bs) ?_ 12 (0 : Int32) (0 : Int32)
      intro i93
      show V E K mX5_look (Qm E K mX5_look (zX5_look E q1 q4 q2 q10 q11 q12 q14 v3 i7 i8 i9 f13 f15)) (bc) (bs) [(q1, .inr (3, [v3, .ref q4, .int i7])), (q4, .inl (E.2.1, 9, .inl f62)), (q2, .inr (1, [.int i7, .int i8, .int i9, .ref q10, .ref q11])), (q10, .inr (2, [.ref q12])), (q12, .inl (E.2.1, 81, .inl f13)), (q11, .inr (2, [.ref q14])), (q14, .inl (E.2.1, 81, .inl f15))] 77 [(0, .ref q1), (1, .ref q2), (2, .int i61), (3, .int i93)] [] _
      refine V_aload_n (dX5_look 42 rfl) 78 rfl 0 rfl ?_
      refine V_get gf_T_18 0 rfl rfl (dX5_look 43 rfl) 81 rfl ?_
      refine V_iload_n (dX5_look 44 rfl) 82 rfl 2 rfl ?_
      refine V_iload_n (dX5_look 45 rfl) 83 rfl 3 rfl ?_
      refine V_iast 1 rfl (dX5_look 46 rfl) 84 rfl [(q1, .inr (3, [v3, .ref q4, .int i7])), (q4, .inl (E.2.1, 9, .inl (upd f62 i61.toNatClampNeg i93))), (q2, .inr (1, [.int i7, .int i8, .int i9, .ref q10, .ref q11])), (q10, .inr (2, [.ref q12])), (q12, .inl (E.2.1, 81, .inl f13)), (q11, .inr (2, [.ref q14])), (q14, .inl (E.2.1, 81, .inl f15))] rfl ?_
      refine V_iinc (dX5_look 47 rfl) 87 rfl 2 rfl (i61 + (1 : Int32)) rfl [(0, .ref q1), (1, .ref q2), (2, .int (i61 + (1 : Int32))), (3, .int i93)] (Nat.le_of_ble_eq_true rfl) rfl ?_
      refine V_goto (dX5_look 48 rfl) 10 (by decide) ?_
      refine V_pick [0, 1, 2] [(0, .ref q1), (1, .ref q2), (2, .int (i61 + (1 : Int32)))] rfl ?_
      exact hrec (i61 + (1 : Int32)) (upd f62 i61.toNatClampNeg i93)
set_option maxRecDepth 20000 in
theorem vLX5_look_L10 {E : EX} {K : KX} (hs : K.l.stackTraces = false) (q1 q4 q2 q10 q11 q12 q14 : Nat) (v3 : Value) (i7 i8 i9 : Int32) (f13 f15 : Nat → Int32) (bc bs : Nat)   : ∀ (n : Nat) (i61 : Int32) (f62 : Nat → Int32), V E K mX5_look (Qm E K mX5_look (zX5_look E q1 q4 q2 q10 q11 q12 q14 v3 i7 i8 i9 f13 f15)) (bc) (bs) [(q1, .inr (3, [v3, .ref q4, .int i7])), (q4, .inl (E.2.1, 9, .inl f62)), (q2, .inr (1, [.int i7, .int i8, .int i9, .ref q10, .ref q11])), (q10, .inr (2, [.ref q12])), (q12, .inl (E.2.1, 81, .inl f13)), (q11, .inr (2, [.ref q14])), (q14, .inl (E.2.1, 81, .inl f15))] 10 [(0, .ref q1), (1, .ref q2), (2, .int i61)] [] (LX5_look_L10  i7 f13 f15 n i61 f62 )
  | 0, _, _ => V_none
  | n + 1, i61, f62 => vBX5_look_L10 hs q1 q4 q2 q10 q11 q12 q14 v3 i7 i8 i9 f13 f15 bc bs i61 f62 (fun i61 f62 => vLX5_look_L10 hs q1 q4 q2 q10 q11 q12 q14 v3 i7 i8 i9 f13 f15 bc bs  n i61 f62) 
set_option maxRecDepth 20000 in
theorem kX5_look {E : EX} {l : Launch} (hl : l.stackTraces = false) (q1 q2 q4 q10 q11 q12 q14 : Nat) (v3 : Value) (i5 : Int32) (f6 : Nat → Int32) (i7 i8 i9 : Int32) (f13 f15 : Nat → Int32) : Ct E l mX5_look [.ref q1, .ref q2] [(q1, .inr (3, [v3, .ref q4, .int i5])), (q4, .inl (E.2.1, 9, .inl f6)), (q2, .inr (1, [.int i7, .int i8, .int i9, .ref q10, .ref q11])), (q10, .inr (2, [.ref q12])), (q12, .inl (E.2.1, 81, .inl f13)), (q11, .inr (2, [.ref q14])), (q14, .inl (E.2.1, 81, .inl f15))] (fX5_look f6 i7 f13 f15) (zX5_look E q1 q4 q2 q10 q11 q12 q14 v3 i7 i8 i9 f13 f15) := Ct_of hl mf_X5_look.1 (Nat.le_of_ble_eq_true rfl) (fun K hs => by
  refine V_less 0 0 (Nat.le_refl _) (Nat.le_refl _) ?_
  refine V_pick [0, 1] [(0, .ref q1), (1, .ref q2)] rfl ?_
  unfold fX5_look
  refine V_aload_n (dX5_look 0 rfl) 1 rfl 0 rfl ?_
  refine V_aload_n (dX5_look 1 rfl) 2 rfl 1 rfl ?_
  refine V_getN gf_T_90 2 rfl rfl (dX5_look 2 rfl) 5 rfl ?_
  refine V_put pf_T_74 0 rfl rfl rfl (Nat.le_of_ble_eq_true rfl) (dX5_look 3 rfl) 8 rfl [(q1, .inr (3, [v3, .ref q4, .int i7])), (q4, .inl (E.2.1, 9, .inl f6)), (q2, .inr (1, [.int i7, .int i8, .int i9, .ref q10, .ref q11])), (q10, .inr (2, [.ref q12])), (q12, .inl (E.2.1, 81, .inl f13)), (q11, .inr (2, [.ref q14])), (q14, .inl (E.2.1, 81, .inl f15))] rfl ?_
  refine V_iconst (0 : Int32) (by decide) (dX5_look 4 rfl) 9 rfl ?_
  refine V_istore_n (dX5_look 5 rfl) 10 rfl [(0, .ref q1), (1, .ref q2), (2, .int (0 : Int32))] (Nat.le_of_ble_eq_true rfl) rfl ?_
  refine vLX5_look_L10 hs q1 q4 q2 q10 q11 q12 q14 v3 i7 i8 i9 f13 f15 0 0  12 (0 : Int32) f6)
set_option maxRecDepth 20000 in
theorem vBX5_comingTo_L21 {E : EX} {K : KX} (hs : K.l.stackTraces = false) (q1 q6 : Nat) (v5 : Value) (i7 : Int32) (f8 : Nat → Int32) (i3 i4 i40 i39 : Int32) (bc bs : Nat) (i55 i56 : Int32) {rec : Int32 → Int32 → Option (Int32)} {k1 : Int32 → Option (Int32)} (hrec : ∀ (i55 i56 : Int32), V E K mX5_comingTo (Qm E K mX5_comingTo (zX5_comingTo E q1 q6 v5 i7 f8)) (bc) (bs) [(q1, .inr (3, [v5, .ref q6, .int i7])), (q6, .inl (E.2.1, 9, .inl f8))] 21 [(0, .ref q1), (2, .int i3), (3, .int i4), (4, .int i55), (5, .int i40), (6, .int i39), (7, .int i56)] [] (rec i55 i56)) (hk1 : ∀ (i61 : Int32), V E K mX5_comingTo (Qm E K mX5_comingTo (zX5_comingTo E q1 q6 v5 i7 f8)) (bc) (bs) [(q1, .inr (3, [v5, .ref q6, .int i7])), (q6, .inl (E.2.1, 9, .inl f8))] 77 [(0, .ref q1), (2, .int i3), (3, .int i4), (4, .int i61), (5, .int i40)] [] (k1 i61)) : V E K mX5_comingTo (Qm E K mX5_comingTo (zX5_comingTo E q1 q6 v5 i7 f8)) (bc) (bs) [(q1, .inr (3, [v5, .ref q6, .int i7])), (q6, .inl (E.2.1, 9, .inl f8))] 21 [(0, .ref q1), (2, .int i3), (3, .int i4), (4, .int i55), (5, .int i40), (6, .int i39), (7, .int i56)] [] (BX5_comingTo_L21  i7 f8 i4 i39 i55 i56 rec k1) := by
  unfold BX5_comingTo_L21
  refine V_iload (dX5_comingTo 13 rfl) 23 rfl 6 rfl ?_
  refine V_aload_n (dX5_comingTo 14 rfl) 24 rfl 0 rfl ?_
  refine V_get gf_T_74 0 rfl rfl (dX5_comingTo 15 rfl) 27 rfl ?_
  refine V_icmp_ge (dX5_comingTo 16 rfl) 77 (by decide) 30 rfl ?_ ?_
  · refine V_pick [0, 1, 2, 3, 4] [(0, .ref q1), (2, .int i3), (3, .int i4), (4, .int i55), (5, .int i40)] rfl ?_
    exact hk1 i55
  · refine V_iload (dX5_comingTo 17 rfl) 32 rfl 6 rfl ?_
    refine V_aload_n (dX5_comingTo 18 rfl) 33 rfl 0 rfl ?_
    refine V_get gf_T_18 0 rfl rfl (dX5_comingTo 19 rfl) 36 rfl ?_
    refine V_alen 1 rfl ((9 : Int32)) (show Int32.ofNat 9 = (9 : Int32) by decide) (dX5_comingTo 20 rfl) 37 rfl ?_
    refine V_icmp_ge (dX5_comingTo 21 rfl) 77 (by decide) 40 rfl ?_ ?_
    · refine V_pick [0, 1, 2, 3, 4] [(0, .ref q1), (2, .int i3), (3, .int i4), (4, .int i55), (5, .int i40)] rfl ?_
      exact hk1 i55
    · refine V_iload_n (dX5_comingTo 22 rfl) 41 rfl 2 rfl ?_
      refine V_iload (dX5_comingTo 23 rfl) 43 rfl 6 rfl ?_
      refine V_ishr (dX5_comingTo 24 rfl) 44 rfl ?_
      refine V_iconst (1 : Int32) (by decide) (dX5_comingTo 25 rfl) 45 rfl ?_
      refine V_iand (dX5_comingTo 26 rfl) 46 rfl ?_
      refine V_jn (fun (k57 : Int32 → Option (Int32)) => ∀ (i60 : Int32), V E K mX5_comingTo (Qm E K mX5_comingTo (zX5_comingTo E q1 q6 v5 i7 f8)) (bc) (bs) [(q1, .inr (3, [v5, .ref q6, .int i7])), (q6, .inl (E.2.1, 9, .inl f8))] 71 [(0, .ref q1), (2, .int i3), (3, .int i4), (4, .int i60), (5, .int i40), (6, .int i39), (7, .int i56)] [] (k57 i60)) ?_ ?_
      · intro i60
        show V E K mX5_comingTo (Qm E K mX5_comingTo (zX5_comingTo E q1 q6 v5 i7 f8)) (bc) (bs) [(q1, .inr (3, [v5, .ref q6, .int i7])), (q6, .inl (E.2.1, 9, .inl f8))] 71 [(0, .ref q1), (2, .int i3), (3, .int i4), (4, .int i60), (5, .int i40), (6, .int i39), (7, .int i56)] [] _
        refine V_iinc (dX5_comingTo 41 rfl) 74 rfl 6 rfl (i56 + (1 : Int32)) rfl [(0, .ref q1), (2, .int i3), (3, .int i4), (4, .int i60), (5, .int i40), (6, .int i39), (7, .int (i56 + (1 : Int32)))] (Nat.le_of_ble_eq_true rfl) rfl ?_
        refine V_goto (dX5_comingTo 42 rfl) 21 (by decide) ?_
        exact hrec i60 (i56 + (1 : Int32))
      · intro k57 hk58
        refine V_if_ne (dX5_comingTo 27 rfl) 71 (by decide) 49 rfl ?_ ?_
        · exact hk58 i55
        · refine V_aload_n (dX5_comingTo 28 rfl) 50 rfl 0 rfl ?_
          refine V_get gf_T_18 0 rfl rfl (dX5_comingTo 29 rfl) 53 rfl ?_
          refine V_iload (dX5_comingTo 30 rfl) 55 rfl 6 rfl ?_
          refine V_iald 1 rfl (dX5_comingTo 31 rfl) 56 rfl ?_
          refine V_iload (dX5_comingTo 32 rfl) 58 rfl 5 rfl ?_
          refine V_iand (dX5_comingTo 33 rfl) 59 rfl ?_
          refine V_if_eq (dX5_comingTo 34 rfl) 71 (by decide) 62 rfl ?_ ?_
          · exact hk58 i55
          · refine V_iload (dX5_comingTo 35 rfl) 64 rfl 3 rfl ?_
            refine V_iconst (1 : Int32) (by decide) (dX5_comingTo 36 rfl) 65 rfl ?_
            refine V_iload (dX5_comingTo 37 rfl) 67 rfl 6 rfl ?_
            refine V_ishl (dX5_comingTo 38 rfl) 68 rfl ?_
            refine V_ior (dX5_comingTo 39 rfl) 69 rfl ?_
            refine V_nmI (fun i59 => ?_)
            refine V_istore (dX5_comingTo 40 rfl) 71 rfl [(0, .ref q1), (2, .int i3), (3, .int i4), (4, .int i59), (5, .int i40), (6, .int i39), (7, .int i56)] (Nat.le_of_ble_eq_true rfl) rfl ?_
            exact hk58 i59
set_option maxRecDepth 20000 in
theorem vLX5_comingTo_L21 {E : EX} {K : KX} (hs : K.l.stackTraces = false) (q1 q6 : Nat) (v5 : Value) (i7 : Int32) (f8 : Nat → Int32) (i3 i4 i40 i39 : Int32) (bc bs : Nat) {k1 : Int32 → Option (Int32)} (hk1 : ∀ (i61 : Int32), V E K mX5_comingTo (Qm E K mX5_comingTo (zX5_comingTo E q1 q6 v5 i7 f8)) (bc) (bs) [(q1, .inr (3, [v5, .ref q6, .int i7])), (q6, .inl (E.2.1, 9, .inl f8))] 77 [(0, .ref q1), (2, .int i3), (3, .int i4), (4, .int i61), (5, .int i40)] [] (k1 i61)) : ∀ (n : Nat) (i55 i56 : Int32), V E K mX5_comingTo (Qm E K mX5_comingTo (zX5_comingTo E q1 q6 v5 i7 f8)) (bc) (bs) [(q1, .inr (3, [v5, .ref q6, .int i7])), (q6, .inl (E.2.1, 9, .inl f8))] 21 [(0, .ref q1), (2, .int i3), (3, .int i4), (4, .int i55), (5, .int i40), (6, .int i39), (7, .int i56)] [] (LX5_comingTo_L21  i7 f8 i4 i39 n i55 i56 k1)
  | 0, _, _ => V_none
  | n + 1, i55, i56 => vBX5_comingTo_L21 hs q1 q6 v5 i7 f8 i3 i4 i40 i39 bc bs i55 i56 (fun i55 i56 => vLX5_comingTo_L21 hs q1 q6 v5 i7 f8 i3 i4 i40 i39 bc bs hk1 n i55 i56) hk1
set_option maxRecDepth 20000 in
theorem vBX5_comingTo_L8 {E : EX} {K : KX} (hs : K.l.stackTraces = false) (q1 q6 : Nat) (v5 : Value) (i7 : Int32) (f8 : Nat → Int32) (i3 i4 : Int32) (bc bs : Nat) (i39 i40 : Int32) {rec : Int32 → Int32 → Option (Int32)}  (hrec : ∀ (i39 i40 : Int32), V E K mX5_comingTo (Qm E K mX5_comingTo (zX5_comingTo E q1 q6 v5 i7 f8)) (bc) (bs) [(q1, .inr (3, [v5, .ref q6, .int i7])), (q6, .inl (E.2.1, 9, .inl f8))] 8 [(0, .ref q1), (2, .int i3), (3, .int i4), (4, .int i39), (5, .int i40)] [] (rec i39 i40))  : V E K mX5_comingTo (Qm E K mX5_comingTo (zX5_comingTo E q1 q6 v5 i7 f8)) (bc) (bs) [(q1, .inr (3, [v5, .ref q6, .int i7])), (q6, .inl (E.2.1, 9, .inl f8))] 8 [(0, .ref q1), (2, .int i3), (3, .int i4), (4, .int i39), (5, .int i40)] [] (BX5_comingTo_L8  i7 f8 i3 i4 i39 i40 rec ) := by
  unfold BX5_comingTo_L8
  refine V_iload (dX5_comingTo 6 rfl) 10 rfl 4 rfl ?_
  refine V_iload_n (dX5_comingTo 7 rfl) 11 rfl 1 rfl ?_
  refine V_icmp_ge (dX5_comingTo 8 rfl) 83 (by decide) 14 rfl ?_ ?_
  · refine V_iload (dX5_comingTo 45 rfl) 85 rfl 3 rfl ?_
    exact V_iret rfl (dX5_comingTo 46 rfl) ⟨rfl, rfl⟩
  · refine V_iload (dX5_comingTo 9 rfl) 16 rfl 3 rfl ?_
    refine V_istore (dX5_comingTo 10 rfl) 18 rfl [(0, .ref q1), (2, .int i3), (3, .int i4), (4, .int i39), (5, .int i40), (6, .int i39)] (Nat.le_of_ble_eq_true rfl) rfl ?_
    refine V_iconst (0 : Int32) (by decide) (dX5_comingTo 11 rfl) 19 rfl ?_
    refine V_istore (dX5_comingTo 12 rfl) 21 rfl [(0, .ref q1), (2, .int i3), (3, .int i4), (4, .int i39), (5, .int i40), (6, .int i39), (7, .int (0 : Int32))] (Nat.le_of_ble_eq_true rfl) rfl ?_
    refine vLX5_comingTo_L21 hs q1 q6 v5 i7 f8 i3 i4 i40 i39 (bc) (bs) ?_ 12 i39 (0 : Int32)
    intro i61
    show V E K mX5_comingTo (Qm E K mX5_comingTo (zX5_comingTo E q1 q6 v5 i7 f8)) (bc) (bs) [(q1, .inr (3, [v5, .ref q6, .int i7])), (q6, .inl (E.2.1, 9, .inl f8))] 77 [(0, .ref q1), (2, .int i3), (3, .int i4), (4, .int i61), (5, .int i40)] [] _
    refine V_iinc (dX5_comingTo 43 rfl) 80 rfl 4 rfl (i40 + (1 : Int32)) rfl [(0, .ref q1), (2, .int i3), (3, .int i4), (4, .int i61), (5, .int (i40 + (1 : Int32)))] (Nat.le_of_ble_eq_true rfl) rfl ?_
    refine V_goto (dX5_comingTo 44 rfl) 8 (by decide) ?_
    exact hrec i61 (i40 + (1 : Int32))
set_option maxRecDepth 20000 in
theorem vLX5_comingTo_L8 {E : EX} {K : KX} (hs : K.l.stackTraces = false) (q1 q6 : Nat) (v5 : Value) (i7 : Int32) (f8 : Nat → Int32) (i3 i4 : Int32) (bc bs : Nat)   : ∀ (n : Nat) (i39 i40 : Int32), V E K mX5_comingTo (Qm E K mX5_comingTo (zX5_comingTo E q1 q6 v5 i7 f8)) (bc) (bs) [(q1, .inr (3, [v5, .ref q6, .int i7])), (q6, .inl (E.2.1, 9, .inl f8))] 8 [(0, .ref q1), (2, .int i3), (3, .int i4), (4, .int i39), (5, .int i40)] [] (LX5_comingTo_L8  i7 f8 i3 i4 n i39 i40 )
  | 0, _, _ => V_none
  | n + 1, i39, i40 => vBX5_comingTo_L8 hs q1 q6 v5 i7 f8 i3 i4 bc bs i39 i40 (fun i39 i40 => vLX5_comingTo_L8 hs q1 q6 v5 i7 f8 i3 i4 bc bs  n i39 i40) 
set_option maxRecDepth 20000 in
theorem kX5_comingTo {E : EX} {l : Launch} (hl : l.stackTraces = false) (q1 q6 : Nat) (v5 : Value) (i7 : Int32) (f8 : Nat → Int32) (i2 i3 i4 : Int32) : Ct E l mX5_comingTo [.ref q1, .int i2, .int i3, .int i4] [(q1, .inr (3, [v5, .ref q6, .int i7])), (q6, .inl (E.2.1, 9, .inl f8))] (fX5_comingTo i7 f8 i2 i3 i4) (zX5_comingTo E q1 q6 v5 i7 f8) := Ct_of hl mf_X5_comingTo.1 (Nat.le_of_ble_eq_true rfl) (fun K hs => by
  refine V_less 0 0 (Nat.le_refl _) (Nat.le_refl _) ?_
  refine V_pick [0, 1, 2, 3] [(0, .ref q1), (1, .int i2), (2, .int i3), (3, .int i4)] rfl ?_
  unfold fX5_comingTo
  refine V_iconst (1 : Int32) (by decide) (dX5_comingTo 0 rfl) 1 rfl ?_
  refine V_iload_n (dX5_comingTo 1 rfl) 2 rfl 1 rfl ?_
  refine V_ishl (dX5_comingTo 2 rfl) 3 rfl ?_
  refine V_nmI (fun i9 => ?_)
  refine V_istore (dX5_comingTo 3 rfl) 5 rfl [(0, .ref q1), (1, .int i2), (2, .int i3), (3, .int i4), (4, .int i9)] (Nat.le_of_ble_eq_true rfl) rfl ?_
  refine V_iconst (0 : Int32) (by decide) (dX5_comingTo 4 rfl) 6 rfl ?_
  refine V_istore (dX5_comingTo 5 rfl) 8 rfl [(0, .ref q1), (1, .int i2), (2, .int i3), (3, .int i4), (4, .int i9), (5, .int (0 : Int32))] (Nat.le_of_ble_eq_true rfl) rfl ?_
  refine V_pick [0, 2, 3, 4, 5] [(0, .ref q1), (2, .int i3), (3, .int i4), (4, .int i9), (5, .int (0 : Int32))] rfl ?_
  refine vLX5_comingTo_L8 hs q1 q6 v5 i7 f8 i3 i4 0 0  12 i9 (0 : Int32))
set_option maxRecDepth 20000 in
theorem vBX5_stepsBetween_L2 {E : EX} {K : KX} (hs : K.l.stackTraces = false) (q1 q5 : Nat) (v4 : Value) (i6 : Int32) (f7 : Nat → Int32) (i2 i3 : Int32) (bc bs : Nat) (i17 : Int32) {rec : Int32 → Option (Int32)}  (hrec : ∀ (i17 : Int32), V E K mX5_stepsBetween (Qm E K mX5_stepsBetween (zX5_stepsBetween E q1 q5 v4 i6 f7)) (bc) (bs) [(q1, .inr (3, [v4, .ref q5, .int i6])), (q5, .inl (E.2.1, 9, .inl f7))] 2 [(0, .ref q1), (1, .int i2), (2, .int i3), (3, .int i17)] [] (rec i17))  : V E K mX5_stepsBetween (Qm E K mX5_stepsBetween (zX5_stepsBetween E q1 q5 v4 i6 f7)) (bc) (bs) [(q1, .inr (3, [v4, .ref q5, .int i6])), (q5, .inl (E.2.1, 9, .inl f7))] 2 [(0, .ref q1), (1, .int i2), (2, .int i3), (3, .int i17)] [] (BX5_stepsBetween_L2  i6 f7 i2 i3 i17 rec ) := by
  unfold BX5_stepsBetween_L2
  refine V_iload_n (dX5_stepsBetween 2 rfl) 3 rfl 3 rfl ?_
  refine V_aload_n (dX5_stepsBetween 3 rfl) 4 rfl 0 rfl ?_
  refine V_get gf_T_74 0 rfl rfl (dX5_stepsBetween 4 rfl) 7 rfl ?_
  refine V_icmp_ge (dX5_stepsBetween 5 rfl) 32 (by decide) 10 rfl ?_ ?_
  · refine V_iconst (-1 : Int32) (by decide) (dX5_stepsBetween 18 rfl) 33 rfl ?_
    exact V_iret rfl (dX5_stepsBetween 19 rfl) ⟨rfl, rfl⟩
  · refine V_aload_n (dX5_stepsBetween 6 rfl) 11 rfl 0 rfl ?_
    refine V_iload_n (dX5_stepsBetween 7 rfl) 12 rfl 2 rfl ?_
    refine V_iload_n (dX5_stepsBetween 8 rfl) 13 rfl 3 rfl ?_
    refine V_iconst (0 : Int32) (by decide) (dX5_stepsBetween 9 rfl) 14 rfl ?_
    refine V_callV (M := mX5_stepsBetween) (wcs := [(q1, .inr (3, [v4, .ref q5, .int i6])), (q5, .inl (E.2.1, 9, .inl f7))]) (wr := []) mf_X5_comingTo tw_532 tw_534 tw_9 ⟨Nat.le_of_ble_eq_true rfl, Nat.le_of_ble_eq_true rfl⟩ (dX5_stepsBetween 10 rfl) 17 rfl (kX5_comingTo hs q1 q5 v4 i6 f7 i3 i17 (0 : Int32)) rfl [0, 1] [] (q0 := 0) rfl rfl rfl rfl (by decide) rfl rfl rfl rfl (Nat.le_of_ble_eq_true rfl) (bc) (bs) (show (bc) + 0 ≤ (bc) by omega) (show (bs) + 0 ≤ (bs) by omega) (fun z18 v w hz => ?_)
    obtain ⟨rfl, rfl⟩ := hz
    show V E K mX5_stepsBetween (Qm E K mX5_stepsBetween (zX5_stepsBetween E q1 q5 v4 i6 f7)) (bc) (bs) [(q1, .inr (3, [v4, .ref q5, .int i6])), (q5, .inl (E.2.1, 9, .inl f7))] 17 [(0, .ref q1), (1, .int i2), (2, .int i3), (3, .int i17)] [.int z18] _
    refine V_iload_n (dX5_stepsBetween 11 rfl) 18 rfl 1 rfl ?_
    refine V_callSN (M := mX5_stepsBetween) (wcs := []) (wr := [(q1, .inr (3, [v4, .ref q5, .int i6])), (q5, .inl (E.2.1, 9, .inl f7))]) mf_X6_holds (show (_, _, _, "Brookmill") ∈ nestM by decide +kernel) tw_344 ⟨Nat.le_of_ble_eq_true rfl, Nat.le_of_ble_eq_true rfl⟩ (dX5_stepsBetween 12 rfl) 21 rfl (kX6_holds hs z18 i2) rfl [] [0, 1] rfl rfl rfl rfl (by decide) rfl (Nat.le_of_ble_eq_true rfl) (bc) (bs) (show (bc) + 0 ≤ (bc) by omega) (show (bs) + 0 ≤ (bs) by omega) (fun z19 v w hz => ?_)
    obtain ⟨rfl, rfl⟩ := hz
    show V E K mX5_stepsBetween (Qm E K mX5_stepsBetween (zX5_stepsBetween E q1 q5 v4 i6 f7)) (bc) (bs) [(q1, .inr (3, [v4, .ref q5, .int i6])), (q5, .inl (E.2.1, 9, .inl f7))] 21 [(0, .ref q1), (1, .int i2), (2, .int i3), (3, .int i17)] [.int z19] _
    refine V_if_eq (dX5_stepsBetween 13 rfl) 26 (by decide) 24 rfl ?_ ?_
    · refine V_iinc (dX5_stepsBetween 16 rfl) 29 rfl 3 rfl (i17 + (1 : Int32)) rfl [(0, .ref q1), (1, .int i2), (2, .int i3), (3, .int (i17 + (1 : Int32)))] (Nat.le_of_ble_eq_true rfl) rfl ?_
      refine V_goto (dX5_stepsBetween 17 rfl) 2 (by decide) ?_
      exact hrec (i17 + (1 : Int32))
    · refine V_iload_n (dX5_stepsBetween 14 rfl) 25 rfl 3 rfl ?_
      exact V_iret rfl (dX5_stepsBetween 15 rfl) ⟨rfl, rfl⟩
set_option maxRecDepth 20000 in
theorem vLX5_stepsBetween_L2 {E : EX} {K : KX} (hs : K.l.stackTraces = false) (q1 q5 : Nat) (v4 : Value) (i6 : Int32) (f7 : Nat → Int32) (i2 i3 : Int32) (bc bs : Nat)   : ∀ (n : Nat) (i17 : Int32), V E K mX5_stepsBetween (Qm E K mX5_stepsBetween (zX5_stepsBetween E q1 q5 v4 i6 f7)) (bc) (bs) [(q1, .inr (3, [v4, .ref q5, .int i6])), (q5, .inl (E.2.1, 9, .inl f7))] 2 [(0, .ref q1), (1, .int i2), (2, .int i3), (3, .int i17)] [] (LX5_stepsBetween_L2  i6 f7 i2 i3 n i17 )
  | 0, _ => V_none
  | n + 1, i17 => vBX5_stepsBetween_L2 hs q1 q5 v4 i6 f7 i2 i3 bc bs i17 (fun i17 => vLX5_stepsBetween_L2 hs q1 q5 v4 i6 f7 i2 i3 bc bs  n i17) 
set_option maxRecDepth 20000 in
theorem kX5_stepsBetween {E : EX} {l : Launch} (hl : l.stackTraces = false) (q1 q5 : Nat) (v4 : Value) (i6 : Int32) (f7 : Nat → Int32) (i2 i3 : Int32) : Ct E l mX5_stepsBetween [.ref q1, .int i2, .int i3] [(q1, .inr (3, [v4, .ref q5, .int i6])), (q5, .inl (E.2.1, 9, .inl f7))] (fX5_stepsBetween i6 f7 i2 i3) (zX5_stepsBetween E q1 q5 v4 i6 f7) := Ct_of hl mf_X5_stepsBetween.1 (Nat.le_of_ble_eq_true rfl) (fun K hs => by
  refine V_less 0 0 (Nat.le_refl _) (Nat.le_refl _) ?_
  refine V_pick [0, 1, 2] [(0, .ref q1), (1, .int i2), (2, .int i3)] rfl ?_
  unfold fX5_stepsBetween
  refine V_iconst (0 : Int32) (by decide) (dX5_stepsBetween 0 rfl) 1 rfl ?_
  refine V_istore_n (dX5_stepsBetween 1 rfl) 2 rfl [(0, .ref q1), (1, .int i2), (2, .int i3), (3, .int (0 : Int32))] (Nat.le_of_ble_eq_true rfl) rfl ?_
  refine vLX5_stepsBetween_L2 hs q1 q5 v4 i6 f7 i2 i3 0 0  12 (0 : Int32))
set_option maxRecDepth 20000 in
theorem kX5_onwardFrom {E : EX} {l : Launch} (hl : l.stackTraces = false) (q1 q4 : Nat) (v3 : Value) (i5 : Int32) (f6 : Nat → Int32) (i2 : Int32) : Ct E l mX5_onwardFrom [.ref q1, .int i2] [(q1, .inr (3, [v3, .ref q4, .int i5])), (q4, .inl (E.2.1, 9, .inl f6))] (fX5_onwardFrom f6 i2) (zX5_onwardFrom E q1 q4 v3 i5 f6) := Ct_of hl mf_X5_onwardFrom.1 (Nat.le_of_ble_eq_true rfl) (fun K hs => by
  refine V_less 0 0 (Nat.le_refl _) (Nat.le_refl _) ?_
  refine V_pick [0, 1] [(0, .ref q1), (1, .int i2)] rfl ?_
  unfold fX5_onwardFrom
  refine V_iload_n (dX5_onwardFrom 0 rfl) 1 rfl 1 rfl ?_
  refine V_if_lt (dX5_onwardFrom 1 rfl) 22 (by decide) 4 rfl ?_ ?_
  · refine V_iconst (0 : Int32) (by decide) (dX5_onwardFrom 12 rfl) 23 rfl ?_
    exact V_iret rfl (dX5_onwardFrom 13 rfl) ⟨rfl, rfl⟩
  · refine V_iload_n (dX5_onwardFrom 2 rfl) 5 rfl 1 rfl ?_
    refine V_aload_n (dX5_onwardFrom 3 rfl) 6 rfl 0 rfl ?_
    refine V_get gf_T_18 0 rfl rfl (dX5_onwardFrom 4 rfl) 9 rfl ?_
    refine V_alen 1 rfl ((9 : Int32)) (show Int32.ofNat 9 = (9 : Int32) by decide) (dX5_onwardFrom 5 rfl) 10 rfl ?_
    refine V_icmp_ge (dX5_onwardFrom 6 rfl) 22 (by decide) 13 rfl ?_ ?_
    · refine V_iconst (0 : Int32) (by decide) (dX5_onwardFrom 12 rfl) 23 rfl ?_
      exact V_iret rfl (dX5_onwardFrom 13 rfl) ⟨rfl, rfl⟩
    · refine V_aload_n (dX5_onwardFrom 7 rfl) 14 rfl 0 rfl ?_
      refine V_get gf_T_18 0 rfl rfl (dX5_onwardFrom 8 rfl) 17 rfl ?_
      refine V_iload_n (dX5_onwardFrom 9 rfl) 18 rfl 1 rfl ?_
      refine V_iald 1 rfl (dX5_onwardFrom 10 rfl) 19 rfl ?_
      refine V_goto (dX5_onwardFrom 11 rfl) 23 (by decide) ?_
      exact V_iret rfl (dX5_onwardFrom 13 rfl) ⟨rfl, rfl⟩)
set_option maxRecDepth 20000 in
theorem vBX5_highest_L7 {E : EX} {K : KX} (hs : K.l.stackTraces = false) (q1 : Nat) (v3 v4 : Value) (i5 i2 : Int32) (bc bs : Nat) (i13 : Int32) {rec : Int32 → Option (Int32)}  (hrec : ∀ (i13 : Int32), V E K mX5_highest (Qm E K mX5_highest (zX5_highest E q1 v3 v4 i5)) (bc) (bs) [(q1, .inr (3, [v3, v4, .int i5]))] 7 [(1, .int i2), (2, .int i13)] [] (rec i13))  : V E K mX5_highest (Qm E K mX5_highest (zX5_highest E q1 v3 v4 i5)) (bc) (bs) [(q1, .inr (3, [v3, v4, .int i5]))] 7 [(1, .int i2), (2, .int i13)] [] (BX5_highest_L7  i2 i13 rec ) := by
  unfold BX5_highest_L7
  refine V_iload_n (dX5_highest 5 rfl) 8 rfl 1 rfl ?_
  refine V_if_lt (dX5_highest 6 rfl) 27 (by decide) 11 rfl ?_ ?_
  · refine V_iconst (-1 : Int32) (by decide) (dX5_highest 15 rfl) 28 rfl ?_
    exact V_iret rfl (dX5_highest 16 rfl) ⟨rfl, rfl⟩
  · refine V_iload_n (dX5_highest 7 rfl) 12 rfl 0 rfl ?_
    refine V_iload_n (dX5_highest 8 rfl) 13 rfl 1 rfl ?_
    refine V_callSN (M := mX5_highest) (wcs := []) (wr := [(q1, .inr (3, [v3, v4, .int i5]))]) mf_X6_holds (show (_, _, _, "Brookmill") ∈ nestM by decide +kernel) tw_344 ⟨Nat.le_of_ble_eq_true rfl, Nat.le_of_ble_eq_true rfl⟩ (dX5_highest 9 rfl) 16 rfl (kX6_holds hs i2 i13) rfl [] [0] rfl rfl rfl rfl (by decide) rfl (Nat.le_of_ble_eq_true rfl) (bc) (bs) (show (bc) + 0 ≤ (bc) by omega) (show (bs) + 0 ≤ (bs) by omega) (fun z14 v w hz => ?_)
    obtain ⟨rfl, rfl⟩ := hz
    show V E K mX5_highest (Qm E K mX5_highest (zX5_highest E q1 v3 v4 i5)) (bc) (bs) [(q1, .inr (3, [v3, v4, .int i5]))] 16 [(1, .int i2), (2, .int i13)] [.int z14] _
    refine V_if_eq (dX5_highest 10 rfl) 21 (by decide) 19 rfl ?_ ?_
    · refine V_iinc (dX5_highest 13 rfl) 24 rfl 1 rfl (i13 + (-1 : Int32)) rfl [(1, .int i2), (2, .int (i13 + (-1 : Int32)))] (Nat.le_of_ble_eq_true rfl) rfl ?_
      refine V_goto (dX5_highest 14 rfl) 7 (by decide) ?_
      exact hrec (i13 + (-1 : Int32))
    · refine V_iload_n (dX5_highest 11 rfl) 20 rfl 1 rfl ?_
      exact V_iret rfl (dX5_highest 12 rfl) ⟨rfl, rfl⟩
set_option maxRecDepth 20000 in
theorem vLX5_highest_L7 {E : EX} {K : KX} (hs : K.l.stackTraces = false) (q1 : Nat) (v3 v4 : Value) (i5 i2 : Int32) (bc bs : Nat)   : ∀ (n : Nat) (i13 : Int32), V E K mX5_highest (Qm E K mX5_highest (zX5_highest E q1 v3 v4 i5)) (bc) (bs) [(q1, .inr (3, [v3, v4, .int i5]))] 7 [(1, .int i2), (2, .int i13)] [] (LX5_highest_L7  i2 n i13 )
  | 0, _ => V_none
  | n + 1, i13 => vBX5_highest_L7 hs q1 v3 v4 i5 i2 bc bs i13 (fun i13 => vLX5_highest_L7 hs q1 v3 v4 i5 i2 bc bs  n i13) 
set_option maxRecDepth 20000 in
theorem kX5_highest {E : EX} {l : Launch} (hl : l.stackTraces = false) (q1 : Nat) (v3 v4 : Value) (i5 i2 : Int32) : Ct E l mX5_highest [.ref q1, .int i2] [(q1, .inr (3, [v3, v4, .int i5]))] (fX5_highest i5 i2) (zX5_highest E q1 v3 v4 i5) := Ct_of hl mf_X5_highest.1 (Nat.le_of_ble_eq_true rfl) (fun K hs => by
  refine V_less 0 0 (Nat.le_refl _) (Nat.le_refl _) ?_
  refine V_pick [0, 1] [(0, .ref q1), (1, .int i2)] rfl ?_
  unfold fX5_highest
  refine V_aload_n (dX5_highest 0 rfl) 1 rfl 0 rfl ?_
  refine V_get gf_T_74 0 rfl rfl (dX5_highest 1 rfl) 4 rfl ?_
  refine V_iconst (1 : Int32) (by decide) (dX5_highest 2 rfl) 5 rfl ?_
  refine V_isub (dX5_highest 3 rfl) 6 rfl ?_
  refine V_nmI (fun i6 => ?_)
  refine V_istore_n (dX5_highest 4 rfl) 7 rfl [(0, .ref q1), (1, .int i2), (2, .int i6)] (Nat.le_of_ble_eq_true rfl) rfl ?_
  refine V_pick [1, 2] [(1, .int i2), (2, .int i6)] rfl ?_
  refine vLX5_highest_L7 hs q1 v3 v4 i5 i2 0 0  12 i6)
set_option maxRecDepth 20000 in
theorem vBX5_lowest_L2 {E : EX} {K : KX} (hs : K.l.stackTraces = false) (q1 : Nat) (v3 v4 : Value) (i5 i2 : Int32) (bc bs : Nat) (i12 : Int32) {rec : Int32 → Option (Int32)}  (hrec : ∀ (i12 : Int32), V E K mX5_lowest (Qm E K mX5_lowest (zX5_lowest E q1 v3 v4 i5)) (bc) (bs) [(q1, .inr (3, [v3, v4, .int i5]))] 2 [(0, .ref q1), (1, .int i2), (2, .int i12)] [] (rec i12))  : V E K mX5_lowest (Qm E K mX5_lowest (zX5_lowest E q1 v3 v4 i5)) (bc) (bs) [(q1, .inr (3, [v3, v4, .int i5]))] 2 [(0, .ref q1), (1, .int i2), (2, .int i12)] [] (BX5_lowest_L2  i5 i2 i12 rec ) := by
  unfold BX5_lowest_L2
  refine V_iload_n (dX5_lowest 2 rfl) 3 rfl 2 rfl ?_
  refine V_aload_n (dX5_lowest 3 rfl) 4 rfl 0 rfl ?_
  refine V_get gf_T_74 0 rfl rfl (dX5_lowest 4 rfl) 7 rfl ?_
  refine V_icmp_ge (dX5_lowest 5 rfl) 26 (by decide) 10 rfl ?_ ?_
  · refine V_iconst (-1 : Int32) (by decide) (dX5_lowest 14 rfl) 27 rfl ?_
    exact V_iret rfl (dX5_lowest 15 rfl) ⟨rfl, rfl⟩
  · refine V_iload_n (dX5_lowest 6 rfl) 11 rfl 1 rfl ?_
    refine V_iload_n (dX5_lowest 7 rfl) 12 rfl 2 rfl ?_
    refine V_callSN (M := mX5_lowest) (wcs := []) (wr := [(q1, .inr (3, [v3, v4, .int i5]))]) mf_X6_holds (show (_, _, _, "Brookmill") ∈ nestM by decide +kernel) tw_344 ⟨Nat.le_of_ble_eq_true rfl, Nat.le_of_ble_eq_true rfl⟩ (dX5_lowest 8 rfl) 15 rfl (kX6_holds hs i2 i12) rfl [] [0] rfl rfl rfl rfl (by decide) rfl (Nat.le_of_ble_eq_true rfl) (bc) (bs) (show (bc) + 0 ≤ (bc) by omega) (show (bs) + 0 ≤ (bs) by omega) (fun z13 v w hz => ?_)
    obtain ⟨rfl, rfl⟩ := hz
    show V E K mX5_lowest (Qm E K mX5_lowest (zX5_lowest E q1 v3 v4 i5)) (bc) (bs) [(q1, .inr (3, [v3, v4, .int i5]))] 15 [(0, .ref q1), (1, .int i2), (2, .int i12)] [.int z13] _
    refine V_if_eq (dX5_lowest 9 rfl) 20 (by decide) 18 rfl ?_ ?_
    · refine V_iinc (dX5_lowest 12 rfl) 23 rfl 2 rfl (i12 + (1 : Int32)) rfl [(0, .ref q1), (1, .int i2), (2, .int (i12 + (1 : Int32)))] (Nat.le_of_ble_eq_true rfl) rfl ?_
      refine V_goto (dX5_lowest 13 rfl) 2 (by decide) ?_
      exact hrec (i12 + (1 : Int32))
    · refine V_iload_n (dX5_lowest 10 rfl) 19 rfl 2 rfl ?_
      exact V_iret rfl (dX5_lowest 11 rfl) ⟨rfl, rfl⟩
set_option maxRecDepth 20000 in
theorem vLX5_lowest_L2 {E : EX} {K : KX} (hs : K.l.stackTraces = false) (q1 : Nat) (v3 v4 : Value) (i5 i2 : Int32) (bc bs : Nat)   : ∀ (n : Nat) (i12 : Int32), V E K mX5_lowest (Qm E K mX5_lowest (zX5_lowest E q1 v3 v4 i5)) (bc) (bs) [(q1, .inr (3, [v3, v4, .int i5]))] 2 [(0, .ref q1), (1, .int i2), (2, .int i12)] [] (LX5_lowest_L2  i5 i2 n i12 )
  | 0, _ => V_none
  | n + 1, i12 => vBX5_lowest_L2 hs q1 v3 v4 i5 i2 bc bs i12 (fun i12 => vLX5_lowest_L2 hs q1 v3 v4 i5 i2 bc bs  n i12) 
set_option maxRecDepth 20000 in
theorem kX5_lowest {E : EX} {l : Launch} (hl : l.stackTraces = false) (q1 : Nat) (v3 v4 : Value) (i5 i2 : Int32) : Ct E l mX5_lowest [.ref q1, .int i2] [(q1, .inr (3, [v3, v4, .int i5]))] (fX5_lowest i5 i2) (zX5_lowest E q1 v3 v4 i5) := Ct_of hl mf_X5_lowest.1 (Nat.le_of_ble_eq_true rfl) (fun K hs => by
  refine V_less 0 0 (Nat.le_refl _) (Nat.le_refl _) ?_
  refine V_pick [0, 1] [(0, .ref q1), (1, .int i2)] rfl ?_
  unfold fX5_lowest
  refine V_iconst (0 : Int32) (by decide) (dX5_lowest 0 rfl) 1 rfl ?_
  refine V_istore_n (dX5_lowest 1 rfl) 2 rfl [(0, .ref q1), (1, .int i2), (2, .int (0 : Int32))] (Nat.le_of_ble_eq_true rfl) rfl ?_
  refine vLX5_lowest_L2 hs q1 v3 v4 i5 i2 0 0  12 (0 : Int32))
set_option maxRecDepth 20000 in
theorem vBX5_find_L55 {E : EX} {K : KX} (hs : K.l.stackTraces = false) (q1 q4 q5 q7 q2 q14 q15 q16 q18 : Nat) (i11 i12 i13 : Int32) (f17 f19 : Nat → Int32) (i3 i59 : Int32) (f65 : Nat → Int32) (bc bs : Nat) (i60 i61 i62 i63 : Int32) (f64 : Nat → Int32) {rec : Int32 → Int32 → Int32 → Int32 → (Nat → Int32) → Option (Int32 × (Nat → Int32) × (Nat → Int32))}  (hrec : ∀ (i60 i61 i62 i63 : Int32) (f64 : Nat → Int32), V E K mX5_find (Qm E K mX5_find (zX5_find E q1 q4 q5 q7 q2 q14 q15 q16 q18 i11 i12 i13 f17 f19)) (bc) (bs) [(q1, .inr (3, [.ref q4, .ref q5, .int i11])), (q4, .inr (4, [.ref q7, .int i63])), (q7, .inl (E.2.1, 10, .inl f64)), (q5, .inl (E.2.1, 9, .inl f65)), (q2, .inr (1, [.int i11, .int i12, .int i13, .ref q14, .ref q15])), (q14, .inr (2, [.ref q16])), (q16, .inl (E.2.1, 81, .inl f17)), (q15, .inr (2, [.ref q18])), (q18, .inl (E.2.1, 81, .inl f19))] 55 [(0, .ref q1), (1, .ref q2), (2, .int i3), (3, .int i59), (4, .int i60), (5, .int i61), (6, .int i62)] [] (rec i60 i61 i62 i63 f64))  : V E K mX5_find (Qm E K mX5_find (zX5_find E q1 q4 q5 q7 q2 q14 q15 q16 q18 i11 i12 i13 f17 f19)) (bc) (bs) [(q1, .inr (3, [.ref q4, .ref q5, .int i11])), (q4, .inr (4, [.ref q7, .int i63])), (q7, .inl (E.2.1, 10, .inl f64)), (q5, .inl (E.2.1, 9, .inl f65)), (q2, .inr (1, [.int i11, .int i12, .int i13, .ref q14, .ref q15])), (q14, .inr (2, [.ref q16])), (q16, .inl (E.2.1, 81, .inl f17)), (q15, .inr (2, [.ref q18])), (q18, .inl (E.2.1, 81, .inl f19))] 55 [(0, .ref q1), (1, .ref q2), (2, .int i3), (3, .int i59), (4, .int i60), (5, .int i61), (6, .int i62)] [] (BX5_find_L55  i11 i13 i3 i59 f65 i60 i61 i62 i63 f64 rec ) := by
  unfold BX5_find_L55
  refine V_iload (dX5_find_p0 30 rfl) 57 rfl 6 rfl ?_
  refine V_aload_n (dX5_find_p0 31 rfl) 58 rfl 0 rfl ?_
  refine V_get gf_T_74 0 rfl rfl (dX5_find_p0 32 rfl) 61 rfl ?_
  refine V_icmp_ge (dX5_find_p0 33 rfl) 157 (by decide) 64 rfl ?_ ?_
  · exact V_vret rfl (dX5_find_p1 11 rfl) ⟨rfl, rfl⟩
  · refine V_iload (dX5_find_p0 34 rfl) 66 rfl 4 rfl ?_
    refine V_aload_n (dX5_find_p0 35 rfl) 67 rfl 1 rfl ?_
    refine V_getN gf_T_64 4 rfl rfl (dX5_find_p0 36 rfl) 70 rfl ?_
    refine V_icmp_eq (dX5_find_p0 37 rfl) 157 (by decide) 73 rfl ?_ ?_
    · exact V_vret rfl (dX5_find_p1 11 rfl) ⟨rfl, rfl⟩
    · refine V_iload_n (dX5_find_p0 38 rfl) 74 rfl 2 rfl ?_
      refine V_jn (fun (k66 : Int32 → Option (Int32 × (Nat → Int32) × (Nat → Int32))) => ∀ (i68 : Int32), V E K mX5_find (Qm E K mX5_find (zX5_find E q1 q4 q5 q7 q2 q14 q15 q16 q18 i11 i12 i13 f17 f19)) (bc) (bs) [(q1, .inr (3, [.ref q4, .ref q5, .int i11])), (q4, .inr (4, [.ref q7, .int i63])), (q7, .inl (E.2.1, 10, .inl f64)), (q5, .inl (E.2.1, 9, .inl f65)), (q2, .inr (1, [.int i11, .int i12, .int i13, .ref q14, .ref q15])), (q14, .inr (2, [.ref q16])), (q16, .inl (E.2.1, 81, .inl f17)), (q15, .inr (2, [.ref q18])), (q18, .inl (E.2.1, 81, .inl f19))] 88 [(0, .ref q1), (1, .ref q2), (2, .int i3), (3, .int i59), (4, .int i60), (5, .int i61), (6, .int i62)] [.int i68] (k66 i68)) ?_ ?_
      · intro i68
        show V E K mX5_find (Qm E K mX5_find (zX5_find E q1 q4 q5 q7 q2 q14 q15 q16 q18 i11 i12 i13 f17 f19)) (bc) (bs) [(q1, .inr (3, [.ref q4, .ref q5, .int i11])), (q4, .inr (4, [.ref q7, .int i63])), (q7, .inl (E.2.1, 10, .inl f64)), (q5, .inl (E.2.1, 9, .inl f65)), (q2, .inr (1, [.int i11, .int i12, .int i13, .ref q14, .ref q15])), (q14, .inr (2, [.ref q16])), (q16, .inl (E.2.1, 81, .inl f17)), (q15, .inr (2, [.ref q18])), (q18, .inl (E.2.1, 81, .inl f19))] 88 [(0, .ref q1), (1, .ref q2), (2, .int i3), (3, .int i59), (4, .int i60), (5, .int i61), (6, .int i62)] [.int i68] _
        refine V_istore (dX5_find_p0 46 rfl) 90 rfl [(0, .ref q1), (1, .ref q2), (2, .int i3), (3, .int i59), (4, .int i60), (5, .int i61), (6, .int i62), (7, .int i68)] (Nat.le_of_ble_eq_true rfl) rfl ?_
        refine V_aload_n (dX5_find_p0 47 rfl) 91 rfl 0 rfl ?_
        refine V_iload (dX5_find_p0 48 rfl) 93 rfl 4 rfl ?_
        refine V_callV (M := mX5_find) (wcs := [(q1, .inr (3, [.ref q4, .ref q5, .int i11])), (q5, .inl (E.2.1, 9, .inl f65))]) (wr := [(q4, .inr (4, [.ref q7, .int i63])), (q7, .inl (E.2.1, 10, .inl f64)), (q2, .inr (1, [.int i11, .int i12, .int i13, .ref q14, .ref q15])), (q14, .inr (2, [.ref q16])), (q16, .inl (E.2.1, 81, .inl f17)), (q15, .inr (2, [.ref q18])), (q18, .inl (E.2.1, 81, .inl f19))]) mf_X5_onwardFrom tw_538 tw_540 tw_10 ⟨Nat.le_of_ble_eq_true rfl, Nat.le_of_ble_eq_true rfl⟩ (dX5_find_p0 49 rfl) 96 rfl (kX5_onwardFrom hs q1 q5 (.ref q4) i11 f65 i60) rfl [0, 3] [1, 2, 4, 5, 6, 7, 8] (q0 := 0) rfl rfl rfl rfl (by decide) rfl rfl rfl rfl (Nat.le_of_ble_eq_true rfl) (bc) (bs) (show (bc) + 0 ≤ (bc) by omega) (show (bs) + 0 ≤ (bs) by omega) (fun z69 v w hz => ?_)
        obtain ⟨rfl, rfl⟩ := hz
        show V E K mX5_find (Qm E K mX5_find (zX5_find E q1 q4 q5 q7 q2 q14 q15 q16 q18 i11 i12 i13 f17 f19)) (bc) (bs) [(q4, .inr (4, [.ref q7, .int i63])), (q7, .inl (E.2.1, 10, .inl f64)), (q2, .inr (1, [.int i11, .int i12, .int i13, .ref q14, .ref q15])), (q14, .inr (2, [.ref q16])), (q16, .inl (E.2.1, 81, .inl f17)), (q15, .inr (2, [.ref q18])), (q18, .inl (E.2.1, 81, .inl f19)), (q1, .inr (3, [.ref q4, .ref q5, .int i11])), (q5, .inl (E.2.1, 9, .inl f65))] 96 [(0, .ref q1), (1, .ref q2), (2, .int i3), (3, .int i59), (4, .int i60), (5, .int i61), (6, .int i62), (7, .int i68)] [.int z69] _
        refine V_aload_n (dX5_find_p0 50 rfl) 97 rfl 0 rfl ?_
        refine V_aload_n (dX5_find_p0 51 rfl) 98 rfl 1 rfl ?_
        refine V_getN gf_T_64 2 rfl rfl (dX5_find_p0 52 rfl) 101 rfl ?_
        refine V_iload (dX5_find_p0 53 rfl) 103 rfl 7 rfl ?_
        refine V_iload (dX5_find_p0 54 rfl) 105 rfl 5 rfl ?_
        refine V_callV (M := mX5_find) (wcs := [(q1, .inr (3, [.ref q4, .ref q5, .int i11])), (q5, .inl (E.2.1, 9, .inl f65))]) (wr := [(q4, .inr (4, [.ref q7, .int i63])), (q7, .inl (E.2.1, 10, .inl f64)), (q2, .inr (1, [.int i11, .int i12, .int i13, .ref q14, .ref q15])), (q14, .inr (2, [.ref q16])), (q16, .inl (E.2.1, 81, .inl f17)), (q15, .inr (2, [.ref q18])), (q18, .inl (E.2.1, 81, .inl f19))]) mf_X5_comingTo tw_532 tw_534 tw_9 ⟨Nat.le_of_ble_eq_true rfl, Nat.le_of_ble_eq_true rfl⟩ (dX5_find_p0 55 rfl) 108 rfl (kX5_comingTo hs q1 q5 (.ref q4) i11 f65 i13 i68 i61) rfl [7, 8] [0, 1, 2, 3, 4, 5, 6] (q0 := 0) rfl rfl rfl rfl (by decide) rfl rfl rfl rfl (Nat.le_of_ble_eq_true rfl) (bc) (bs) (show (bc) + 0 ≤ (bc) by omega) (show (bs) + 0 ≤ (bs) by omega) (fun z70 v w hz => ?_)
        obtain ⟨rfl, rfl⟩ := hz
        show V E K mX5_find (Qm E K mX5_find (zX5_find E q1 q4 q5 q7 q2 q14 q15 q16 q18 i11 i12 i13 f17 f19)) (bc) (bs) [(q4, .inr (4, [.ref q7, .int i63])), (q7, .inl (E.2.1, 10, .inl f64)), (q2, .inr (1, [.int i11, .int i12, .int i13, .ref q14, .ref q15])), (q14, .inr (2, [.ref q16])), (q16, .inl (E.2.1, 81, .inl f17)), (q15, .inr (2, [.ref q18])), (q18, .inl (E.2.1, 81, .inl f19)), (q1, .inr (3, [.ref q4, .ref q5, .int i11])), (q5, .inl (E.2.1, 9, .inl f65))] 108 [(0, .ref q1), (1, .ref q2), (2, .int i3), (3, .int i59), (4, .int i60), (5, .int i61), (6, .int i62), (7, .int i68)] [.int z70, .int z69] _
        refine V_iand (dX5_find_p0 56 rfl) 109 rfl ?_
        refine V_nmI (fun i71 => ?_)
        refine V_istore (dX5_find_p0 57 rfl) 111 rfl [(0, .ref q1), (1, .ref q2), (2, .int i3), (3, .int i59), (4, .int i60), (5, .int i61), (6, .int i62), (7, .int i68), (8, .int i71)] (Nat.le_of_ble_eq_true rfl) rfl ?_
        refine V_iload_n (dX5_find_p0 58 rfl) 112 rfl 2 rfl ?_
        refine V_iconst (2 : Int32) (by decide) (dX5_find_p0 59 rfl) 113 rfl ?_
        refine V_jn (fun (k72 : Int32 → Option (Int32 × (Nat → Int32) × (Nat → Int32))) => ∀ (i76 : Int32), V E K mX5_find (Qm E K mX5_find (zX5_find E q1 q4 q5 q7 q2 q14 q15 q16 q18 i11 i12 i13 f17 f19)) (bc) (bs) [(q1, .inr (3, [.ref q4, .ref q5, .int i11])), (q4, .inr (4, [.ref q7, .int i63])), (q7, .inl (E.2.1, 10, .inl f64)), (q5, .inl (E.2.1, 9, .inl f65)), (q2, .inr (1, [.int i11, .int i12, .int i13, .ref q14, .ref q15])), (q14, .inr (2, [.ref q16])), (q16, .inl (E.2.1, 81, .inl f17)), (q15, .inr (2, [.ref q18])), (q18, .inl (E.2.1, 81, .inl f19))] 131 [(0, .ref q1), (1, .ref q2), (2, .int i3), (3, .int i59), (5, .int i61), (6, .int i62)] [.int i76] (k72 i76)) ?_ ?_
        · intro i76
          show V E K mX5_find (Qm E K mX5_find (zX5_find E q1 q4 q5 q7 q2 q14 q15 q16 q18 i11 i12 i13 f17 f19)) (bc) (bs) [(q1, .inr (3, [.ref q4, .ref q5, .int i11])), (q4, .inr (4, [.ref q7, .int i63])), (q7, .inl (E.2.1, 10, .inl f64)), (q5, .inl (E.2.1, 9, .inl f65)), (q2, .inr (1, [.int i11, .int i12, .int i13, .ref q14, .ref q15])), (q14, .inr (2, [.ref q16])), (q16, .inl (E.2.1, 81, .inl f17)), (q15, .inr (2, [.ref q18])), (q18, .inl (E.2.1, 81, .inl f19))] 131 [(0, .ref q1), (1, .ref q2), (2, .int i3), (3, .int i59), (5, .int i61), (6, .int i62)] [.int i76] _
          refine V_istore (dX5_find_p0 68 rfl) 133 rfl [(0, .ref q1), (1, .ref q2), (2, .int i3), (3, .int i59), (4, .int i76), (5, .int i61), (6, .int i62)] (Nat.le_of_ble_eq_true rfl) rfl ?_
          refine V_iload (dX5_find_p0 69 rfl) 135 rfl 5 rfl ?_
          refine V_iconst (1 : Int32) (by decide) (dX5_find_p1 0 rfl) 136 rfl ?_
          refine V_iload (dX5_find_p1 1 rfl) 138 rfl 4 rfl ?_
          refine V_ishl (dX5_find_p1 2 rfl) 139 rfl ?_
          refine V_ior (dX5_find_p1 3 rfl) 140 rfl ?_
          refine V_nmI (fun i77 => ?_)
          refine V_istore (dX5_find_p1 4 rfl) 142 rfl [(0, .ref q1), (1, .ref q2), (2, .int i3), (3, .int i59), (4, .int i76), (5, .int i77), (6, .int i62)] (Nat.le_of_ble_eq_true rfl) rfl ?_
          refine V_aload_n (dX5_find_p1 5 rfl) 143 rfl 0 rfl ?_
          refine V_get gf_T_12 0 rfl rfl (dX5_find_p1 6 rfl) 146 rfl ?_
          refine V_iload (dX5_find_p1 7 rfl) 148 rfl 4 rfl ?_
          refine V_callV (M := mX5_find) (wcs := [(q4, .inr (4, [.ref q7, .int i63])), (q7, .inl (E.2.1, 10, .inl f64))]) (wr := [(q1, .inr (3, [.ref q4, .ref q5, .int i11])), (q5, .inl (E.2.1, 9, .inl f65)), (q2, .inr (1, [.int i11, .int i12, .int i13, .ref q14, .ref q15])), (q14, .inr (2, [.ref q16])), (q16, .inl (E.2.1, 81, .inl f17)), (q15, .inr (2, [.ref q18])), (q18, .inl (E.2.1, 81, .inl f19))]) mf_X4_add tw_537 tw_327 tw_328 ⟨Nat.le_of_ble_eq_true rfl, Nat.le_of_ble_eq_true rfl⟩ (dX5_find_p1 8 rfl) 151 rfl (kX4_add hs q4 q7 i63 f64 i76) rfl [1, 2] [0, 3, 4, 5, 6, 7, 8] (q0 := 0) rfl rfl rfl rfl (by decide) rfl rfl rfl rfl (Nat.le_of_ble_eq_true rfl) (bc) (bs) (show (bc) + 0 ≤ (bc) by omega) (show (bs) + 0 ≤ (bs) by omega) (fun z78 v w hz => ?_)
          obtain ⟨rfl, rfl⟩ := hz
          show V E K mX5_find (Qm E K mX5_find (zX5_find E q1 q4 q5 q7 q2 q14 q15 q16 q18 i11 i12 i13 f17 f19)) (bc) (bs) [(q1, .inr (3, [.ref q4, .ref q5, .int i11])), (q5, .inl (E.2.1, 9, .inl f65)), (q2, .inr (1, [.int i11, .int i12, .int i13, .ref q14, .ref q15])), (q14, .inr (2, [.ref q16])), (q16, .inl (E.2.1, 81, .inl f17)), (q15, .inr (2, [.ref q18])), (q18, .inl (E.2.1, 81, .inl f19)), (q4, .inr (4, [.ref q7, .int z78.1])), (q7, .inl (E.2.1, 10, .inl z78.2))] 151 [(0, .ref q1), (1, .ref q2), (2, .int i3), (3, .int i59), (4, .int i76), (5, .int i77), (6, .int i62)] [] _
          refine V_iinc (dX5_find_p1 9 rfl) 154 rfl 6 rfl (i62 + (1 : Int32)) rfl [(0, .ref q1), (1, .ref q2), (2, .int i3), (3, .int i59), (4, .int i76), (5, .int i77), (6, .int (i62 + (1 : Int32)))] (Nat.le_of_ble_eq_true rfl) rfl ?_
          refine V_goto (dX5_find_p1 10 rfl) 55 (by decide) ?_
          refine V_world [0, 7, 8, 1, 2, 3, 4, 5, 6] [(q1, .inr (3, [.ref q4, .ref q5, .int i11])), (q4, .inr (4, [.ref q7, .int z78.1])), (q7, .inl (E.2.1, 10, .inl z78.2)), (q5, .inl (E.2.1, 9, .inl f65)), (q2, .inr (1, [.int i11, .int i12, .int i13, .ref q14, .ref q15])), (q14, .inr (2, [.ref q16])), (q16, .inl (E.2.1, 81, .inl f17)), (q15, .inr (2, [.ref q18])), (q18, .inl (E.2.1, 81, .inl f19))] rfl rfl rfl ?_
          exact hrec i76 i77 (i62 + (1 : Int32)) z78.1 z78.2
        · intro k72 hk73
          refine V_icmp_ne (dX5_find_p0 60 rfl) 125 (by decide) 116 rfl ?_ ?_
          · refine V_aload_n (dX5_find_p0 65 rfl) 126 rfl 0 rfl ?_
            refine V_iload (dX5_find_p0 66 rfl) 128 rfl 8 rfl ?_
            refine V_callV (M := mX5_find) (wcs := [(q1, .inr (3, [.ref q4, .ref q5, .int i11]))]) (wr := [(q4, .inr (4, [.ref q7, .int i63])), (q7, .inl (E.2.1, 10, .inl f64)), (q2, .inr (1, [.int i11, .int i12, .int i13, .ref q14, .ref q15])), (q14, .inr (2, [.ref q16])), (q16, .inl (E.2.1, 81, .inl f17)), (q15, .inr (2, [.ref q18])), (q18, .inl (E.2.1, 81, .inl f19)), (q5, .inl (E.2.1, 9, .inl f65))]) mf_X5_lowest tw_546 tw_548 tw_12 ⟨Nat.le_of_ble_eq_true rfl, Nat.le_of_ble_eq_true rfl⟩ (dX5_find_p0 67 rfl) 131 rfl (kX5_lowest hs q1 (.ref q4) (.ref q5) i11 i71) rfl [7] [0, 1, 2, 3, 4, 5, 6, 8] (q0 := 0) rfl rfl rfl rfl (by decide) rfl rfl rfl rfl (Nat.le_of_ble_eq_true rfl) (bc) (bs) (show (bc) + 0 ≤ (bc) by omega) (show (bs) + 0 ≤ (bs) by omega) (fun z74 v w hz => ?_)
            obtain ⟨rfl, rfl⟩ := hz
            show V E K mX5_find (Qm E K mX5_find (zX5_find E q1 q4 q5 q7 q2 q14 q15 q16 q18 i11 i12 i13 f17 f19)) (bc) (bs) [(q4, .inr (4, [.ref q7, .int i63])), (q7, .inl (E.2.1, 10, .inl f64)), (q2, .inr (1, [.int i11, .int i12, .int i13, .ref q14, .ref q15])), (q14, .inr (2, [.ref q16])), (q16, .inl (E.2.1, 81, .inl f17)), (q15, .inr (2, [.ref q18])), (q18, .inl (E.2.1, 81, .inl f19)), (q5, .inl (E.2.1, 9, .inl f65)), (q1, .inr (3, [.ref q4, .ref q5, .int i11]))] 131 [(0, .ref q1), (1, .ref q2), (2, .int i3), (3, .int i59), (4, .int i60), (5, .int i61), (6, .int i62), (7, .int i68), (8, .int i71)] [.int z74] _
            refine V_world [8, 0, 1, 7, 2, 3, 4, 5, 6] [(q1, .inr (3, [.ref q4, .ref q5, .int i11])), (q4, .inr (4, [.ref q7, .int i63])), (q7, .inl (E.2.1, 10, .inl f64)), (q5, .inl (E.2.1, 9, .inl f65)), (q2, .inr (1, [.int i11, .int i12, .int i13, .ref q14, .ref q15])), (q14, .inr (2, [.ref q16])), (q16, .inl (E.2.1, 81, .inl f17)), (q15, .inr (2, [.ref q18])), (q18, .inl (E.2.1, 81, .inl f19))] rfl rfl rfl ?_
            refine V_pick [0, 1, 2, 3, 5, 6] [(0, .ref q1), (1, .ref q2), (2, .int i3), (3, .int i59), (5, .int i61), (6, .int i62)] rfl ?_
            exact hk73 z74
          · refine V_aload_n (dX5_find_p0 61 rfl) 117 rfl 0 rfl ?_
            refine V_iload (dX5_find_p0 62 rfl) 119 rfl 8 rfl ?_
            refine V_callV (M := mX5_find) (wcs := [(q1, .inr (3, [.ref q4, .ref q5, .int i11]))]) (wr := [(q4, .inr (4, [.ref q7, .int i63])), (q7, .inl (E.2.1, 10, .inl f64)), (q2, .inr (1, [.int i11, .int i12, .int i13, .ref q14, .ref q15])), (q14, .inr (2, [.ref q16])), (q16, .inl (E.2.1, 81, .inl f17)), (q15, .inr (2, [.ref q18])), (q18, .inl (E.2.1, 81, .inl f19)), (q5, .inl (E.2.1, 9, .inl f65))]) mf_X5_highest tw_542 tw_544 tw_11 ⟨Nat.le_of_ble_eq_true rfl, Nat.le_of_ble_eq_true rfl⟩ (dX5_find_p0 63 rfl) 122 rfl (kX5_highest hs q1 (.ref q4) (.ref q5) i11 i71) rfl [7] [0, 1, 2, 3, 4, 5, 6, 8] (q0 := 0) rfl rfl rfl rfl (by decide) rfl rfl rfl rfl (Nat.le_of_ble_eq_true rfl) (bc) (bs) (show (bc) + 0 ≤ (bc) by omega) (show (bs) + 0 ≤ (bs) by omega) (fun z75 v w hz => ?_)
            obtain ⟨rfl, rfl⟩ := hz
            show V E K mX5_find (Qm E K mX5_find (zX5_find E q1 q4 q5 q7 q2 q14 q15 q16 q18 i11 i12 i13 f17 f19)) (bc) (bs) [(q4, .inr (4, [.ref q7, .int i63])), (q7, .inl (E.2.1, 10, .inl f64)), (q2, .inr (1, [.int i11, .int i12, .int i13, .ref q14, .ref q15])), (q14, .inr (2, [.ref q16])), (q16, .inl (E.2.1, 81, .inl f17)), (q15, .inr (2, [.ref q18])), (q18, .inl (E.2.1, 81, .inl f19)), (q5, .inl (E.2.1, 9, .inl f65)), (q1, .inr (3, [.ref q4, .ref q5, .int i11]))] 122 [(0, .ref q1), (1, .ref q2), (2, .int i3), (3, .int i59), (4, .int i60), (5, .int i61), (6, .int i62), (7, .int i68), (8, .int i71)] [.int z75] _
            refine V_goto (dX5_find_p0 64 rfl) 131 (by decide) ?_
            refine V_world [8, 0, 1, 7, 2, 3, 4, 5, 6] [(q1, .inr (3, [.ref q4, .ref q5, .int i11])), (q4, .inr (4, [.ref q7, .int i63])), (q7, .inl (E.2.1, 10, .inl f64)), (q5, .inl (E.2.1, 9, .inl f65)), (q2, .inr (1, [.int i11, .int i12, .int i13, .ref q14, .ref q15])), (q14, .inr (2, [.ref q16])), (q16, .inl (E.2.1, 81, .inl f17)), (q15, .inr (2, [.ref q18])), (q18, .inl (E.2.1, 81, .inl f19))] rfl rfl rfl ?_
            refine V_pick [0, 1, 2, 3, 5, 6] [(0, .ref q1), (1, .ref q2), (2, .int i3), (3, .int i59), (5, .int i61), (6, .int i62)] rfl ?_
            exact hk73 z75
      · intro k66 hk67
        refine V_if_ne (dX5_find_p0 39 rfl) 84 (by decide) 77 rfl ?_ ?_
        · refine V_aload_n (dX5_find_p0 44 rfl) 85 rfl 0 rfl ?_
          refine V_get gf_T_74 0 rfl rfl (dX5_find_p0 45 rfl) 88 rfl ?_
          exact hk67 i11
        · refine V_iload_n (dX5_find_p0 40 rfl) 78 rfl 3 rfl ?_
          refine V_iload (dX5_find_p0 41 rfl) 80 rfl 6 rfl ?_
          refine V_isub (dX5_find_p0 42 rfl) 81 rfl ?_
          refine V_goto (dX5_find_p0 43 rfl) 88 (by decide) ?_
          exact hk67 (i59 - i62)
set_option maxRecDepth 20000 in
theorem vLX5_find_L55 {E : EX} {K : KX} (hs : K.l.stackTraces = false) (q1 q4 q5 q7 q2 q14 q15 q16 q18 : Nat) (i11 i12 i13 : Int32) (f17 f19 : Nat → Int32) (i3 i59 : Int32) (f65 : Nat → Int32) (bc bs : Nat)   : ∀ (n : Nat) (i60 i61 i62 i63 : Int32) (f64 : Nat → Int32), V E K mX5_find (Qm E K mX5_find (zX5_find E q1 q4 q5 q7 q2 q14 q15 q16 q18 i11 i12 i13 f17 f19)) (bc) (bs) [(q1, .inr (3, [.ref q4, .ref q5, .int i11])), (q4, .inr (4, [.ref q7, .int i63])), (q7, .inl (E.2.1, 10, .inl f64)), (q5, .inl (E.2.1, 9, .inl f65)), (q2, .inr (1, [.int i11, .int i12, .int i13, .ref q14, .ref q15])), (q14, .inr (2, [.ref q16])), (q16, .inl (E.2.1, 81, .inl f17)), (q15, .inr (2, [.ref q18])), (q18, .inl (E.2.1, 81, .inl f19))] 55 [(0, .ref q1), (1, .ref q2), (2, .int i3), (3, .int i59), (4, .int i60), (5, .int i61), (6, .int i62)] [] (LX5_find_L55  i11 i13 i3 i59 f65 n i60 i61 i62 i63 f64 )
  | 0, _, _, _, _, _ => V_none
  | n + 1, i60, i61, i62, i63, f64 => vBX5_find_L55 hs q1 q4 q5 q7 q2 q14 q15 q16 q18 i11 i12 i13 f17 f19 i3 i59 f65 bc bs i60 i61 i62 i63 f64 (fun i60 i61 i62 i63 f64 => vLX5_find_L55 hs q1 q4 q5 q7 q2 q14 q15 q16 q18 i11 i12 i13 f17 f19 i3 i59 f65 bc bs  n i60 i61 i62 i63 f64) 
set_option maxRecDepth 20000 in
theorem kX5_find {E : EX} {l : Launch} (hl : l.stackTraces = false) (q1 q2 q4 q5 q7 q14 q15 q16 q18 : Nat) (i6 i8 : Int32) (f9 f10 : Nat → Int32) (i11 i12 i13 : Int32) (f17 f19 : Nat → Int32) (i3 : Int32) : Ct E l mX5_find [.ref q1, .ref q2, .int i3] [(q1, .inr (3, [.ref q4, .ref q5, .int i6])), (q4, .inr (4, [.ref q7, .int i8])), (q7, .inl (E.2.1, 10, .inl f9)), (q5, .inl (E.2.1, 9, .inl f10)), (q2, .inr (1, [.int i11, .int i12, .int i13, .ref q14, .ref q15])), (q14, .inr (2, [.ref q16])), (q16, .inl (E.2.1, 81, .inl f17)), (q15, .inr (2, [.ref q18])), (q18, .inl (E.2.1, 81, .inl f19))] (fX5_find f9 f10 i11 i12 i13 f17 f19 i3) (zX5_find E q1 q4 q5 q7 q2 q14 q15 q16 q18 i11 i12 i13 f17 f19) := Ct_of hl mf_X5_find.1 (Nat.le_of_ble_eq_true rfl) (fun K hs => by
  refine V_less 0 0 (Nat.le_refl _) (Nat.le_refl _) ?_
  refine V_pick [0, 1, 2] [(0, .ref q1), (1, .ref q2), (2, .int i3)] rfl ?_
  unfold fX5_find
  refine V_aload_n (dX5_find_p0 0 rfl) 1 rfl 0 rfl ?_
  refine V_get gf_T_12 0 rfl rfl (dX5_find_p0 1 rfl) 4 rfl ?_
  refine V_callV (M := mX5_find) (wcs := [(q4, .inr (4, [.ref q7, .int i8]))]) (wr := [(q1, .inr (3, [.ref q4, .ref q5, .int i6])), (q7, .inl (E.2.1, 10, .inl f9)), (q5, .inl (E.2.1, 9, .inl f10)), (q2, .inr (1, [.int i11, .int i12, .int i13, .ref q14, .ref q15])), (q14, .inr (2, [.ref q16])), (q16, .inl (E.2.1, 81, .inl f17)), (q15, .inr (2, [.ref q18])), (q18, .inl (E.2.1, 81, .inl f19))]) mf_X4_clear tw_522 tw_323 tw_324 ⟨Nat.le_of_ble_eq_true rfl, Nat.le_of_ble_eq_true rfl⟩ (dX5_find_p0 2 rfl) 7 rfl (kX4_clear hs q4 (.ref q7) i8) rfl [1] [0, 2, 3, 4, 5, 6, 7, 8] (q0 := 0) rfl rfl rfl rfl (by decide) rfl rfl rfl rfl (Nat.le_of_ble_eq_true rfl) 0 0 (show 0 + 0 ≤ 0 from Nat.le_of_ble_eq_true rfl) (show 0 + 0 ≤ 0 from Nat.le_of_ble_eq_true rfl) (fun z20 v w hz => ?_)
  obtain ⟨rfl, rfl⟩ := hz
  show V E K mX5_find (Qm E K mX5_find (zX5_find E q1 q4 q5 q7 q2 q14 q15 q16 q18 i11 i12 i13 f17 f19)) 0 0 [(q1, .inr (3, [.ref q4, .ref q5, .int i6])), (q7, .inl (E.2.1, 10, .inl f9)), (q5, .inl (E.2.1, 9, .inl f10)), (q2, .inr (1, [.int i11, .int i12, .int i13, .ref q14, .ref q15])), (q14, .inr (2, [.ref q16])), (q16, .inl (E.2.1, 81, .inl f17)), (q15, .inr (2, [.ref q18])), (q18, .inl (E.2.1, 81, .inl f19)), (q4, .inr (4, [.ref q7, .int (0 : Int32)]))] 7 [(0, .ref q1), (1, .ref q2), (2, .int i3)] [] _
  refine V_aload_n (dX5_find_p0 3 rfl) 8 rfl 0 rfl ?_
  refine V_aload_n (dX5_find_p0 4 rfl) 9 rfl 1 rfl ?_
  refine V_callV (M := mX5_find) (wcs := [(q1, .inr (3, [.ref q4, .ref q5, .int i6])), (q5, .inl (E.2.1, 9, .inl f10)), (q2, .inr (1, [.int i11, .int i12, .int i13, .ref q14, .ref q15])), (q14, .inr (2, [.ref q16])), (q16, .inl (E.2.1, 81, .inl f17)), (q15, .inr (2, [.ref q18])), (q18, .inl (E.2.1, 81, .inl f19))]) (wr := [(q7, .inl (E.2.1, 10, .inl f9)), (q4, .inr (4, [.ref q7, .int (0 : Int32)]))]) mf_X5_look tw_523 tw_525 tw_7 ⟨Nat.le_of_ble_eq_true rfl, Nat.le_of_ble_eq_true rfl⟩ (dX5_find_p0 5 rfl) 12 rfl (kX5_look hs q1 q2 q5 q14 q15 q16 q18 (.ref q4) i6 f10 i11 i12 i13 f17 f19) rfl [0, 2, 3, 4, 5, 6, 7] [1, 8] (q0 := 0) rfl rfl rfl rfl (by decide) rfl rfl rfl rfl (Nat.le_of_ble_eq_true rfl) 0 0 (show 0 + 0 ≤ 0 from Nat.le_of_ble_eq_true rfl) (show 0 + 0 ≤ 0 from Nat.le_of_ble_eq_true rfl) (fun z21 v w hz => ?_)
  obtain ⟨rfl, rfl⟩ := hz
  show V E K mX5_find (Qm E K mX5_find (zX5_find E q1 q4 q5 q7 q2 q14 q15 q16 q18 i11 i12 i13 f17 f19)) 0 0 [(q7, .inl (E.2.1, 10, .inl f9)), (q4, .inr (4, [.ref q7, .int (0 : Int32)])), (q1, .inr (3, [.ref q4, .ref q5, .int i11])), (q5, .inl (E.2.1, 9, .inl z21)), (q2, .inr (1, [.int i11, .int i12, .int i13, .ref q14, .ref q15])), (q14, .inr (2, [.ref q16])), (q16, .inl (E.2.1, 81, .inl f17)), (q15, .inr (2, [.ref q18])), (q18, .inl (E.2.1, 81, .inl f19))] 12 [(0, .ref q1), (1, .ref q2), (2, .int i3)] [] _
  refine V_aload_n (dX5_find_p0 6 rfl) 13 rfl 0 rfl ?_
  refine V_aload_n (dX5_find_p0 7 rfl) 14 rfl 1 rfl ?_
  refine V_getN gf_T_61 4 rfl rfl (dX5_find_p0 8 rfl) 17 rfl ?_
  refine V_aload_n (dX5_find_p0 9 rfl) 18 rfl 1 rfl ?_
  refine V_getN gf_T_64 4 rfl rfl (dX5_find_p0 10 rfl) 21 rfl ?_
  refine V_callV (M := mX5_find) (wcs := [(q1, .inr (3, [.ref q4, .ref q5, .int i11])), (q5, .inl (E.2.1, 9, .inl z21))]) (wr := [(q7, .inl (E.2.1, 10, .inl f9)), (q4, .inr (4, [.ref q7, .int (0 : Int32)])), (q2, .inr (1, [.int i11, .int i12, .int i13, .ref q14, .ref q15])), (q14, .inr (2, [.ref q16])), (q16, .inl (E.2.1, 81, .inl f17)), (q15, .inr (2, [.ref q18])), (q18, .inl (E.2.1, 81, .inl f19))]) mf_X5_stepsBetween tw_528 tw_530 tw_8 ⟨Nat.le_of_ble_eq_true rfl, Nat.le_of_ble_eq_true rfl⟩ (dX5_find_p0 11 rfl) 24 rfl (kX5_stepsBetween hs q1 q5 (.ref q4) i11 z21 i12 i13) rfl [2, 3] [0, 1, 4, 5, 6, 7, 8] (q0 := 0) rfl rfl rfl rfl (by decide) rfl rfl rfl rfl (Nat.le_of_ble_eq_true rfl) 0 0 (show 0 + 0 ≤ 0 from Nat.le_of_ble_eq_true rfl) (show 0 + 0 ≤ 0 from Nat.le_of_ble_eq_true rfl) (fun z22 v w hz => ?_)
  obtain ⟨rfl, rfl⟩ := hz
  show V E K mX5_find (Qm E K mX5_find (zX5_find E q1 q4 q5 q7 q2 q14 q15 q16 q18 i11 i12 i13 f17 f19)) 0 0 [(q7, .inl (E.2.1, 10, .inl f9)), (q4, .inr (4, [.ref q7, .int (0 : Int32)])), (q2, .inr (1, [.int i11, .int i12, .int i13, .ref q14, .ref q15])), (q14, .inr (2, [.ref q16])), (q16, .inl (E.2.1, 81, .inl f17)), (q15, .inr (2, [.ref q18])), (q18, .inl (E.2.1, 81, .inl f19)), (q1, .inr (3, [.ref q4, .ref q5, .int i11])), (q5, .inl (E.2.1, 9, .inl z21))] 24 [(0, .ref q1), (1, .ref q2), (2, .int i3)] [.int z22] _
  refine V_istore_n (dX5_find_p0 12 rfl) 25 rfl [(0, .ref q1), (1, .ref q2), (2, .int i3), (3, .int z22)] (Nat.le_of_ble_eq_true rfl) rfl ?_
  refine V_iload_n (dX5_find_p0 13 rfl) 26 rfl 3 rfl ?_
  refine V_iconst (-1 : Int32) (by decide) (dX5_find_p0 14 rfl) 27 rfl ?_
  refine V_icmp_ne (dX5_find_p0 15 rfl) 31 (by decide) 30 rfl ?_ ?_
  · refine V_aload_n (dX5_find_p0 17 rfl) 32 rfl 1 rfl ?_
    refine V_getN gf_T_61 2 rfl rfl (dX5_find_p0 18 rfl) 35 rfl ?_
    refine V_istore (dX5_find_p0 19 rfl) 37 rfl [(0, .ref q1), (1, .ref q2), (2, .int i3), (3, .int z22), (4, .int i12)] (Nat.le_of_ble_eq_true rfl) rfl ?_
    refine V_iconst (1 : Int32) (by decide) (dX5_find_p0 20 rfl) 38 rfl ?_
    refine V_iload (dX5_find_p0 21 rfl) 40 rfl 4 rfl ?_
    refine V_ishl (dX5_find_p0 22 rfl) 41 rfl ?_
    refine V_nmI (fun i23 => ?_)
    refine V_istore (dX5_find_p0 23 rfl) 43 rfl [(0, .ref q1), (1, .ref q2), (2, .int i3), (3, .int z22), (4, .int i12), (5, .int i23)] (Nat.le_of_ble_eq_true rfl) rfl ?_
    refine V_aload_n (dX5_find_p0 24 rfl) 44 rfl 0 rfl ?_
    refine V_get gf_T_12 7 rfl rfl (dX5_find_p0 25 rfl) 47 rfl ?_
    refine V_iload (dX5_find_p0 26 rfl) 49 rfl 4 rfl ?_
    refine V_callV (M := mX5_find) (wcs := [(q4, .inr (4, [.ref q7, .int (0 : Int32)])), (q7, .inl (E.2.1, 10, .inl f9))]) (wr := [(q2, .inr (1, [.int i11, .int i12, .int i13, .ref q14, .ref q15])), (q14, .inr (2, [.ref q16])), (q16, .inl (E.2.1, 81, .inl f17)), (q15, .inr (2, [.ref q18])), (q18, .inl (E.2.1, 81, .inl f19)), (q1, .inr (3, [.ref q4, .ref q5, .int i11])), (q5, .inl (E.2.1, 9, .inl z21))]) mf_X4_add tw_537 tw_327 tw_328 ⟨Nat.le_of_ble_eq_true rfl, Nat.le_of_ble_eq_true rfl⟩ (dX5_find_p0 27 rfl) 52 rfl (kX4_add hs q4 q7 (0 : Int32) f9 i12) rfl [1, 0] [2, 3, 4, 5, 6, 7, 8] (q0 := 0) rfl rfl rfl rfl (by decide) rfl rfl rfl rfl (Nat.le_of_ble_eq_true rfl) 0 0 (show 0 + 0 ≤ 0 from Nat.le_of_ble_eq_true rfl) (show 0 + 0 ≤ 0 from Nat.le_of_ble_eq_true rfl) (fun z24 v w hz => ?_)
    obtain ⟨rfl, rfl⟩ := hz
    show V E K mX5_find (Qm E K mX5_find (zX5_find E q1 q4 q5 q7 q2 q14 q15 q16 q18 i11 i12 i13 f17 f19)) 0 0 [(q2, .inr (1, [.int i11, .int i12, .int i13, .ref q14, .ref q15])), (q14, .inr (2, [.ref q16])), (q16, .inl (E.2.1, 81, .inl f17)), (q15, .inr (2, [.ref q18])), (q18, .inl (E.2.1, 81, .inl f19)), (q1, .inr (3, [.ref q4, .ref q5, .int i11])), (q5, .inl (E.2.1, 9, .inl z21)), (q4, .inr (4, [.ref q7, .int z24.1])), (q7, .inl (E.2.1, 10, .inl z24.2))] 52 [(0, .ref q1), (1, .ref q2), (2, .int i3), (3, .int z22), (4, .int i12), (5, .int i23)] [] _
    refine V_iconst (1 : Int32) (by decide) (dX5_find_p0 28 rfl) 53 rfl ?_
    refine V_istore (dX5_find_p0 29 rfl) 55 rfl [(0, .ref q1), (1, .ref q2), (2, .int i3), (3, .int z22), (4, .int i12), (5, .int i23), (6, .int (1 : Int32))] (Nat.le_of_ble_eq_true rfl) rfl ?_
    refine V_world [5, 7, 8, 6, 0, 1, 2, 3, 4] [(q1, .inr (3, [.ref q4, .ref q5, .int i11])), (q4, .inr (4, [.ref q7, .int z24.1])), (q7, .inl (E.2.1, 10, .inl z24.2)), (q5, .inl (E.2.1, 9, .inl z21)), (q2, .inr (1, [.int i11, .int i12, .int i13, .ref q14, .ref q15])), (q14, .inr (2, [.ref q16])), (q16, .inl (E.2.1, 81, .inl f17)), (q15, .inr (2, [.ref q18])), (q18, .inl (E.2.1, 81, .inl f19))] rfl rfl rfl ?_
    refine vLX5_find_L55 hs q1 q4 q5 q7 q2 q14 q15 q16 q18 i11 i12 i13 f17 f19 i3 z22 z21 0 0  12 i12 i23 (1 : Int32) z24.1 z24.2
  · refine V_world [7, 1, 0, 8, 2, 3, 4, 5, 6] [(q1, .inr (3, [.ref q4, .ref q5, .int i11])), (q4, .inr (4, [.ref q7, .int (0 : Int32)])), (q7, .inl (E.2.1, 10, .inl f9)), (q5, .inl (E.2.1, 9, .inl z21)), (q2, .inr (1, [.int i11, .int i12, .int i13, .ref q14, .ref q15])), (q14, .inr (2, [.ref q16])), (q16, .inl (E.2.1, 81, .inl f17)), (q15, .inr (2, [.ref q18])), (q18, .inl (E.2.1, 81, .inl f19))] rfl rfl rfl ?_
    exact V_vret rfl (dX5_find_p0 16 rfl) ⟨rfl, rfl⟩)
set_option maxRecDepth 20000 in
theorem vBX5_leastLeft_L5 {E : EX} {K : KX} (hs : K.l.stackTraces = false) (q1 q3 q6 q2 q12 q13 q14 q16 : Nat) (v4 : Value) (i5 i7 : Int32) (f8 : Nat → Int32) (i9 i10 i11 : Int32) (f15 f17 : Nat → Int32) (bc bs : Nat) (i39 i40 : Int32) {rec : Int32 → Int32 → Option (Int32)}  (hrec : ∀ (i39 i40 : Int32), V E K mX5_leastLeft (Qm E K mX5_leastLeft (zX5_leastLeft E q1 q3 q6 q2 q12 q13 q14 q16 v4 i5 i7 f8 i9 i10 i11 f15 f17)) (bc) (bs) [(q1, .inr (3, [.ref q3, v4, .int i5])), (q3, .inr (4, [.ref q6, .int i7])), (q6, .inl (E.2.1, 10, .inl f8)), (q2, .inr (1, [.int i9, .int i10, .int i11, .ref q12, .ref q13])), (q12, .inr (2, [.ref q14])), (q14, .inl (E.2.1, 81, .inl f15)), (q13, .inr (2, [.ref q16])), (q16, .inl (E.2.1, 81, .inl f17))] 5 [(0, .ref q1), (1, .ref q2), (2, .int i39), (3, .int i40)] [] (rec i39 i40))  : V E K mX5_leastLeft (Qm E K mX5_leastLeft (zX5_leastLeft E q1 q3 q6 q2 q12 q13 q14 q16 v4 i5 i7 f8 i9 i10 i11 f15 f17)) (bc) (bs) [(q1, .inr (3, [.ref q3, v4, .int i5])), (q3, .inr (4, [.ref q6, .int i7])), (q6, .inl (E.2.1, 10, .inl f8)), (q2, .inr (1, [.int i9, .int i10, .int i11, .ref q12, .ref q13])), (q12, .inr (2, [.ref q14])), (q14, .inl (E.2.1, 81, .inl f15)), (q13, .inr (2, [.ref q16])), (q16, .inl (E.2.1, 81, .inl f17))] 5 [(0, .ref q1), (1, .ref q2), (2, .int i39), (3, .int i40)] [] (BX5_leastLeft_L5  i7 f8 f15 f17 i39 i40 rec ) := by
  unfold BX5_leastLeft_L5
  refine V_iload_n (dX5_leastLeft 4 rfl) 6 rfl 3 rfl ?_
  refine V_aload_n (dX5_leastLeft 5 rfl) 7 rfl 0 rfl ?_
  refine V_get gf_T_12 0 rfl rfl (dX5_leastLeft 6 rfl) 10 rfl ?_
  refine V_getN gf_T_26 1 rfl rfl (dX5_leastLeft 7 rfl) 13 rfl ?_
  refine V_icmp_ge (dX5_leastLeft 8 rfl) 49 (by decide) 16 rfl ?_ ?_
  · refine V_iload_n (dX5_leastLeft 26 rfl) 50 rfl 2 rfl ?_
    exact V_iret rfl (dX5_leastLeft 27 rfl) ⟨rfl, rfl⟩
  · refine V_iload_n (dX5_leastLeft 9 rfl) 17 rfl 2 rfl ?_
    refine V_aload_n (dX5_leastLeft 10 rfl) 18 rfl 1 rfl ?_
    refine V_aload_n (dX5_leastLeft 11 rfl) 19 rfl 0 rfl ?_
    refine V_get gf_T_12 0 rfl rfl (dX5_leastLeft 12 rfl) 22 rfl ?_
    refine V_iload_n (dX5_leastLeft 13 rfl) 23 rfl 3 rfl ?_
    refine V_iconst (1 : Int32) (by decide) (dX5_leastLeft 14 rfl) 24 rfl ?_
    refine V_isub (dX5_leastLeft 15 rfl) 25 rfl ?_
    refine V_callV (M := mX5_leastLeft) (wcs := [(q3, .inr (4, [.ref q6, .int i7])), (q6, .inl (E.2.1, 10, .inl f8))]) (wr := [(q1, .inr (3, [.ref q3, v4, .int i5])), (q2, .inr (1, [.int i9, .int i10, .int i11, .ref q12, .ref q13])), (q12, .inr (2, [.ref q14])), (q14, .inl (E.2.1, 81, .inl f15)), (q13, .inr (2, [.ref q16])), (q16, .inl (E.2.1, 81, .inl f17))]) mf_X4_at tw_555 tw_336 tw_337 ⟨Nat.le_of_ble_eq_true rfl, Nat.le_of_ble_eq_true rfl⟩ (dX5_leastLeft 16 rfl) 28 rfl (kX4_at hs q3 q6 i7 f8 (i40 - (1 : Int32))) rfl [1, 2] [0, 3, 4, 5, 6, 7] (q0 := 0) rfl rfl rfl rfl (by decide) rfl rfl rfl rfl (Nat.le_of_ble_eq_true rfl) (bc) (bs) (show (bc) + 0 ≤ (bc) by omega) (show (bs) + 0 ≤ (bs) by omega) (fun z41 v w hz => ?_)
    obtain ⟨rfl, rfl⟩ := hz
    show V E K mX5_leastLeft (Qm E K mX5_leastLeft (zX5_leastLeft E q1 q3 q6 q2 q12 q13 q14 q16 v4 i5 i7 f8 i9 i10 i11 f15 f17)) (bc) (bs) [(q1, .inr (3, [.ref q3, v4, .int i5])), (q2, .inr (1, [.int i9, .int i10, .int i11, .ref q12, .ref q13])), (q12, .inr (2, [.ref q14])), (q14, .inl (E.2.1, 81, .inl f15)), (q13, .inr (2, [.ref q16])), (q16, .inl (E.2.1, 81, .inl f17)), (q3, .inr (4, [.ref q6, .int i7])), (q6, .inl (E.2.1, 10, .inl f8))] 28 [(0, .ref q1), (1, .ref q2), (2, .int i39), (3, .int i40)] [.int z41, .ref q2, .int i39] _
    refine V_aload_n (dX5_leastLeft 17 rfl) 29 rfl 0 rfl ?_
    refine V_get gf_T_12 0 rfl rfl (dX5_leastLeft 18 rfl) 32 rfl ?_
    refine V_iload_n (dX5_leastLeft 19 rfl) 33 rfl 3 rfl ?_
    refine V_callV (M := mX5_leastLeft) (wcs := [(q3, .inr (4, [.ref q6, .int i7])), (q6, .inl (E.2.1, 10, .inl f8))]) (wr := [(q1, .inr (3, [.ref q3, v4, .int i5])), (q2, .inr (1, [.int i9, .int i10, .int i11, .ref q12, .ref q13])), (q12, .inr (2, [.ref q14])), (q14, .inl (E.2.1, 81, .inl f15)), (q13, .inr (2, [.ref q16])), (q16, .inl (E.2.1, 81, .inl f17))]) mf_X4_at tw_555 tw_336 tw_337 ⟨Nat.le_of_ble_eq_true rfl, Nat.le_of_ble_eq_true rfl⟩ (dX5_leastLeft 20 rfl) 36 rfl (kX4_at hs q3 q6 i7 f8 i40) rfl [6, 7] [0, 1, 2, 3, 4, 5] (q0 := 0) rfl rfl rfl rfl (by decide) rfl rfl rfl rfl (Nat.le_of_ble_eq_true rfl) (bc) (bs) (show (bc) + 0 ≤ (bc) by omega) (show (bs) + 0 ≤ (bs) by omega) (fun z42 v w hz => ?_)
    obtain ⟨rfl, rfl⟩ := hz
    show V E K mX5_leastLeft (Qm E K mX5_leastLeft (zX5_leastLeft E q1 q3 q6 q2 q12 q13 q14 q16 v4 i5 i7 f8 i9 i10 i11 f15 f17)) (bc) (bs) [(q1, .inr (3, [.ref q3, v4, .int i5])), (q2, .inr (1, [.int i9, .int i10, .int i11, .ref q12, .ref q13])), (q12, .inr (2, [.ref q14])), (q14, .inl (E.2.1, 81, .inl f15)), (q13, .inr (2, [.ref q16])), (q16, .inl (E.2.1, 81, .inl f17)), (q3, .inr (4, [.ref q6, .int i7])), (q6, .inl (E.2.1, 10, .inl f8))] 36 [(0, .ref q1), (1, .ref q2), (2, .int i39), (3, .int i40)] [.int z42, .int z41, .ref q2, .int i39] _
    refine V_callV (M := mX5_leastLeft) (wcs := [(q2, .inr (1, [.int i9, .int i10, .int i11, .ref q12, .ref q13])), (q12, .inr (2, [.ref q14])), (q14, .inl (E.2.1, 81, .inl f15)), (q13, .inr (2, [.ref q16])), (q16, .inl (E.2.1, 81, .inl f17))]) (wr := [(q1, .inr (3, [.ref q3, v4, .int i5])), (q3, .inr (4, [.ref q6, .int i7])), (q6, .inl (E.2.1, 10, .inl f8))]) mf_X2_leftOf tw_556 tw_557 tw_558 ⟨Nat.le_of_ble_eq_true rfl, Nat.le_of_ble_eq_true rfl⟩ (dX5_leastLeft 21 rfl) 39 rfl (kX2_leftOf hs q2 q12 q13 q14 q16 i9 i10 i11 f15 f17 z41 z42) rfl [1, 2, 3, 4, 5] [0, 6, 7] (q0 := 0) rfl rfl rfl rfl (by decide) rfl rfl rfl rfl (Nat.le_of_ble_eq_true rfl) (bc) (bs) (show (bc) + 0 ≤ (bc) by omega) (show (bs) + 0 ≤ (bs) by omega) (fun z43 v w hz => ?_)
    obtain ⟨rfl, rfl⟩ := hz
    show V E K mX5_leastLeft (Qm E K mX5_leastLeft (zX5_leastLeft E q1 q3 q6 q2 q12 q13 q14 q16 v4 i5 i7 f8 i9 i10 i11 f15 f17)) (bc) (bs) [(q1, .inr (3, [.ref q3, v4, .int i5])), (q3, .inr (4, [.ref q6, .int i7])), (q6, .inl (E.2.1, 10, .inl f8)), (q2, .inr (1, [.int i9, .int i10, .int i11, .ref q12, .ref q13])), (q12, .inr (2, [.ref q14])), (q14, .inl (E.2.1, 81, .inl f15)), (q13, .inr (2, [.ref q16])), (q16, .inl (E.2.1, 81, .inl f17))] 39 [(0, .ref q1), (1, .ref q2), (2, .int i39), (3, .int i40)] [.int z43, .int i39] _
    refine V_mmin tw_560 tw_341 tw_82 tw_342 (Nat.le_of_ble_eq_true rfl) (Nat.le_of_ble_eq_true rfl) (dX5_leastLeft 22 rfl) 42 rfl ?_
    refine V_nmI (fun i44 => ?_)
    refine V_istore_n (dX5_leastLeft 23 rfl) 43 rfl [(0, .ref q1), (1, .ref q2), (2, .int i44), (3, .int i40)] (Nat.le_of_ble_eq_true rfl) rfl ?_
    refine V_iinc (dX5_leastLeft 24 rfl) 46 rfl 3 rfl (i40 + (1 : Int32)) rfl [(0, .ref q1), (1, .ref q2), (2, .int i44), (3, .int (i40 + (1 : Int32)))] (Nat.le_of_ble_eq_true rfl) rfl ?_
    refine V_goto (dX5_leastLeft 25 rfl) 5 (by decide) ?_
    exact hrec i44 (i40 + (1 : Int32))
set_option maxRecDepth 20000 in
theorem vLX5_leastLeft_L5 {E : EX} {K : KX} (hs : K.l.stackTraces = false) (q1 q3 q6 q2 q12 q13 q14 q16 : Nat) (v4 : Value) (i5 i7 : Int32) (f8 : Nat → Int32) (i9 i10 i11 : Int32) (f15 f17 : Nat → Int32) (bc bs : Nat)   : ∀ (n : Nat) (i39 i40 : Int32), V E K mX5_leastLeft (Qm E K mX5_leastLeft (zX5_leastLeft E q1 q3 q6 q2 q12 q13 q14 q16 v4 i5 i7 f8 i9 i10 i11 f15 f17)) (bc) (bs) [(q1, .inr (3, [.ref q3, v4, .int i5])), (q3, .inr (4, [.ref q6, .int i7])), (q6, .inl (E.2.1, 10, .inl f8)), (q2, .inr (1, [.int i9, .int i10, .int i11, .ref q12, .ref q13])), (q12, .inr (2, [.ref q14])), (q14, .inl (E.2.1, 81, .inl f15)), (q13, .inr (2, [.ref q16])), (q16, .inl (E.2.1, 81, .inl f17))] 5 [(0, .ref q1), (1, .ref q2), (2, .int i39), (3, .int i40)] [] (LX5_leastLeft_L5  i7 f8 f15 f17 n i39 i40 )
  | 0, _, _ => V_none
  | n + 1, i39, i40 => vBX5_leastLeft_L5 hs q1 q3 q6 q2 q12 q13 q14 q16 v4 i5 i7 f8 i9 i10 i11 f15 f17 bc bs i39 i40 (fun i39 i40 => vLX5_leastLeft_L5 hs q1 q3 q6 q2 q12 q13 q14 q16 v4 i5 i7 f8 i9 i10 i11 f15 f17 bc bs  n i39 i40) 
set_option maxRecDepth 20000 in
theorem kX5_leastLeft {E : EX} {l : Launch} (hl : l.stackTraces = false) (q1 q2 q3 q6 q12 q13 q14 q16 : Nat) (v4 : Value) (i5 i7 : Int32) (f8 : Nat → Int32) (i9 i10 i11 : Int32) (f15 f17 : Nat → Int32) : Ct E l mX5_leastLeft [.ref q1, .ref q2] [(q1, .inr (3, [.ref q3, v4, .int i5])), (q3, .inr (4, [.ref q6, .int i7])), (q6, .inl (E.2.1, 10, .inl f8)), (q2, .inr (1, [.int i9, .int i10, .int i11, .ref q12, .ref q13])), (q12, .inr (2, [.ref q14])), (q14, .inl (E.2.1, 81, .inl f15)), (q13, .inr (2, [.ref q16])), (q16, .inl (E.2.1, 81, .inl f17))] (fX5_leastLeft i7 f8 f15 f17) (zX5_leastLeft E q1 q3 q6 q2 q12 q13 q14 q16 v4 i5 i7 f8 i9 i10 i11 f15 f17) := Ct_of hl mf_X5_leastLeft.1 (Nat.le_of_ble_eq_true rfl) (fun K hs => by
  refine V_less 0 0 (Nat.le_refl _) (Nat.le_refl _) ?_
  refine V_pick [0, 1] [(0, .ref q1), (1, .ref q2)] rfl ?_
  unfold fX5_leastLeft
  refine V_ldc (M := mX5_leastLeft) (v := (2147483647 : Int32)) tw_554 (dX5_leastLeft 0 rfl) 2 rfl ?_
  refine V_istore_n (dX5_leastLeft 1 rfl) 3 rfl [(0, .ref q1), (1, .ref q2), (2, .int (2147483647 : Int32))] (Nat.le_of_ble_eq_true rfl) rfl ?_
  refine V_iconst (1 : Int32) (by decide) (dX5_leastLeft 2 rfl) 4 rfl ?_
  refine V_istore_n (dX5_leastLeft 3 rfl) 5 rfl [(0, .ref q1), (1, .ref q2), (2, .int (2147483647 : Int32)), (3, .int (1 : Int32))] (Nat.le_of_ble_eq_true rfl) rfl ?_
  refine vLX5_leastLeft_L5 hs q1 q3 q6 q2 q12 q13 q14 q16 v4 i5 i7 f8 i9 i10 i11 f15 f17 0 0  12 (2147483647 : Int32) (1 : Int32))
set_option maxRecDepth 20000 in
theorem vBX5_fillTimes_L3 {E : EX} {K : KX} (hs : K.l.stackTraces = false) (q1 q5 q6 q8 q2 q15 q16 q17 q19 : Nat) (i12 i13 i14 : Int32) (f18 : Nat → Int32) (i3 i4 : Int32) (bc bs : Nat) (i43 i44 i45 : Int32) (f46 f47 f48 : Nat → Int32) {rec : Int32 → Int32 → Int32 → (Nat → Int32) → (Nat → Int32) → (Nat → Int32) → Option (Int32 × Int32 × Int32 × (Nat → Int32) × (Nat → Int32) × (Nat → Int32))}  (hrec : ∀ (i43 i44 i45 : Int32) (f46 f47 f48 : Nat → Int32), V E K mX5_fillTimes (Qm E K mX5_fillTimes (zX5_fillTimes E q1 q5 q6 q8 q2 q15 q16 q17 q19 i12 i13 i14 f18)) (bc) (bs) [(q1, .inr (3, [.ref q5, .ref q6, .int i44])), (q5, .inr (4, [.ref q8, .int i45])), (q8, .inl (E.2.1, 10, .inl f46)), (q6, .inl (E.2.1, 9, .inl f47)), (q2, .inr (1, [.int i12, .int i13, .int i14, .ref q15, .ref q16])), (q15, .inr (2, [.ref q17])), (q17, .inl (E.2.1, 81, .inl f18)), (q16, .inr (2, [.ref q19])), (q19, .inl (E.2.1, 81, .inl f48))] 3 [(0, .ref q1), (1, .ref q2), (2, .int i3), (3, .int i4), (4, .int i43)] [] (rec i43 i44 i45 f46 f47 f48))  : V E K mX5_fillTimes (Qm E K mX5_fillTimes (zX5_fillTimes E q1 q5 q6 q8 q2 q15 q16 q17 q19 i12 i13 i14 f18)) (bc) (bs) [(q1, .inr (3, [.ref q5, .ref q6, .int i44])), (q5, .inr (4, [.ref q8, .int i45])), (q8, .inl (E.2.1, 10, .inl f46)), (q6, .inl (E.2.1, 9, .inl f47)), (q2, .inr (1, [.int i12, .int i13, .int i14, .ref q15, .ref q16])), (q15, .inr (2, [.ref q17])), (q17, .inl (E.2.1, 81, .inl f18)), (q16, .inr (2, [.ref q19])), (q19, .inl (E.2.1, 81, .inl f48))] 3 [(0, .ref q1), (1, .ref q2), (2, .int i3), (3, .int i4), (4, .int i43)] [] (BX5_fillTimes_L3  i12 i13 i14 f18 i3 i4 i43 i44 i45 f46 f47 f48 rec ) := by
  unfold BX5_fillTimes_L3
  refine V_iload (dX5_fillTimes 2 rfl) 5 rfl 4 rfl ?_
  refine V_iload_n (dX5_fillTimes 3 rfl) 6 rfl 3 rfl ?_
  refine V_icmp_ge (dX5_fillTimes 4 rfl) 47 (by decide) 9 rfl ?_ ?_
  · refine V_iload_n (dX5_fillTimes 24 rfl) 48 rfl 3 rfl ?_
    exact V_iret rfl (dX5_fillTimes 25 rfl) ⟨rfl, rfl⟩
  · refine V_aload_n (dX5_fillTimes 5 rfl) 10 rfl 0 rfl ?_
    refine V_aload_n (dX5_fillTimes 6 rfl) 11 rfl 1 rfl ?_
    refine V_iload_n (dX5_fillTimes 7 rfl) 12 rfl 2 rfl ?_
    refine V_callV (M := mX5_fillTimes) (wcs := [(q1, .inr (3, [.ref q5, .ref q6, .int i44])), (q5, .inr (4, [.ref q8, .int i45])), (q8, .inl (E.2.1, 10, .inl f46)), (q6, .inl (E.2.1, 9, .inl f47)), (q2, .inr (1, [.int i12, .int i13, .int i14, .ref q15, .ref q16])), (q15, .inr (2, [.ref q17])), (q17, .inl (E.2.1, 81, .inl f18)), (q16, .inr (2, [.ref q19])), (q19, .inl (E.2.1, 81, .inl f48))]) (wr := []) mf_X5_find tw_518 tw_519 tw_520 ⟨Nat.le_of_ble_eq_true rfl, Nat.le_of_ble_eq_true rfl⟩ (dX5_fillTimes 8 rfl) 15 rfl (kX5_find hs q1 q2 q5 q6 q8 q15 q16 q17 q19 i44 i45 f46 f47 i12 i13 i14 f18 f48 i3) rfl [0, 1, 2, 3, 4, 5, 6, 7, 8] [] (q0 := 0) rfl rfl rfl rfl (by decide) rfl rfl rfl rfl (Nat.le_of_ble_eq_true rfl) (bc) (bs) (show (bc) + 0 ≤ (bc) by omega) (show (bs) + 0 ≤ (bs) by omega) (fun z49 v w hz => ?_)
    obtain ⟨rfl, rfl⟩ := hz
    show V E K mX5_fillTimes (Qm E K mX5_fillTimes (zX5_fillTimes E q1 q5 q6 q8 q2 q15 q16 q17 q19 i12 i13 i14 f18)) (bc) (bs) [(q1, .inr (3, [.ref q5, .ref q6, .int i12])), (q5, .inr (4, [.ref q8, .int z49.1])), (q8, .inl (E.2.1, 10, .inl z49.2.1)), (q6, .inl (E.2.1, 9, .inl z49.2.2)), (q2, .inr (1, [.int i12, .int i13, .int i14, .ref q15, .ref q16])), (q15, .inr (2, [.ref q17])), (q17, .inl (E.2.1, 81, .inl f18)), (q16, .inr (2, [.ref q19])), (q19, .inl (E.2.1, 81, .inl f48))] 15 [(0, .ref q1), (1, .ref q2), (2, .int i3), (3, .int i4), (4, .int i43)] [] _
    refine V_aload_n (dX5_fillTimes 9 rfl) 16 rfl 0 rfl ?_
    refine V_get gf_T_12 0 rfl rfl (dX5_fillTimes 10 rfl) 19 rfl ?_
    refine V_getN gf_T_26 1 rfl rfl (dX5_fillTimes 11 rfl) 22 rfl ?_
    refine V_if_ne (dX5_fillTimes 12 rfl) 28 (by decide) 25 rfl ?_ ?_
    · refine V_aload_n (dX5_fillTimes 15 rfl) 29 rfl 1 rfl ?_
      refine V_aload_n (dX5_fillTimes 16 rfl) 30 rfl 0 rfl ?_
      refine V_get gf_T_12 0 rfl rfl (dX5_fillTimes 17 rfl) 33 rfl ?_
      refine V_aload_n (dX5_fillTimes 18 rfl) 34 rfl 0 rfl ?_
      refine V_aload_n (dX5_fillTimes 19 rfl) 35 rfl 1 rfl ?_
      refine V_callV (M := mX5_fillTimes) (wcs := [(q1, .inr (3, [.ref q5, .ref q6, .int i12])), (q5, .inr (4, [.ref q8, .int z49.1])), (q8, .inl (E.2.1, 10, .inl z49.2.1)), (q2, .inr (1, [.int i12, .int i13, .int i14, .ref q15, .ref q16])), (q15, .inr (2, [.ref q17])), (q17, .inl (E.2.1, 81, .inl f18)), (q16, .inr (2, [.ref q19])), (q19, .inl (E.2.1, 81, .inl f48))]) (wr := [(q6, .inl (E.2.1, 9, .inl z49.2.2))]) mf_X5_leastLeft tw_550 tw_552 tw_13 ⟨Nat.le_of_ble_eq_true rfl, Nat.le_of_ble_eq_true rfl⟩ (dX5_fillTimes 20 rfl) 38 rfl (kX5_leastLeft hs q1 q2 q5 q8 q15 q16 q17 q19 (.ref q6) i12 z49.1 z49.2.1 i12 i13 i14 f18 f48) rfl [0, 1, 2, 4, 5, 6, 7, 8] [3] (q0 := 0) rfl rfl rfl rfl (by decide) rfl rfl rfl rfl (Nat.le_of_ble_eq_true rfl) (bc) (bs) (show (bc) + 0 ≤ (bc) by omega) (show (bs) + 0 ≤ (bs) by omega) (fun z50 v w hz => ?_)
      obtain ⟨rfl, rfl⟩ := hz
      show V E K mX5_fillTimes (Qm E K mX5_fillTimes (zX5_fillTimes E q1 q5 q6 q8 q2 q15 q16 q17 q19 i12 i13 i14 f18)) (bc) (bs) [(q6, .inl (E.2.1, 9, .inl z49.2.2)), (q1, .inr (3, [.ref q5, .ref q6, .int i12])), (q5, .inr (4, [.ref q8, .int z49.1])), (q8, .inl (E.2.1, 10, .inl z49.2.1)), (q2, .inr (1, [.int i12, .int i13, .int i14, .ref q15, .ref q16])), (q15, .inr (2, [.ref q17])), (q17, .inl (E.2.1, 81, .inl f18)), (q16, .inr (2, [.ref q19])), (q19, .inl (E.2.1, 81, .inl f48))] 38 [(0, .ref q1), (1, .ref q2), (2, .int i3), (3, .int i4), (4, .int i43)] [.int z50, .ref q5, .ref q2] _
      refine V_callV (M := mX5_fillTimes) (wcs := [(q2, .inr (1, [.int i12, .int i13, .int i14, .ref q15, .ref q16])), (q16, .inr (2, [.ref q19])), (q19, .inl (E.2.1, 81, .inl f48)), (q5, .inr (4, [.ref q8, .int z49.1])), (q8, .inl (E.2.1, 10, .inl z49.2.1))]) (wr := [(q6, .inl (E.2.1, 9, .inl z49.2.2)), (q1, .inr (3, [.ref q5, .ref q6, .int i12])), (q15, .inr (2, [.ref q17])), (q17, .inl (E.2.1, 81, .inl f18))]) mf_X2_carryAlong tw_561 tw_361 tw_362 ⟨Nat.le_of_ble_eq_true rfl, Nat.le_of_ble_eq_true rfl⟩ (dX5_fillTimes 21 rfl) 41 rfl (kX2_carryAlong hs q2 q5 q16 q19 q8 i12 i13 i14 (.ref q15) f48 z49.1 z49.2.1 z50) rfl [4, 7, 8, 2, 3] [0, 1, 5, 6] (q0 := 0) rfl rfl rfl rfl (by decide) rfl rfl rfl rfl (Nat.le_of_ble_eq_true rfl) (bc) (bs) (show (bc) + 0 ≤ (bc) by omega) (show (bs) + 0 ≤ (bs) by omega) (fun z51 v w hz => ?_)
      obtain ⟨rfl, rfl⟩ := hz
      show V E K mX5_fillTimes (Qm E K mX5_fillTimes (zX5_fillTimes E q1 q5 q6 q8 q2 q15 q16 q17 q19 i12 i13 i14 f18)) (bc) (bs) [(q6, .inl (E.2.1, 9, .inl z49.2.2)), (q1, .inr (3, [.ref q5, .ref q6, .int i12])), (q15, .inr (2, [.ref q17])), (q17, .inl (E.2.1, 81, .inl f18)), (q2, .inr (1, [.int i12, .int i13, .int i14, .ref q15, .ref q16])), (q16, .inr (2, [.ref q19])), (q19, .inl (E.2.1, 81, .inl z51)), (q5, .inr (4, [.ref q8, .int z49.1])), (q8, .inl (E.2.1, 10, .inl z49.2.1))] 41 [(0, .ref q1), (1, .ref q2), (2, .int i3), (3, .int i4), (4, .int i43)] [] _
      refine V_iinc (dX5_fillTimes 22 rfl) 44 rfl 4 rfl (i43 + (1 : Int32)) rfl [(0, .ref q1), (1, .ref q2), (2, .int i3), (3, .int i4), (4, .int (i43 + (1 : Int32)))] (Nat.le_of_ble_eq_true rfl) rfl ?_
      refine V_goto (dX5_fillTimes 23 rfl) 3 (by decide) ?_
      refine V_world [1, 7, 8, 0, 4, 2, 3, 5, 6] [(q1, .inr (3, [.ref q5, .ref q6, .int i12])), (q5, .inr (4, [.ref q8, .int z49.1])), (q8, .inl (E.2.1, 10, .inl z49.2.1)), (q6, .inl (E.2.1, 9, .inl z49.2.2)), (q2, .inr (1, [.int i12, .int i13, .int i14, .ref q15, .ref q16])), (q15, .inr (2, [.ref q17])), (q17, .inl (E.2.1, 81, .inl f18)), (q16, .inr (2, [.ref q19])), (q19, .inl (E.2.1, 81, .inl z51))] rfl rfl rfl ?_
      exact hrec (i43 + (1 : Int32)) i12 z49.1 z49.2.1 z49.2.2 z51
    · refine V_iload (dX5_fillTimes 13 rfl) 27 rfl 4 rfl ?_
      exact V_iret rfl (dX5_fillTimes 14 rfl) ⟨rfl, rfl⟩
set_option maxRecDepth 20000 in
theorem vLX5_fillTimes_L3 {E : EX} {K : KX} (hs : K.l.stackTraces = false) (q1 q5 q6 q8 q2 q15 q16 q17 q19 : Nat) (i12 i13 i14 : Int32) (f18 : Nat → Int32) (i3 i4 : Int32) (bc bs : Nat)   : ∀ (n : Nat) (i43 i44 i45 : Int32) (f46 f47 f48 : Nat → Int32), V E K mX5_fillTimes (Qm E K mX5_fillTimes (zX5_fillTimes E q1 q5 q6 q8 q2 q15 q16 q17 q19 i12 i13 i14 f18)) (bc) (bs) [(q1, .inr (3, [.ref q5, .ref q6, .int i44])), (q5, .inr (4, [.ref q8, .int i45])), (q8, .inl (E.2.1, 10, .inl f46)), (q6, .inl (E.2.1, 9, .inl f47)), (q2, .inr (1, [.int i12, .int i13, .int i14, .ref q15, .ref q16])), (q15, .inr (2, [.ref q17])), (q17, .inl (E.2.1, 81, .inl f18)), (q16, .inr (2, [.ref q19])), (q19, .inl (E.2.1, 81, .inl f48))] 3 [(0, .ref q1), (1, .ref q2), (2, .int i3), (3, .int i4), (4, .int i43)] [] (LX5_fillTimes_L3  i12 i13 i14 f18 i3 i4 n i43 i44 i45 f46 f47 f48 )
  | 0, _, _, _, _, _, _ => V_none
  | n + 1, i43, i44, i45, f46, f47, f48 => vBX5_fillTimes_L3 hs q1 q5 q6 q8 q2 q15 q16 q17 q19 i12 i13 i14 f18 i3 i4 bc bs i43 i44 i45 f46 f47 f48 (fun i43 i44 i45 f46 f47 f48 => vLX5_fillTimes_L3 hs q1 q5 q6 q8 q2 q15 q16 q17 q19 i12 i13 i14 f18 i3 i4 bc bs  n i43 i44 i45 f46 f47 f48) 
set_option maxRecDepth 20000 in
theorem kX5_fillTimes {E : EX} {l : Launch} (hl : l.stackTraces = false) (q1 q2 q5 q6 q8 q15 q16 q17 q19 : Nat) (i7 i9 : Int32) (f10 f11 : Nat → Int32) (i12 i13 i14 : Int32) (f18 f20 : Nat → Int32) (i3 i4 : Int32) : Ct E l mX5_fillTimes [.ref q1, .ref q2, .int i3, .int i4] [(q1, .inr (3, [.ref q5, .ref q6, .int i7])), (q5, .inr (4, [.ref q8, .int i9])), (q8, .inl (E.2.1, 10, .inl f10)), (q6, .inl (E.2.1, 9, .inl f11)), (q2, .inr (1, [.int i12, .int i13, .int i14, .ref q15, .ref q16])), (q15, .inr (2, [.ref q17])), (q17, .inl (E.2.1, 81, .inl f18)), (q16, .inr (2, [.ref q19])), (q19, .inl (E.2.1, 81, .inl f20))] (fX5_fillTimes i7 i9 f10 f11 i12 i13 i14 f18 f20 i3 i4) (zX5_fillTimes E q1 q5 q6 q8 q2 q15 q16 q17 q19 i12 i13 i14 f18) := Ct_of hl mf_X5_fillTimes.1 (Nat.le_of_ble_eq_true rfl) (fun K hs => by
  refine V_less 0 0 (Nat.le_refl _) (Nat.le_refl _) ?_
  refine V_pick [0, 1, 2, 3] [(0, .ref q1), (1, .ref q2), (2, .int i3), (3, .int i4)] rfl ?_
  unfold fX5_fillTimes
  refine V_iconst (0 : Int32) (by decide) (dX5_fillTimes 0 rfl) 1 rfl ?_
  refine V_istore (dX5_fillTimes 1 rfl) 3 rfl [(0, .ref q1), (1, .ref q2), (2, .int i3), (3, .int i4), (4, .int (0 : Int32))] (Nat.le_of_ble_eq_true rfl) rfl ?_
  refine vLX5_fillTimes_L3 hs q1 q5 q6 q8 q2 q15 q16 q17 q19 i12 i13 i14 f18 i3 i4 0 0  1002 (0 : Int32) i7 i9 f10 f11 f20)
set_option maxRecDepth 20000 in
theorem kX5_layerOf {E : EX} {l : Launch} (hl : l.stackTraces = false) (q1 q2 q5 q11 q12 q13 q15 : Nat) (v4 : Value) (i6 : Int32) (f7 : Nat → Int32) (i8 i9 i10 : Int32) (f14 f16 : Nat → Int32) (i3 : Int32) : Ct E l mX5_layerOf [.ref q1, .ref q2, .int i3] [(q1, .inr (3, [v4, .ref q5, .int i6])), (q5, .inl (E.2.1, 9, .inl f7)), (q2, .inr (1, [.int i8, .int i9, .int i10, .ref q11, .ref q12])), (q11, .inr (2, [.ref q13])), (q13, .inl (E.2.1, 81, .inl f14)), (q12, .inr (2, [.ref q15])), (q15, .inl (E.2.1, 81, .inl f16))] (fX5_layerOf f7 i8 i9 f14 f16 i3) (zX5_layerOf E q1 q5 q2 q11 q12 q13 q15 v4 i8 i9 i10 f14 f16) := Ct_of hl mf_X5_layerOf.1 (Nat.le_of_ble_eq_true rfl) (fun K hs => by
  refine V_less 0 0 (Nat.le_refl _) (Nat.le_refl _) ?_
  refine V_pick [0, 1, 2] [(0, .ref q1), (1, .ref q2), (2, .int i3)] rfl ?_
  unfold fX5_layerOf
  refine V_aload_n (dX5_layerOf 0 rfl) 1 rfl 0 rfl ?_
  refine V_aload_n (dX5_layerOf 1 rfl) 2 rfl 1 rfl ?_
  refine V_callV (M := mX5_layerOf) (wcs := [(q1, .inr (3, [v4, .ref q5, .int i6])), (q5, .inl (E.2.1, 9, .inl f7)), (q2, .inr (1, [.int i8, .int i9, .int i10, .ref q11, .ref q12])), (q11, .inr (2, [.ref q13])), (q13, .inl (E.2.1, 81, .inl f14)), (q12, .inr (2, [.ref q15])), (q15, .inl (E.2.1, 81, .inl f16))]) (wr := []) mf_X5_look tw_523 tw_525 tw_7 ⟨Nat.le_of_ble_eq_true rfl, Nat.le_of_ble_eq_true rfl⟩ (dX5_layerOf 2 rfl) 5 rfl (kX5_look hs q1 q2 q5 q11 q12 q13 q15 v4 i6 f7 i8 i9 i10 f14 f16) rfl [0, 1, 2, 3, 4, 5, 6] [] (q0 := 0) rfl rfl rfl rfl (by decide) rfl rfl rfl rfl (Nat.le_of_ble_eq_true rfl) 0 0 (show 0 + 0 ≤ 0 from Nat.le_of_ble_eq_true rfl) (show 0 + 0 ≤ 0 from Nat.le_of_ble_eq_true rfl) (fun z17 v w hz => ?_)
  obtain ⟨rfl, rfl⟩ := hz
  show V E K mX5_layerOf (Qm E K mX5_layerOf (zX5_layerOf E q1 q5 q2 q11 q12 q13 q15 v4 i8 i9 i10 f14 f16)) 0 0 [(q1, .inr (3, [v4, .ref q5, .int i8])), (q5, .inl (E.2.1, 9, .inl z17)), (q2, .inr (1, [.int i8, .int i9, .int i10, .ref q11, .ref q12])), (q11, .inr (2, [.ref q13])), (q13, .inl (E.2.1, 81, .inl f14)), (q12, .inr (2, [.ref q15])), (q15, .inl (E.2.1, 81, .inl f16))] 5 [(0, .ref q1), (1, .ref q2), (2, .int i3)] [] _
  refine V_aload_n (dX5_layerOf 3 rfl) 6 rfl 0 rfl ?_
  refine V_aload_n (dX5_layerOf 4 rfl) 7 rfl 1 rfl ?_
  refine V_getN gf_T_61 2 rfl rfl (dX5_layerOf 5 rfl) 10 rfl ?_
  refine V_iload_n (dX5_layerOf 6 rfl) 11 rfl 2 rfl ?_
  refine V_callV (M := mX5_layerOf) (wcs := [(q1, .inr (3, [v4, .ref q5, .int i8])), (q5, .inl (E.2.1, 9, .inl z17))]) (wr := [(q2, .inr (1, [.int i8, .int i9, .int i10, .ref q11, .ref q12])), (q11, .inr (2, [.ref q13])), (q13, .inl (E.2.1, 81, .inl f14)), (q12, .inr (2, [.ref q15])), (q15, .inl (E.2.1, 81, .inl f16))]) mf_X5_stepsBetween tw_528 tw_530 tw_8 ⟨Nat.le_of_ble_eq_true rfl, Nat.le_of_ble_eq_true rfl⟩ (dX5_layerOf 7 rfl) 14 rfl (kX5_stepsBetween hs q1 q5 v4 i8 z17 i9 i3) rfl [0, 1] [2, 3, 4, 5, 6] (q0 := 0) rfl rfl rfl rfl (by decide) rfl rfl rfl rfl (Nat.le_of_ble_eq_true rfl) 0 0 (show 0 + 0 ≤ 0 from Nat.le_of_ble_eq_true rfl) (show 0 + 0 ≤ 0 from Nat.le_of_ble_eq_true rfl) (fun z18 v w hz => ?_)
  obtain ⟨rfl, rfl⟩ := hz
  show V E K mX5_layerOf (Qm E K mX5_layerOf (zX5_layerOf E q1 q5 q2 q11 q12 q13 q15 v4 i8 i9 i10 f14 f16)) 0 0 [(q2, .inr (1, [.int i8, .int i9, .int i10, .ref q11, .ref q12])), (q11, .inr (2, [.ref q13])), (q13, .inl (E.2.1, 81, .inl f14)), (q12, .inr (2, [.ref q15])), (q15, .inl (E.2.1, 81, .inl f16)), (q1, .inr (3, [v4, .ref q5, .int i8])), (q5, .inl (E.2.1, 9, .inl z17))] 14 [(0, .ref q1), (1, .ref q2), (2, .int i3)] [.int z18] _
  refine V_world [5, 6, 0, 1, 2, 3, 4] [(q1, .inr (3, [v4, .ref q5, .int i8])), (q5, .inl (E.2.1, 9, .inl z17)), (q2, .inr (1, [.int i8, .int i9, .int i10, .ref q11, .ref q12])), (q11, .inr (2, [.ref q13])), (q13, .inl (E.2.1, 81, .inl f14)), (q12, .inr (2, [.ref q15])), (q15, .inl (E.2.1, 81, .inl f16))] rfl rfl rfl ?_
  exact V_iret rfl (dX5_layerOf 8 rfl) ⟨rfl, rfl⟩)
