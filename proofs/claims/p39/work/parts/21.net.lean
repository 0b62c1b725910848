/-! by program: 21.net -/
abbrev mX4_init : MX := (yX4_init, cX4_init, 1, (Option.none : Option FieldType), { frames := 1, cells := 1, slots := 10, locals := 24 })
abbrev zX4_init (E : EX) (q1 : Nat) (i3 : Int32) : (Unit) → Option Value → va_W → Prop := fun z v w => ∃ q5 : Nat, v = none ∧ w = [(q1, .inr (4, [.ref q5, .int i3])), (q5, .inl (E.2.1, 10, .inl (fun _ => 0)))]
abbrev mX4_clear : MX := (yX4_clear, cX4_clear, 1, (Option.none : Option FieldType), { frames := 0, cells := 0, slots := 0, locals := 0 })
abbrev zX4_clear (E : EX) (q1 : Nat) (v2 : Value) : (Unit) → Option Value → va_W → Prop := fun z v w => v = none ∧ w = [(q1, .inr (4, [v2, .int (0 : Int32)]))]
abbrev mX4_add : MX := (yX4_add, cX4_add, 2, (Option.none : Option FieldType), { frames := 0, cells := 0, slots := 0, locals := 0 })
abbrev zX4_add (E : EX) (q1 : Nat) (q3 : Nat) : (Int32 × (Nat → Int32)) → Option Value → va_W → Prop := fun z v w => v = none ∧ w = [(q1, .inr (4, [.ref q3, .int z.1])), (q3, .inl (E.2.1, 10, .inl z.2))]
abbrev mX4_at : MX := (yX4_at, cX4_at, 2, (some FieldType.int), { frames := 0, cells := 0, slots := 0, locals := 0 })
abbrev zX4_at (E : EX) (q1 : Nat) (q3 : Nat) (i4 : Int32) (f5 : Nat → Int32) : (Int32) → Option Value → va_W → Prop := fun z v w => v = some (.int z) ∧ w = [(q1, .inr (4, [.ref q3, .int i4])), (q3, .inl (E.2.1, 10, .inl f5))]
abbrev mX4_startAt : MX := (yX4_startAt, cX4_startAt, 5, (Option.none : Option FieldType), { frames := 1, cells := 0, slots := 0, locals := 21 })
abbrev zX4_startAt (E : EX) (q1 : Nat) (q3 : Nat) : (Int32 × (Nat → Int32)) → Option Value → va_W → Prop := fun z v w => v = none ∧ w = [(q1, .inr (4, [.ref q3, .int z.1])), (q3, .inl (E.2.1, 10, .inl z.2))]
abbrev mX2_init : MX := (yX2_init, cX2_init, 1, (Option.none : Option FieldType), { frames := 2, cells := 4, slots := 164, locals := 44 })
abbrev zX2_init (E : EX) (q1 : Nat) (i2 : Int32) (i3 : Int32) (i4 : Int32) : (Unit) → Option Value → va_W → Prop := fun z v w => ∃ q13 : Nat, ∃ q14 : Nat, ∃ q15 : Nat, ∃ q16 : Nat, v = none ∧ w = [(q1, .inr (1, [.int i2, .int i3, .int i4, .ref q13, .ref q15])), (q13, .inr (2, [.ref q14])), (q14, .inl (E.2.1, 81, .inl (fun _ => 0))), (q15, .inr (2, [.ref q16])), (q16, .inl (E.2.1, 81, .inl (fun _ => 0)))]
abbrev mX2_begin : MX := (yX2_begin, cX2_begin, 2, (Option.none : Option FieldType), { frames := 1, cells := 0, slots := 0, locals := 21 })
abbrev zX2_begin (E : EX) (q1 : Nat) (q6 : Nat) (q7 : Nat) (q8 : Nat) (q10 : Nat) (i2 : Int32) : (Int32 × (Nat → Int32) × (Nat → Int32)) → Option Value → va_W → Prop := fun z v w => v = none ∧ w = [(q1, .inr (1, [.int i2, .int (0 : Int32), .int z.1, .ref q6, .ref q7])), (q6, .inr (2, [.ref q8])), (q8, .inl (E.2.1, 81, .inl z.2.1)), (q7, .inr (2, [.ref q10])), (q10, .inl (E.2.1, 81, .inl z.2.2))]
abbrev mX2_become : MX := (yX2_become, cX2_become, 2, (Option.none : Option FieldType), { frames := 1, cells := 0, slots := 0, locals := 22 })
abbrev zX2_become (E : EX) (q1 : Nat) (q6 : Nat) (q7 : Nat) (q8 : Nat) (q10 : Nat) (q2 : Nat) (q15 : Nat) (q16 : Nat) (q17 : Nat) (q19 : Nat) (i12 : Int32) (i13 : Int32) (i14 : Int32) (f18 : Nat → Int32) (f20 : Nat → Int32) : ((Nat → Int32) × (Nat → Int32)) → Option Value → va_W → Prop := fun z v w => v = none ∧ w = [(q1, .inr (1, [.int i12, .int i13, .int i14, .ref q6, .ref q7])), (q6, .inr (2, [.ref q8])), (q8, .inl (E.2.1, 81, .inl z.1)), (q7, .inr (2, [.ref q10])), (q10, .inl (E.2.1, 81, .inl z.2)), (q2, .inr (1, [.int i12, .int i13, .int i14, .ref q15, .ref q16])), (q15, .inr (2, [.ref q17])), (q17, .inl (E.2.1, 81, .inl f18)), (q16, .inr (2, [.ref q19])), (q19, .inl (E.2.1, 81, .inl f20))]
abbrev mX2_allPlaces : MX := (yX2_allPlaces, cX2_allPlaces, 1, (some FieldType.int), { frames := 0, cells := 0, slots := 0, locals := 0 })
abbrev zX2_allPlaces (E : EX) (q1 : Nat) (i2 : Int32) (i3 : Int32) (i4 : Int32) (v5 : Value) (v6 : Value) : (Int32) → Option Value → va_W → Prop := fun z v w => v = some (.int z) ∧ w = [(q1, .inr (1, [.int i2, .int i3, .int i4, v5, v6]))]
abbrev mX2_nextInCircle : MX := (yX2_nextInCircle, cX2_nextInCircle, 2, (some FieldType.int), { frames := 0, cells := 0, slots := 0, locals := 0 })
abbrev zX2_nextInCircle (E : EX) (q1 : Nat) (i3 : Int32) (i4 : Int32) (i5 : Int32) (v6 : Value) (v7 : Value) : (Int32) → Option Value → va_W → Prop := fun z v w => v = some (.int z) ∧ w = [(q1, .inr (1, [.int i3, .int i4, .int i5, v6, v7]))]
abbrev mX2_leftOf : MX := (yX2_leftOf, cX2_leftOf, 3, (some FieldType.int), { frames := 1, cells := 0, slots := 0, locals := 22 })
abbrev zX2_leftOf (E : EX) (q1 : Nat) (q7 : Nat) (q8 : Nat) (q9 : Nat) (q11 : Nat) (i4 : Int32) (i5 : Int32) (i6 : Int32) (f10 : Nat → Int32) (f12 : Nat → Int32) : (Int32) → Option Value → va_W → Prop := fun z v w => v = some (.int z) ∧ w = [(q1, .inr (1, [.int i4, .int i5, .int i6, .ref q7, .ref q8])), (q7, .inr (2, [.ref q9])), (q9, .inl (E.2.1, 81, .inl f10)), (q8, .inr (2, [.ref q11])), (q11, .inl (E.2.1, 81, .inl f12))]
abbrev mX2_valueNow : MX := (yX2_valueNow, cX2_valueNow, 1, (some FieldType.int), { frames := 2, cells := 0, slots := 0, locals := 46 })
abbrev zX2_valueNow (E : EX) (q1 : Nat) (q6 : Nat) (q7 : Nat) (i2 : Int32) (i3 : Int32) (i4 : Int32) (v5 : Value) (f8 : Nat → Int32) : (Int32) → Option Value → va_W → Prop := fun z v w => v = some (.int z) ∧ w = [(q1, .inr (1, [.int i2, .int i3, .int i4, v5, .ref q6])), (q6, .inr (2, [.ref q7])), (q7, .inl (E.2.1, 81, .inl f8))]
abbrev mX2_roomInAll : MX := (yX2_roomInAll, cX2_roomInAll, 3, (some FieldType.int), { frames := 2, cells := 0, slots := 0, locals := 46 })
abbrev zX2_roomInAll (E : EX) (q1 : Nat) (q5 : Nat) (q7 : Nat) (i2 : Int32) (i3 : Int32) (i4 : Int32) (v6 : Value) (f8 : Nat → Int32) : (Int32) → Option Value → va_W → Prop := fun z v w => v = some (.int z) ∧ w = [(q1, .inr (1, [.int i2, .int i3, .int i4, .ref q5, v6])), (q5, .inr (2, [.ref q7])), (q7, .inl (E.2.1, 81, .inl f8))]
abbrev mX2_carry : MX := (yX2_carry, cX2_carry, 4, (Option.none : Option FieldType), { frames := 1, cells := 0, slots := 0, locals := 23 })
abbrev zX2_carry (E : EX) (q1 : Nat) (q9 : Nat) (q10 : Nat) (i5 : Int32) (i6 : Int32) (i7 : Int32) (v8 : Value) : ((Nat → Int32)) → Option Value → va_W → Prop := fun z v w => v = none ∧ w = [(q1, .inr (1, [.int i5, .int i6, .int i7, v8, .ref q9])), (q9, .inr (2, [.ref q10])), (q10, .inl (E.2.1, 81, .inl z))]
abbrev mX2_carryAlong : MX := (yX2_carryAlong, cX2_carryAlong, 4, (Option.none : Option FieldType), { frames := 2, cells := 0, slots := 0, locals := 46 })
abbrev zX2_carryAlong (E : EX) (q1 : Nat) (q8 : Nat) (q9 : Nat) (q2 : Nat) (q11 : Nat) (i4 : Int32) (i5 : Int32) (i6 : Int32) (v7 : Value) (i12 : Int32) (f13 : Nat → Int32) : ((Nat → Int32)) → Option Value → va_W → Prop := fun z v w => v = none ∧ w = [(q1, .inr (1, [.int i4, .int i5, .int i6, v7, .ref q8])), (q8, .inr (2, [.ref q9])), (q9, .inl (E.2.1, 81, .inl z)), (q2, .inr (4, [.ref q11, .int i12])), (q11, .inl (E.2.1, 10, .inl f13))]
abbrev mX2_turn : MX := (yX2_turn, cX2_turn, 2, (Option.none : Option FieldType), { frames := 3, cells := 0, slots := 0, locals := 71 })
abbrev zX2_turn (E : EX) (q1 : Nat) (q5 : Nat) (q6 : Nat) (q7 : Nat) (q9 : Nat) (i2 : Int32) (i4 : Int32) (i3 : Int32) : ((Nat → Int32) × (Nat → Int32)) → Option Value → va_W → Prop := fun z v w => v = none ∧ w = [(q1, .inr (1, [.int i2, .int i4, .int i3, .ref q5, .ref q6])), (q5, .inr (2, [.ref q7])), (q7, .inl (E.2.1, 81, .inl z.1)), (q6, .inr (2, [.ref q9])), (q9, .inl (E.2.1, 81, .inl z.2))]
abbrev mX2_exchanged : MX := (yX2_exchanged, cX2_exchanged, 3, (some FieldType.int), { frames := 0, cells := 0, slots := 0, locals := 0 })
abbrev zX2_exchanged (E : EX)  : (Int32) → Option Value → va_W → Prop := fun z v w => v = some (.int z) ∧ w = []
abbrev mX2_exchange : MX := (yX2_exchange, cX2_exchange, 3, (Option.none : Option FieldType), { frames := 3, cells := 0, slots := 0, locals := 72 })
abbrev zX2_exchange (E : EX) (q1 : Nat) (q7 : Nat) (q8 : Nat) (q9 : Nat) (q11 : Nat) (i4 : Int32) : (Int32 × Int32 × (Nat → Int32) × (Nat → Int32)) → Option Value → va_W → Prop := fun z v w => v = none ∧ w = [(q1, .inr (1, [.int i4, .int z.1, .int z.2.1, .ref q7, .ref q8])), (q7, .inr (2, [.ref q9])), (q9, .inl (E.2.1, 81, .inl z.2.2.1)), (q8, .inr (2, [.ref q11])), (q11, .inl (E.2.1, 81, .inl z.2.2.2))]
abbrev mX2_narrowToOne : MX := (yX2_narrowToOne, cX2_narrowToOne, 3, (Option.none : Option FieldType), { frames := 1, cells := 0, slots := 0, locals := 24 })
abbrev zX2_narrowToOne (E : EX) (q1 : Nat) (q5 : Nat) (q7 : Nat) (i2 : Int32) (i3 : Int32) (i4 : Int32) (v6 : Value) : ((Nat → Int32)) → Option Value → va_W → Prop := fun z v w => v = none ∧ w = [(q1, .inr (1, [.int i2, .int i3, .int i4, .ref q5, v6])), (q5, .inr (2, [.ref q7])), (q7, .inl (E.2.1, 81, .inl z))]
abbrev mX2_isFlowLet : MX := (yX2_isFlowLet, cX2_isFlowLet, 3, (some FieldType.boolean), { frames := 2, cells := 0, slots := 0, locals := 44 })
abbrev zX2_isFlowLet (E : EX) (q1 : Nat) (q5 : Nat) (q6 : Nat) (q7 : Nat) (q9 : Nat) (i2 : Int32) (i3 : Int32) (i4 : Int32) (f8 : Nat → Int32) (f10 : Nat → Int32) : (Int32) → Option Value → va_W → Prop := fun z v w => v = some (.int z) ∧ w = [(q1, .inr (1, [.int i2, .int i3, .int i4, .ref q5, .ref q6])), (q5, .inr (2, [.ref q7])), (q7, .inl (E.2.1, 81, .inl f8)), (q6, .inr (2, [.ref q9])), (q9, .inl (E.2.1, 81, .inl f10))]
abbrev mX2_isKept : MX := (yX2_isKept, cX2_isKept, 2, (some FieldType.boolean), { frames := 2, cells := 0, slots := 0, locals := 46 })
abbrev zX2_isKept (E : EX) (q1 : Nat) (q6 : Nat) (q7 : Nat) (i2 : Int32) (i3 : Int32) (i4 : Int32) (v5 : Value) (f8 : Nat → Int32) : (Int32) → Option Value → va_W → Prop := fun z v w => v = some (.int z) ∧ w = [(q1, .inr (1, [.int i2, .int i3, .int i4, v5, .ref q6])), (q6, .inr (2, [.ref q7])), (q7, .inl (E.2.1, 81, .inl f8))]
noncomputable def fX4_init   : Option (Unit) :=
  some ()
noncomputable def fX4_clear   : Option (Unit) :=
  some ()
noncomputable def fX4_add  (i4 : Int32) (f5 : Nat → Int32) (i2 : Int32) : Option (Int32 × (Nat → Int32)) :=
  if i4 < (0 : Int32) then (some (i4, f5)) else (if (10 : Int32) ≤ i4 then (some (i4, f5)) else (inB i4 10 (some (i4 + (1 : Int32), upd f5 i4.toNatClampNeg i2))))
noncomputable def fX4_at  (f5 : Nat → Int32) (i2 : Int32) : Option (Int32) :=
  if i2 < (0 : Int32) then (some (-1 : Int32)) else (if (10 : Int32) ≤ i2 then (some (-1 : Int32)) else (inB i2 10 (some (f5 i2.toNatClampNeg))))
noncomputable def BX4_startAt_L2  (i2 : Int32) (i4 : Int32) (f5 : Nat → Int32) (i12 : Int32) (rec : Int32 → Option (Int32 × (Nat → Int32))) (k1 : Int32 → Option (Int32 × (Nat → Int32))) : Option (Int32 × (Nat → Int32)) :=
  if i4 ≤ i12 then (k1 i12) else ((fX4_at f5 i12).bind (fun z13 => if z13 = i2 then (k1 i12) else (rec (i12 + (1 : Int32)))))
noncomputable def LX4_startAt_L2  (i2 : Int32) (i4 : Int32) (f5 : Nat → Int32) : Nat → Int32 → (Int32 → Option (Int32 × (Nat → Int32))) → Option (Int32 × (Nat → Int32))
  | 0, _, _ => none
  | n + 1, i12, k1 => BX4_startAt_L2  i2 i4 f5 i12 (fun i12 => LX4_startAt_L2  i2 i4 f5 n i12 k1) k1
noncomputable def BX4_startAt_L37  (i4 : Int32) (i23 : Int32) (i24 : Int32) (f25 : Nat → Int32) (rec : Int32 → Int32 → (Nat → Int32) → Option (Int32 × (Nat → Int32)))  : Option (Int32 × (Nat → Int32)) :=
  if i4 ≤ i23 then (some (i24, f25)) else ((fX4_at f25 i23).bind (fun z26 => (fX4_add i24 f25 z26).bind (fun z27 => rec (i23 + (1 : Int32)) z27.1 z27.2)))
noncomputable def LX4_startAt_L37  (i4 : Int32) : Nat → Int32 → Int32 → (Nat → Int32) → Option (Int32 × (Nat → Int32))
  | 0, _, _, _ => none
  | n + 1, i23, i24, f25 => BX4_startAt_L37  i4 i23 i24 f25 (fun i23 i24 f25 => LX4_startAt_L37  i4 n i23 i24 f25 ) 
noncomputable def fX4_startAt  (i4 : Int32) (f5 : Nat → Int32) (i2 : Int32) : Option (Int32 × (Nat → Int32)) :=
  LX4_startAt_L2  i2 i4 f5 12 (0 : Int32) (fun (i14 : Int32) => (fX4_clear ).bind (fun z15 => LX4_startAt_L37  i4 12 i14 (0 : Int32) f5 ))
noncomputable def fX2_init   : Option (Unit) :=
  (fX1_init ).bind (fun z8 => (fX1_init ).bind (fun z11 => some ()))
noncomputable def fX2_begin  (f9 : Nat → Int32) (f11 : Nat → Int32) (i2 : Int32) : Option (Int32 × (Nat → Int32) × (Nat → Int32)) :=
  (fX1_clear f9).bind (fun z12 => (fX1_clear f11).bind (fun z13 => some (i2 - (1 : Int32), z12, z13)))
noncomputable def fX2_become  (f9 : Nat → Int32) (f11 : Nat → Int32) (f18 : Nat → Int32) (f20 : Nat → Int32) : Option ((Nat → Int32) × (Nat → Int32)) :=
  (fX1_become f9 f18).bind (fun z21 => (fX1_become f11 f20).bind (fun z22 => some (z21, z22)))
noncomputable def fX2_allPlaces  (i2 : Int32) : Option (Int32) :=
  some (((1 : Int32) <<< (i2 &&& 31)) - (1 : Int32))
noncomputable def fX2_nextInCircle  (i3 : Int32) (i2 : Int32) : Option (Int32) :=
  if i3 ≤ (i2 + (1 : Int32)) then (some (0 : Int32)) else (some (i2 + (1 : Int32)))
noncomputable def fX2_leftOf  (f10 : Nat → Int32) (f12 : Nat → Int32) (i2 : Int32) (i3 : Int32) : Option (Int32) :=
  (fX1_at f10 i2 i3).bind (fun z13 => (fX1_at f12 i2 i3).bind (fun z14 => some (z13 - z14)))
noncomputable def fX2_valueNow  (i2 : Int32) (i3 : Int32) (f8 : Nat → Int32) : Option (Int32) :=
  (fX1_sumFrom f8 i3 i2).bind (fun z9 => some z9)
noncomputable def BX2_roomInAll_L4  (i2 : Int32) (f8 : Nat → Int32) (i20 : Int32) (i21 : Int32) (rec : Int32 → Int32 → Option (Int32))  : Option (Int32) :=
  if i2 ≤ i21 then (some i20) else ((fX1_sumFrom f8 i21 i2).bind (fun z22 => nm (i20 + z22) (fun (i23 : Int32) => rec i23 (i21 + (1 : Int32)))))
noncomputable def LX2_roomInAll_L4  (i2 : Int32) (f8 : Nat → Int32) : Nat → Int32 → Int32 → Option (Int32)
  | 0, _, _ => none
  | n + 1, i20, i21 => BX2_roomInAll_L4  i2 f8 i20 i21 (fun i20 i21 => LX2_roomInAll_L4  i2 f8 n i20 i21 ) 
noncomputable def fX2_roomInAll  (i2 : Int32) (f8 : Nat → Int32) : Option (Int32) :=
  LX2_roomInAll_L4  i2 f8 12 (0 : Int32) (0 : Int32) 
noncomputable def fX2_carry  (f11 : Nat → Int32) (i2 : Int32) (i3 : Int32) (i4 : Int32) : Option ((Nat → Int32)) :=
  (fX1_at f11 i2 i3).bind (fun z12 => (fX1_put f11 i2 i3 (z12 + i4)).bind (fun z13 => (fX1_at z13 i3 i2).bind (fun z14 => (fX1_put z13 i3 i2 (z14 - i4)).bind (fun z15 => some z15))))
noncomputable def BX2_carryAlong_L2  (i12 : Int32) (f13 : Nat → Int32) (i3 : Int32) (i29 : Int32) (f30 : Nat → Int32) (rec : Int32 → (Nat → Int32) → Option ((Nat → Int32)))  : Option ((Nat → Int32)) :=
  if i12 ≤ i29 then (some f30) else ((fX4_at f13 (i29 - (1 : Int32))).bind (fun z31 => (fX4_at f13 i29).bind (fun z32 => (fX2_carry f30 z31 z32 i3).bind (fun z33 => rec (i29 + (1 : Int32)) z33))))
noncomputable def LX2_carryAlong_L2  (i12 : Int32) (f13 : Nat → Int32) (i3 : Int32) : Nat → Int32 → (Nat → Int32) → Option ((Nat → Int32))
  | 0, _, _ => none
  | n + 1, i29, f30 => BX2_carryAlong_L2  i12 f13 i3 i29 f30 (fun i29 f30 => LX2_carryAlong_L2  i12 f13 i3 n i29 f30 ) 
noncomputable def fX2_carryAlong  (f10 : Nat → Int32) (i12 : Int32) (f13 : Nat → Int32) (i3 : Int32) : Option ((Nat → Int32)) :=
  LX2_carryAlong_L2  i12 f13 i3 12 (1 : Int32) f10 
noncomputable def fX2_turn  (i2 : Int32) (f8 : Nat → Int32) (f10 : Nat → Int32) : Option ((Nat → Int32) × (Nat → Int32)) :=
  (fX1_turn f8 i2).bind (fun z11 => (fX1_turn f10 i2).bind (fun z12 => some (z11, z12)))
noncomputable def fX2_exchanged  (i1 : Int32) (i2 : Int32) (i3 : Int32) : Option (Int32) :=
  if i1 = i2 then (some i3) else (if i1 = i3 then (some i2) else (some i1))
noncomputable def fX2_exchange  (i4 : Int32) (i5 : Int32) (i6 : Int32) (f10 : Nat → Int32) (f12 : Nat → Int32) (i2 : Int32) (i3 : Int32) : Option (Int32 × Int32 × (Nat → Int32) × (Nat → Int32)) :=
  (fX1_exchangePlaces f10 i2 i3 i4).bind (fun z13 => (fX1_exchangePlaces f12 i2 i3 i4).bind (fun z14 => (fX2_exchanged i5 i2 i3).bind (fun z15 => (fX2_exchanged i6 i2 i3).bind (fun z16 => some (z15, z16, z13, z14)))))
noncomputable def BX2_narrowToOne_L12  (i2 : Int32) (i33 : Int32) (i46 : Int32) (f47 : Nat → Int32) (rec : Int32 → (Nat → Int32) → Option ((Nat → Int32))) (k1 : (Nat → Int32) → Option ((Nat → Int32))) : Option ((Nat → Int32)) :=
  if i2 ≤ i46 then (k1 f47) else ((fX1_at f47 i33 i46).bind (fun z48 => (fX1_put f47 i33 i46 (if z48 < (1 : Int32) then z48 else (1 : Int32))).bind (fun z49 => rec (i46 + (1 : Int32)) z49)))
noncomputable def LX2_narrowToOne_L12  (i2 : Int32) (i33 : Int32) : Nat → Int32 → (Nat → Int32) → ((Nat → Int32) → Option ((Nat → Int32))) → Option ((Nat → Int32))
  | 0, _, _, _ => none
  | n + 1, i46, f47, k1 => BX2_narrowToOne_L12  i2 i33 i46 f47 (fun i46 f47 => LX2_narrowToOne_L12  i2 i33 n i46 f47 k1) k1
noncomputable def BX2_narrowToOne_L2  (i2 : Int32) (i33 : Int32) (f34 : Nat → Int32) (rec : Int32 → (Nat → Int32) → Option ((Nat → Int32)))  : Option ((Nat → Int32)) :=
  if i2 ≤ i33 then (some f34) else (LX2_narrowToOne_L12  i2 i33 12 (0 : Int32) f34 (fun (f50 : Nat → Int32) => rec (i33 + (1 : Int32)) f50))
noncomputable def LX2_narrowToOne_L2  (i2 : Int32) : Nat → Int32 → (Nat → Int32) → Option ((Nat → Int32))
  | 0, _, _ => none
  | n + 1, i33, f34 => BX2_narrowToOne_L2  i2 i33 f34 (fun i33 f34 => LX2_narrowToOne_L2  i2 n i33 f34 ) 
noncomputable def fX2_narrowToOne  (i2 : Int32) (f8 : Nat → Int32) : Option ((Nat → Int32)) :=
  LX2_narrowToOne_L2  i2 12 (0 : Int32) f8 
noncomputable def BX2_isFlowLet_L12  (i2 : Int32) (f8 : Nat → Int32) (f10 : Nat → Int32) (i39 : Int32) (i54 : Int32) (rec : Int32 → Option (Int32)) (k1 : Unit → Option (Int32)) : Option (Int32) :=
  if i2 ≤ i54 then (k1 ()) else ((fX2_leftOf f8 f10 i39 i54).bind (fun z55 => if z55 < (0 : Int32) then (some (0 : Int32)) else ((fX1_at f10 i39 i54).bind (fun z56 => (fX1_at f10 i54 i39).bind (fun z57 => if z56 = (-z57) then (rec (i54 + (1 : Int32))) else (some (0 : Int32)))))))
noncomputable def LX2_isFlowLet_L12  (i2 : Int32) (f8 : Nat → Int32) (f10 : Nat → Int32) (i39 : Int32) : Nat → Int32 → (Unit → Option (Int32)) → Option (Int32)
  | 0, _, _ => none
  | n + 1, i54, k1 => BX2_isFlowLet_L12  i2 f8 f10 i39 i54 (fun i54 => LX2_isFlowLet_L12  i2 f8 f10 i39 n i54 k1) k1
noncomputable def BX2_isFlowLet_L2  (i2 : Int32) (f8 : Nat → Int32) (f10 : Nat → Int32) (i39 : Int32) (rec : Int32 → Option (Int32))  : Option (Int32) :=
  if i2 ≤ i39 then (some (1 : Int32)) else (LX2_isFlowLet_L12  i2 f8 f10 i39 12 (0 : Int32) (fun (_ : Unit) => rec (i39 + (1 : Int32))))
noncomputable def LX2_isFlowLet_L2  (i2 : Int32) (f8 : Nat → Int32) (f10 : Nat → Int32) : Nat → Int32 → Option (Int32)
  | 0, _ => none
  | n + 1, i39 => BX2_isFlowLet_L2  i2 f8 f10 i39 (fun i39 => LX2_isFlowLet_L2  i2 f8 f10 n i39 ) 
noncomputable def fX2_isFlowLet  (i2 : Int32) (f8 : Nat → Int32) (f10 : Nat → Int32) : Option (Int32) :=
  LX2_isFlowLet_L2  i2 f8 f10 12 (0 : Int32) 
noncomputable def BX2_isKept_L2  (i2 : Int32) (i3 : Int32) (i4 : Int32) (f8 : Nat → Int32) (i20 : Int32) (rec : Int32 → Option (Int32))  : Option (Int32) :=
  if i2 ≤ i20 then (some (1 : Int32)) else (jn (fun (_ : Unit) => rec (i20 + (1 : Int32))) (fun (k21 : Unit → Option (Int32)) => if i20 = i3 then (k21 ()) else (if i20 = i4 then (k21 ()) else ((fX1_sumFrom f8 i20 i2).bind (fun z23 => if z23 = (0 : Int32) then (k21 ()) else (some (0 : Int32)))))))
noncomputable def LX2_isKept_L2  (i2 : Int32) (i3 : Int32) (i4 : Int32) (f8 : Nat → Int32) : Nat → Int32 → Option (Int32)
  | 0, _ => none
  | n + 1, i20 => BX2_isKept_L2  i2 i3 i4 f8 i20 (fun i20 => LX2_isKept_L2  i2 i3 i4 f8 n i20 ) 
noncomputable def fX2_isKept  (i2 : Int32) (i3 : Int32) (i4 : Int32) (f8 : Nat → Int32) : Option (Int32) :=
  LX2_isKept_L2  i2 i3 i4 f8 12 (0 : Int32) 
theorem pf_R_9 : pfact "Brookmill$Row" 9 4 0 (.array .int) true := ⟨RX4, TX4, 2, tyX4, cf_4, by decide, tw_164, rfl, rfl, by decide⟩
theorem pf_R_15 : pfact "Brookmill$Row" 15 4 1 .int false := ⟨RX4, TX4, 2, tyX4, cf_4, by decide, tw_165, rfl, rfl, by decide⟩
theorem gf_R_15 : gfact "Brookmill$Row" 15 4 1 := ⟨RX4, TX4, 2, tyX4, cf_4, by decide, tw_165⟩
theorem gf_R_9 : gfact "Brookmill$Row" 9 4 0 := ⟨RX4, TX4, 2, tyX4, cf_4, by decide, tw_164⟩
theorem nf_N_7 : nfact "Brookmill$Net" 7 2 1 [.null] := ⟨RX1, TX1, tyX1, cf_2, tw_106, tw_107, tw_67, by decide +kernel⟩
theorem pf_N_10 : pfact "Brookmill$Net" 10 1 3 (.object "Brookmill$Grid") true := ⟨RX2, TX2, 5, tyX2, cf_1, by decide, tw_132, rfl, rfl, by decide⟩
theorem pf_N_16 : pfact "Brookmill$Net" 16 1 4 (.object "Brookmill$Grid") true := ⟨RX2, TX2, 5, tyX2, cf_1, by decide, tw_136, rfl, rfl, by decide⟩
theorem pf_N_19 : pfact "Brookmill$Net" 19 1 0 .int false := ⟨RX2, TX2, 5, tyX2, cf_1, by decide, tw_117, rfl, rfl, by decide⟩
theorem pf_N_23 : pfact "Brookmill$Net" 23 1 1 .int false := ⟨RX2, TX2, 5, tyX2, cf_1, by decide, tw_123, rfl, rfl, by decide⟩
theorem pf_N_26 : pfact "Brookmill$Net" 26 1 2 .int false := ⟨RX2, TX2, 5, tyX2, cf_1, by decide, tw_128, rfl, rfl, by decide⟩
theorem gf_N_10 : gfact "Brookmill$Net" 10 1 3 := ⟨RX2, TX2, 5, tyX2, cf_1, by decide, tw_132⟩
theorem gf_N_16 : gfact "Brookmill$Net" 16 1 4 := ⟨RX2, TX2, 5, tyX2, cf_1, by decide, tw_136⟩
theorem gf_N_19 : gfact "Brookmill$Net" 19 1 0 := ⟨RX2, TX2, 5, tyX2, cf_1, by decide, tw_117⟩
theorem gf_N_23 : gfact "Brookmill$Net" 23 1 1 := ⟨RX2, TX2, 5, tyX2, cf_1, by decide, tw_123⟩
theorem gf_N_26 : gfact "Brookmill$Net" 26 1 2 := ⟨RX2, TX2, 5, tyX2, cf_1, by decide, tw_128⟩
theorem gf_N_47 : gfactN "Brookmill$Net" 47 4 1 := ⟨RX4, TX4, 2, tyX4, "Brookmill", cf_4, by decide, by decide +kernel⟩
theorem mf_X4_init : mfact mX4_init 0 := ⟨by decide +kernel, ⟨by decide +kernel, by decide +kernel⟩, by decide +kernel, tw_162, tw_69⟩
theorem mf_X4_clear : mfact mX4_clear 0 := ⟨by decide +kernel, ⟨by decide +kernel, by decide +kernel⟩, by decide +kernel, tw_325, tw_69⟩
theorem mf_X4_add : mfact mX4_add 1 := ⟨by decide +kernel, ⟨by decide +kernel, by decide +kernel⟩, by decide +kernel, tw_329, tw_69⟩
theorem mf_X4_at : mfact mX4_at 1 := ⟨by decide +kernel, ⟨by decide +kernel, by decide +kernel⟩, by decide +kernel, tw_338, tw_69⟩
theorem mf_X4_startAt : mfact mX4_startAt 1 := ⟨by decide +kernel, ⟨by decide +kernel, by decide +kernel⟩, by decide +kernel, tw_349, tw_69⟩
theorem mf_X2_init : mfact mX2_init 0 := ⟨by decide +kernel, ⟨by decide +kernel, by decide +kernel⟩, by decide +kernel, tw_104, tw_66⟩
theorem mf_X2_begin : mfact mX2_begin 1 := ⟨by decide +kernel, ⟨by decide +kernel, by decide +kernel⟩, by decide +kernel, tw_243, tw_66⟩
theorem mf_X2_become : mfact mX2_become 1 := ⟨by decide +kernel, ⟨by decide +kernel, by decide +kernel⟩, by decide +kernel, tw_505, tw_66⟩
theorem mf_X2_allPlaces : mfact mX2_allPlaces 0 := ⟨by decide +kernel, ⟨by decide +kernel, by decide +kernel⟩, by decide +kernel, tw_386, tw_66⟩
theorem mf_X2_nextInCircle : mfact mX2_nextInCircle 1 := ⟨by decide +kernel, ⟨by decide +kernel, by decide +kernel⟩, by decide +kernel, tw_1071, tw_66⟩
theorem mf_X2_leftOf : mfact mX2_leftOf 2 := ⟨by decide +kernel, ⟨by decide +kernel, by decide +kernel⟩, by decide +kernel, tw_559, tw_66⟩
theorem mf_X2_valueNow : mfact mX2_valueNow 0 := ⟨by decide +kernel, ⟨by decide +kernel, by decide +kernel⟩, by decide +kernel, tw_300, tw_66⟩
theorem mf_X2_roomInAll : mfact mX2_roomInAll 0 := ⟨by decide +kernel, ⟨by decide +kernel, by decide +kernel⟩, by decide +kernel, tw_935, tw_66⟩
theorem mf_X2_carry : mfact mX2_carry 3 := ⟨by decide +kernel, ⟨by decide +kernel, by decide +kernel⟩, by decide +kernel, tw_368, tw_66⟩
theorem mf_X2_carryAlong : mfact mX2_carryAlong 2 := ⟨by decide +kernel, ⟨by decide +kernel, by decide +kernel⟩, by decide +kernel, tw_363, tw_66⟩
theorem mf_X2_turn : mfact mX2_turn 0 := ⟨by decide +kernel, ⟨by decide +kernel, by decide +kernel⟩, by decide +kernel, tw_280, tw_66⟩
theorem mf_X2_exchanged : mfact mX2_exchanged 3 := ⟨by decide +kernel, ⟨by decide +kernel, by decide +kernel⟩, by decide +kernel, tw_1097, tw_66⟩
theorem mf_X2_exchange : mfact mX2_exchange 2 := ⟨by decide +kernel, ⟨by decide +kernel, by decide +kernel⟩, by decide +kernel, tw_1090, tw_66⟩
theorem mf_X2_narrowToOne : mfact mX2_narrowToOne 0 := ⟨by decide +kernel, ⟨by decide +kernel, by decide +kernel⟩, by decide +kernel, tw_997, tw_66⟩
theorem mf_X2_isFlowLet : mfact mX2_isFlowLet 0 := ⟨by decide +kernel, ⟨by decide +kernel, by decide +kernel⟩, by decide +kernel, tw_895, tw_66⟩
theorem mf_X2_isKept : mfact mX2_isKept 0 := ⟨by decide +kernel, ⟨by decide +kernel, by decide +kernel⟩, by decide +kernel, tw_900, tw_66⟩
set_option maxRecDepth 20000 in
theorem kX4_init {E : EX} {l : Launch} (hl : l.stackTraces = false) (q1 : Nat) (v2 : Value) (i3 : Int32) : Ct E l mX4_init [.ref q1] [(q1, .inr (4, [v2, .int i3]))] (fX4_init ) (zX4_init E q1 i3) := Ct_of hl mf_X4_init.1 (Nat.le_of_ble_eq_true rfl) (fun K hs => by
  refine V_less 1 10 (Nat.le_refl _) (Nat.le_refl _) ?_
  refine V_pick [0] [(0, .ref q1)] rfl ?_
  unfold fX4_init
  refine V_aload_n (dX4_init 0 rfl) 1 rfl 0 rfl ?_
  refine V_objinit tw_163 tw_98 tw_99 (Nat.le_of_ble_eq_true rfl) (Nat.le_of_ble_eq_true rfl) (dX4_init 1 rfl) 4 rfl ?_
  refine V_aload_n (dX4_init 2 rfl) 5 rfl 0 rfl ?_
  refine V_bipush (10 : Int32) (by decide) (dX4_init 3 rfl) 7 rfl ?_
  refine V_newc 10 (by decide) (by decide) (by decide) tw_116 (dX4_init 4 rfl) 9 rfl 0 0 (show 0 + 1 ≤ 1 from Nat.le_of_ble_eq_true rfl) (show 0 + 10 ≤ 10 from Nat.le_of_ble_eq_true rfl) (fun q4 => ?_)
  refine V_eqW (ws2 := [(q1, .inr (4, [v2, .int i3])), (q4, .inl (E.2.1, 10, .inl (fun _ => 0)))]) rfl ?_
  refine V_putF pf_R_9 rfl 0 rfl rfl rfl (Nat.le_of_ble_eq_true rfl) (dX4_init 5 rfl) 12 rfl [(q1, .inr (4, [.ref q4, .int i3])), (q4, .inl (E.2.1, 10, .inl (fun _ => 0)))] rfl ?_
  exact V_vret rfl (dX4_init 6 rfl) ⟨q4, rfl, rfl⟩)
set_option maxRecDepth 20000 in
theorem kX4_clear {E : EX} {l : Launch} (hl : l.stackTraces = false) (q1 : Nat) (v2 : Value) (i3 : Int32) : Ct E l mX4_clear [.ref q1] [(q1, .inr (4, [v2, .int i3]))] (fX4_clear ) (zX4_clear E q1 v2) := Ct_of hl mf_X4_clear.1 (Nat.le_of_ble_eq_true rfl) (fun K hs => by
  refine V_less 0 0 (Nat.le_refl _) (Nat.le_refl _) ?_
  refine V_pick [0] [(0, .ref q1)] rfl ?_
  unfold fX4_clear
  refine V_aload_n (dX4_clear 0 rfl) 1 rfl 0 rfl ?_
  refine V_iconst (0 : Int32) (by decide) (dX4_clear 1 rfl) 2 rfl ?_
  refine V_put pf_R_15 0 rfl rfl rfl (Nat.le_of_ble_eq_true rfl) (dX4_clear 2 rfl) 5 rfl [(q1, .inr (4, [v2, .int (0 : Int32)]))] rfl ?_
  exact V_vret rfl (dX4_clear 3 rfl) ⟨rfl, rfl⟩)
set_option maxRecDepth 20000 in
theorem kX4_add {E : EX} {l : Launch} (hl : l.stackTraces = false) (q1 q3 : Nat) (i4 : Int32) (f5 : Nat → Int32) (i2 : Int32) : Ct E l mX4_add [.ref q1, .int i2] [(q1, .inr (4, [.ref q3, .int i4])), (q3, .inl (E.2.1, 10, .inl f5))] (fX4_add i4 f5 i2) (zX4_add E q1 q3) := Ct_of hl mf_X4_add.1 (Nat.le_of_ble_eq_true rfl) (fun K hs => by
  refine V_less 0 0 (Nat.le_refl _) (Nat.le_refl _) ?_
  refine V_pick [0, 1] [(0, .ref q1), (1, .int i2)] rfl ?_
  unfold fX4_add
  refine V_aload_n (dX4_add 0 rfl) 1 rfl 0 rfl ?_
  refine V_get gf_R_15 0 rfl rfl (dX4_add 1 rfl) 4 rfl ?_
  refine V_if_lt (dX4_add 2 rfl) 39 (by decide) 7 rfl ?_ ?_
  · exact V_vret rfl (dX4_add 21 rfl) ⟨rfl, rfl⟩
  · refine V_aload_n (dX4_add 3 rfl) 8 rfl 0 rfl ?_
    refine V_get gf_R_15 0 rfl rfl (dX4_add 4 rfl) 11 rfl ?_
    refine V_aload_n (dX4_add 5 rfl) 12 rfl 0 rfl ?_
    refine V_get gf_R_9 0 rfl rfl (dX4_add 6 rfl) 15 rfl ?_
    refine V_alen 1 rfl ((10 : Int32)) (show Int32.ofNat 10 = (10 : Int32) by decide) (dX4_add 7 rfl) 16 rfl ?_
    refine V_icmp_ge (dX4_add 8 rfl) 39 (by decide) 19 rfl ?_ ?_
    · exact V_vret rfl (dX4_add 21 rfl) ⟨rfl, rfl⟩
    · refine V_aload_n (dX4_add 9 rfl) 20 rfl 0 rfl ?_
      refine V_get gf_R_9 0 rfl rfl (dX4_add 10 rfl) 23 rfl ?_
      refine V_aload_n (dX4_add 11 rfl) 24 rfl 0 rfl ?_
      refine V_get gf_R_15 0 rfl rfl (dX4_add 12 rfl) 27 rfl ?_
      refine V_iload_n (dX4_add 13 rfl) 28 rfl 1 rfl ?_
      refine V_iast 1 rfl (dX4_add 14 rfl) 29 rfl [(q1, .inr (4, [.ref q3, .int i4])), (q3, .inl (E.2.1, 10, .inl (upd f5 i4.toNatClampNeg i2)))] rfl ?_
      refine V_aload_n (dX4_add 15 rfl) 30 rfl 0 rfl ?_
      refine V_dup rfl (dX4_add 16 rfl) 31 rfl ?_
      refine V_get gf_R_15 0 rfl rfl (dX4_add 17 rfl) 34 rfl ?_
      refine V_iconst (1 : Int32) (by decide) (dX4_add 18 rfl) 35 rfl ?_
      refine V_iadd (dX4_add 19 rfl) 36 rfl ?_
      refine V_put pf_R_15 0 rfl rfl rfl (Nat.le_of_ble_eq_true rfl) (dX4_add 20 rfl) 39 rfl [(q1, .inr (4, [.ref q3, .int (i4 + (1 : Int32))])), (q3, .inl (E.2.1, 10, .inl (upd f5 i4.toNatClampNeg i2)))] rfl ?_
      exact V_vret rfl (dX4_add 21 rfl) ⟨rfl, rfl⟩)
set_option maxRecDepth 20000 in
theorem kX4_at {E : EX} {l : Launch} (hl : l.stackTraces = false) (q1 q3 : Nat) (i4 : Int32) (f5 : Nat → Int32) (i2 : Int32) : Ct E l mX4_at [.ref q1, .int i2] [(q1, .inr (4, [.ref q3, .int i4])), (q3, .inl (E.2.1, 10, .inl f5))] (fX4_at f5 i2) (zX4_at E q1 q3 i4 f5) := Ct_of hl mf_X4_at.1 (Nat.le_of_ble_eq_true rfl) (fun K hs => by
  refine V_less 0 0 (Nat.le_refl _) (Nat.le_refl _) ?_
  refine V_pick [0, 1] [(0, .ref q1), (1, .int i2)] rfl ?_
  unfold fX4_at
  refine V_iload_n (dX4_at 0 rfl) 1 rfl 1 rfl ?_
  refine V_if_lt (dX4_at 1 rfl) 22 (by decide) 4 rfl ?_ ?_
  · refine V_iconst (-1 : Int32) (by decide) (dX4_at 12 rfl) 23 rfl ?_
    exact V_iret rfl (dX4_at 13 rfl) ⟨rfl, rfl⟩
  · refine V_iload_n (dX4_at 2 rfl) 5 rfl 1 rfl ?_
    refine V_aload_n (dX4_at 3 rfl) 6 rfl 0 rfl ?_
    refine V_get gf_R_9 0 rfl rfl (dX4_at 4 rfl) 9 rfl ?_
    refine V_alen 1 rfl ((10 : Int32)) (show Int32.ofNat 10 = (10 : Int32) by decide) (dX4_at 5 rfl) 10 rfl ?_
    refine V_icmp_ge (dX4_at 6 rfl) 22 (by decide) 13 rfl ?_ ?_
    · refine V_iconst (-1 : Int32) (by decide) (dX4_at 12 rfl) 23 rfl ?_
      exact V_iret rfl (dX4_at 13 rfl) ⟨rfl, rfl⟩
    · refine V_aload_n (dX4_at 7 rfl) 14 rfl 0 rfl ?_
      refine V_get gf_R_9 0 rfl rfl (dX4_at 8 rfl) 17 rfl ?_
      refine V_iload_n (dX4_at 9 rfl) 18 rfl 1 rfl ?_
      refine V_iald 1 rfl (dX4_at 10 rfl) 19 rfl ?_
      refine V_goto (dX4_at 11 rfl) 23 (by decide) ?_
      exact V_iret rfl (dX4_at 13 rfl) ⟨rfl, rfl⟩)
set_option maxRecDepth 20000 in
theorem vBX4_startAt_L2 {E : EX} {K : KX} (hs : K.l.stackTraces = false) (q1 q3 : Nat) (i2 i4 : Int32) (f5 : Nat → Int32) (bc bs : Nat) (i12 : Int32) {rec : Int32 → Option (Int32 × (Nat → Int32))} {k1 : Int32 → Option (Int32 × (Nat → Int32))} (hrec : ∀ (i12 : Int32), V E K mX4_startAt (Qm E K mX4_startAt (zX4_startAt E q1 q3)) (bc) (bs) [(q1, .inr (4, [.ref q3, .int i4])), (q3, .inl (E.2.1, 10, .inl f5))] 2 [(0, .ref q1), (1, .int i2), (2, .int i12)] [] (rec i12)) (hk1 : ∀ (i14 : Int32), V E K mX4_startAt (Qm E K mX4_startAt (zX4_startAt E q1 q3)) (bc) (bs) [(q1, .inr (4, [.ref q3, .int i4])), (q3, .inl (E.2.1, 10, .inl f5))] 25 [(0, .ref q1), (2, .int i14)] [] (k1 i14)) : V E K mX4_startAt (Qm E K mX4_startAt (zX4_startAt E q1 q3)) (bc) (bs) [(q1, .inr (4, [.ref q3, .int i4])), (q3, .inl (E.2.1, 10, .inl f5))] 2 [(0, .ref q1), (1, .int i2), (2, .int i12)] [] (BX4_startAt_L2  i2 i4 f5 i12 rec k1) := by
  unfold BX4_startAt_L2
  refine V_iload_n (dX4_startAt 2 rfl) 3 rfl 2 rfl ?_
  refine V_aload_n (dX4_startAt 3 rfl) 4 rfl 0 rfl ?_
  refine V_get gf_R_15 0 rfl rfl (dX4_startAt 4 rfl) 7 rfl ?_
  refine V_icmp_ge (dX4_startAt 5 rfl) 25 (by decide) 10 rfl ?_ ?_
  · refine V_pick [0, 2] [(0, .ref q1), (2, .int i12)] rfl ?_
    exact hk1 i12
  · refine V_aload_n (dX4_startAt 6 rfl) 11 rfl 0 rfl ?_
    refine V_iload_n (dX4_startAt 7 rfl) 12 rfl 2 rfl ?_
    refine V_callV (M := mX4_startAt) (wcs := [(q1, .inr (4, [.ref q3, .int i4])), (q3, .inl (E.2.1, 10, .inl f5))]) (wr := []) mf_X4_at tw_350 tw_336 tw_337 ⟨Nat.le_of_ble_eq_true rfl, Nat.le_of_ble_eq_true rfl⟩ (dX4_startAt 8 rfl) 15 rfl (kX4_at hs q1 q3 i4 f5 i12) rfl [0, 1] [] (q0 := 0) rfl rfl rfl rfl (by decide) rfl rfl rfl rfl (Nat.le_of_ble_eq_true rfl) (bc) (bs) (show (bc) + 0 ≤ (bc) by omega) (show (bs) + 0 ≤ (bs) by omega) (fun z13 v w hz => ?_)
    obtain ⟨rfl, rfl⟩ := hz
    show V E K mX4_startAt (Qm E K mX4_startAt (zX4_startAt E q1 q3)) (bc) (bs) [(q1, .inr (4, [.ref q3, .int i4])), (q3, .inl (E.2.1, 10, .inl f5))] 15 [(0, .ref q1), (1, .int i2), (2, .int i12)] [.int z13] _
    refine V_iload_n (dX4_startAt 9 rfl) 16 rfl 1 rfl ?_
    refine V_icmp_eq (dX4_startAt 10 rfl) 25 (by decide) 19 rfl ?_ ?_
    · refine V_pick [0, 2] [(0, .ref q1), (2, .int i12)] rfl ?_
      exact hk1 i12
    · refine V_iinc (dX4_startAt 11 rfl) 22 rfl 2 rfl (i12 + (1 : Int32)) rfl [(0, .ref q1), (1, .int i2), (2, .int (i12 + (1 : Int32)))] (Nat.le_of_ble_eq_true rfl) rfl ?_
      refine V_goto (dX4_startAt 12 rfl) 2 (by decide) ?_
      exact hrec (i12 + (1 : Int32))
set_option maxRecDepth 20000 in
theorem vLX4_startAt_L2 {E : EX} {K : KX} (hs : K.l.stackTraces = false) (q1 q3 : Nat) (i2 i4 : Int32) (f5 : Nat → Int32) (bc bs : Nat) {k1 : Int32 → Option (Int32 × (Nat → Int32))} (hk1 : ∀ (i14 : Int32), V E K mX4_startAt (Qm E K mX4_startAt (zX4_startAt E q1 q3)) (bc) (bs) [(q1, .inr (4, [.ref q3, .int i4])), (q3, .inl (E.2.1, 10, .inl f5))] 25 [(0, .ref q1), (2, .int i14)] [] (k1 i14)) : ∀ (n : Nat) (i12 : Int32), V E K mX4_startAt (Qm E K mX4_startAt (zX4_startAt E q1 q3)) (bc) (bs) [(q1, .inr (4, [.ref q3, .int i4])), (q3, .inl (E.2.1, 10, .inl f5))] 2 [(0, .ref q1), (1, .int i2), (2, .int i12)] [] (LX4_startAt_L2  i2 i4 f5 n i12 k1)
  | 0, _ => V_none
  | n + 1, i12 => vBX4_startAt_L2 hs q1 q3 i2 i4 f5 bc bs i12 (fun i12 => vLX4_startAt_L2 hs q1 q3 i2 i4 f5 bc bs hk1 n i12) hk1
set_option maxRecDepth 20000 in
theorem vBX4_startAt_L37 {E : EX} {K : KX} (hs : K.l.stackTraces = false) (q1 q3 : Nat) (i4 : Int32) (bc bs : Nat) (i23 i24 : Int32) (f25 : Nat → Int32) {rec : Int32 → Int32 → (Nat → Int32) → Option (Int32 × (Nat → Int32))}  (hrec : ∀ (i23 i24 : Int32) (f25 : Nat → Int32), V E K mX4_startAt (Qm E K mX4_startAt (zX4_startAt E q1 q3)) (bc) (bs) [(q1, .inr (4, [.ref q3, .int i24])), (q3, .inl (E.2.1, 10, .inl f25))] 37 [(0, .ref q1), (3, .int i4), (4, .int i23)] [] (rec i23 i24 f25))  : V E K mX4_startAt (Qm E K mX4_startAt (zX4_startAt E q1 q3)) (bc) (bs) [(q1, .inr (4, [.ref q3, .int i24])), (q3, .inl (E.2.1, 10, .inl f25))] 37 [(0, .ref q1), (3, .int i4), (4, .int i23)] [] (BX4_startAt_L37  i4 i23 i24 f25 rec ) := by
  unfold BX4_startAt_L37
  refine V_iload (dX4_startAt 20 rfl) 39 rfl 2 rfl ?_
  refine V_iload_n (dX4_startAt 21 rfl) 40 rfl 1 rfl ?_
  refine V_icmp_ge (dX4_startAt 22 rfl) 59 (by decide) 43 rfl ?_ ?_
  · exact V_vret rfl (dX4_startAt 30 rfl) ⟨rfl, rfl⟩
  · refine V_aload_n (dX4_startAt 23 rfl) 44 rfl 0 rfl ?_
    refine V_aload_n (dX4_startAt 24 rfl) 45 rfl 0 rfl ?_
    refine V_iload (dX4_startAt 25 rfl) 47 rfl 2 rfl ?_
    refine V_callV (M := mX4_startAt) (wcs := [(q1, .inr (4, [.ref q3, .int i24])), (q3, .inl (E.2.1, 10, .inl f25))]) (wr := []) mf_X4_at tw_350 tw_336 tw_337 ⟨Nat.le_of_ble_eq_true rfl, Nat.le_of_ble_eq_true rfl⟩ (dX4_startAt 26 rfl) 50 rfl (kX4_at hs q1 q3 i24 f25 i23) rfl [0, 1] [] (q0 := 0) rfl rfl rfl rfl (by decide) rfl rfl rfl rfl (Nat.le_of_ble_eq_true rfl) (bc) (bs) (show (bc) + 0 ≤ (bc) by omega) (show (bs) + 0 ≤ (bs) by omega) (fun z26 v w hz => ?_)
    obtain ⟨rfl, rfl⟩ := hz
    show V E K mX4_startAt (Qm E K mX4_startAt (zX4_startAt E q1 q3)) (bc) (bs) [(q1, .inr (4, [.ref q3, .int i24])), (q3, .inl (E.2.1, 10, .inl f25))] 50 [(0, .ref q1), (3, .int i4), (4, .int i23)] [.int z26, .ref q1] _
    refine V_callV (M := mX4_startAt) (wcs := [(q1, .inr (4, [.ref q3, .int i24])), (q3, .inl (E.2.1, 10, .inl f25))]) (wr := []) mf_X4_add tw_352 tw_327 tw_328 ⟨Nat.le_of_ble_eq_true rfl, Nat.le_of_ble_eq_true rfl⟩ (dX4_startAt 27 rfl) 53 rfl (kX4_add hs q1 q3 i24 f25 z26) rfl [0, 1] [] (q0 := 0) rfl rfl rfl rfl (by decide) rfl rfl rfl rfl (Nat.le_of_ble_eq_true rfl) (bc) (bs) (show (bc) + 0 ≤ (bc) by omega) (show (bs) + 0 ≤ (bs) by omega) (fun z27 v w hz => ?_)
    obtain ⟨rfl, rfl⟩ := hz
    show V E K mX4_startAt (Qm E K mX4_startAt (zX4_startAt E q1 q3)) (bc) (bs) [(q1, .inr (4, [.ref q3, .int z27.1])), (q3, .inl (E.2.1, 10, .inl z27.2))] 53 [(0, .ref q1), (3, .int i4), (4, .int i23)] [] _
    refine V_iinc (dX4_startAt 28 rfl) 56 rfl 2 rfl (i23 + (1 : Int32)) rfl [(0, .ref q1), (3, .int i4), (4, .int (i23 + (1 : Int32)))] (Nat.le_of_ble_eq_true rfl) rfl ?_
    refine V_goto (dX4_startAt 29 rfl) 37 (by decide) ?_
    exact hrec (i23 + (1 : Int32)) z27.1 z27.2
set_option maxRecDepth 20000 in
theorem vLX4_startAt_L37 {E : EX} {K : KX} (hs : K.l.stackTraces = false) (q1 q3 : Nat) (i4 : Int32) (bc bs : Nat)   : ∀ (n : Nat) (i23 i24 : Int32) (f25 : Nat → Int32), V E K mX4_startAt (Qm E K mX4_startAt (zX4_startAt E q1 q3)) (bc) (bs) [(q1, .inr (4, [.ref q3, .int i24])), (q3, .inl (E.2.1, 10, .inl f25))] 37 [(0, .ref q1), (3, .int i4), (4, .int i23)] [] (LX4_startAt_L37  i4 n i23 i24 f25 )
  | 0, _, _, _ => V_none
  | n + 1, i23, i24, f25 => vBX4_startAt_L37 hs q1 q3 i4 bc bs i23 i24 f25 (fun i23 i24 f25 => vLX4_startAt_L37 hs q1 q3 i4 bc bs  n i23 i24 f25) 
set_option maxRecDepth 20000 in
theorem kX4_startAt {E : EX} {l : Launch} (hl : l.stackTraces = false) (q1 q3 : Nat) (i4 : Int32) (f5 : Nat → Int32) (i2 : Int32) : Ct E l mX4_startAt [.ref q1, .int i2] [(q1, .inr (4, [.ref q3, .int i4])), (q3, .inl (E.2.1, 10, .inl f5))] (fX4_startAt i4 f5 i2) (zX4_startAt E q1 q3) := Ct_of hl mf_X4_startAt.1 (Nat.le_of_ble_eq_true rfl) (fun K hs => by
  refine V_less 0 0 (Nat.le_refl _) (Nat.le_refl _) ?_
  refine V_pick [0, 1] [(0, .ref q1), (1, .int i2)] rfl ?_
  unfold fX4_startAt
  refine V_iconst (0 : Int32) (by decide) (dX4_startAt 0 rfl) 1 rfl ?_
  refine V_istore_n (dX4_startAt 1 rfl) 2 rfl [(0, .ref q1), (1, .int i2), (2, .int (0 : Int32))] (Nat.le_of_ble_eq_true rfl) rfl ?_
  refine vLX4_startAt_L2 hs q1 q3 i2 i4 f5 0 0 ?_ 12 (0 : Int32)
  intro i14
  show V E K mX4_startAt (Qm E K mX4_startAt (zX4_startAt E q1 q3)) 0 0 [(q1, .inr (4, [.ref q3, .int i4])), (q3, .inl (E.2.1, 10, .inl f5))] 25 [(0, .ref q1), (2, .int i14)] [] _
  refine V_aload_n (dX4_startAt 13 rfl) 26 rfl 0 rfl ?_
  refine V_get gf_R_15 0 rfl rfl (dX4_startAt 14 rfl) 29 rfl ?_
  refine V_istore_n (dX4_startAt 15 rfl) 30 rfl [(0, .ref q1), (2, .int i14), (3, .int i4)] (Nat.le_of_ble_eq_true rfl) rfl ?_
  refine V_aload_n (dX4_startAt 16 rfl) 31 rfl 0 rfl ?_
  refine V_callV (M := mX4_startAt) (wcs := [(q1, .inr (4, [.ref q3, .int i4]))]) (wr := [(q3, .inl (E.2.1, 10, .inl f5))]) mf_X4_clear tw_351 tw_323 tw_324 ⟨Nat.le_of_ble_eq_true rfl, Nat.le_of_ble_eq_true rfl⟩ (dX4_startAt 17 rfl) 34 rfl (kX4_clear hs q1 (.ref q3) i4) rfl [0] [1] (q0 := 0) rfl rfl rfl rfl (by decide) rfl rfl rfl rfl (Nat.le_of_ble_eq_true rfl) 0 0 (show 0 + 0 ≤ 0 from Nat.le_of_ble_eq_true rfl) (show 0 + 0 ≤ 0 from Nat.le_of_ble_eq_true rfl) (fun z15 v w hz => ?_)
  obtain ⟨rfl, rfl⟩ := hz
  show V E K mX4_startAt (Qm E K mX4_startAt (zX4_startAt E q1 q3)) 0 0 [(q3, .inl (E.2.1, 10, .inl f5)), (q1, .inr (4, [.ref q3, .int (0 : Int32)]))] 34 [(0, .ref q1), (2, .int i14), (3, .int i4)] [] _
  refine V_iload_n (dX4_startAt 18 rfl) 35 rfl 1 rfl ?_
  refine V_istore (dX4_startAt 19 rfl) 37 rfl [(0, .ref q1), (2, .int i14), (3, .int i4), (4, .int i14)] (Nat.le_of_ble_eq_true rfl) rfl ?_
  refine V_world [1, 0] [(q1, .inr (4, [.ref q3, .int (0 : Int32)])), (q3, .inl (E.2.1, 10, .inl f5))] rfl rfl rfl ?_
  refine V_pick [0, 2, 3] [(0, .ref q1), (3, .int i4), (4, .int i14)] rfl ?_
  refine vLX4_startAt_L37 hs q1 q3 i4 0 0  12 i14 (0 : Int32) f5)
set_option maxRecDepth 20000 in
theorem kX2_init {E : EX} {l : Launch} (hl : l.stackTraces = false) (q1 : Nat) (i2 i3 i4 : Int32) (v5 v6 : Value) : Ct E l mX2_init [.ref q1] [(q1, .inr (1, [.int i2, .int i3, .int i4, v5, v6]))] (fX2_init ) (zX2_init E q1 i2 i3 i4) := Ct_of hl mf_X2_init.1 (Nat.le_of_ble_eq_true rfl) (fun K hs => by
  refine V_less 4 164 (Nat.le_refl _) (Nat.le_refl _) ?_
  refine V_pick [0] [(0, .ref q1)] rfl ?_
  unfold fX2_init
  refine V_aload_n (dX2_init 0 rfl) 1 rfl 0 rfl ?_
  refine V_objinit tw_105 tw_98 tw_99 (Nat.le_of_ble_eq_true rfl) (Nat.le_of_ble_eq_true rfl) (dX2_init 1 rfl) 4 rfl ?_
  refine V_aload_n (dX2_init 2 rfl) 5 rfl 0 rfl ?_
  refine V_new nf_N_7 (dX2_init 3 rfl) 8 rfl 3 163 (show 3 + 1 ≤ 4 from Nat.le_of_ble_eq_true rfl) (show 163 + 1 ≤ 164 from Nat.le_of_ble_eq_true rfl) (fun q7 => ?_)
  refine V_eqW (ws2 := [(q1, .inr (1, [.int i2, .int i3, .int i4, v5, v6])), (q7, .inr (2, [.null]))]) rfl ?_
  refine V_dup rfl (dX2_init 4 rfl) 9 rfl ?_
  refine V_callIN (M := mX2_init) (wcs := [(q7, .inr (2, [.null]))]) (wr := [(q1, .inr (1, [.int i2, .int i3, .int i4, v5, v6]))]) mf_X1_init rfl rfl (show (_, _, _, "Brookmill") ∈ nestM by decide +kernel) tw_109 ⟨Nat.le_of_ble_eq_true rfl, Nat.le_of_ble_eq_true rfl⟩ (dX2_init 5 rfl) 12 rfl (kX1_init hs q7 .null) rfl [1] [0] rfl rfl rfl rfl (by decide) rfl (Nat.le_of_ble_eq_true rfl) 2 82 (show 2 + 1 ≤ 3 from Nat.le_of_ble_eq_true rfl) (show 82 + 81 ≤ 163 from Nat.le_of_ble_eq_true rfl) (fun z8 v w hz => ?_)
  obtain ⟨q9, rfl, rfl⟩ := hz
  show V E K mX2_init (Qm E K mX2_init (zX2_init E q1 i2 i3 i4)) 2 82 [(q1, .inr (1, [.int i2, .int i3, .int i4, v5, v6])), (q7, .inr (2, [.ref q9])), (q9, .inl (E.2.1, 81, .inl (fun _ => 0)))] 12 [(0, .ref q1)] [.ref q7, .ref q1] _
  refine V_putF pf_N_10 rfl 0 rfl rfl rfl (Nat.le_of_ble_eq_true rfl) (dX2_init 6 rfl) 15 rfl [(q1, .inr (1, [.int i2, .int i3, .int i4, .ref q7, v6])), (q7, .inr (2, [.ref q9])), (q9, .inl (E.2.1, 81, .inl (fun _ => 0)))] rfl ?_
  refine V_aload_n (dX2_init 7 rfl) 16 rfl 0 rfl ?_
  refine V_new nf_N_7 (dX2_init 8 rfl) 19 rfl 1 81 (show 1 + 1 ≤ 2 from Nat.le_of_ble_eq_true rfl) (show 81 + 1 ≤ 82 from Nat.le_of_ble_eq_true rfl) (fun q10 => ?_)
  refine V_eqW (ws2 := [(q1, .inr (1, [.int i2, .int i3, .int i4, .ref q7, v6])), (q7, .inr (2, [.ref q9])), (q9, .inl (E.2.1, 81, .inl (fun _ => 0))), (q10, .inr (2, [.null]))]) rfl ?_
  refine V_dup rfl (dX2_init 9 rfl) 20 rfl ?_
  refine V_callIN (M := mX2_init) (wcs := [(q10, .inr (2, [.null]))]) (wr := [(q1, .inr (1, [.int i2, .int i3, .int i4, .ref q7, v6])), (q7, .inr (2, [.ref q9])), (q9, .inl (E.2.1, 81, .inl (fun _ => 0)))]) mf_X1_init rfl rfl (show (_, _, _, "Brookmill") ∈ nestM by decide +kernel) tw_109 ⟨Nat.le_of_ble_eq_true rfl, Nat.le_of_ble_eq_true rfl⟩ (dX2_init 10 rfl) 23 rfl (kX1_init hs q10 .null) rfl [3] [0, 1, 2] rfl rfl rfl rfl (by decide) rfl (Nat.le_of_ble_eq_true rfl) 0 0 (show 0 + 1 ≤ 1 from Nat.le_of_ble_eq_true rfl) (show 0 + 81 ≤ 81 from Nat.le_of_ble_eq_true rfl) (fun z11 v w hz => ?_)
  obtain ⟨q12, rfl, rfl⟩ := hz
  show V E K mX2_init (Qm E K mX2_init (zX2_init E q1 i2 i3 i4)) 0 0 [(q1, .inr (1, [.int i2, .int i3, .int i4, .ref q7, v6])), (q7, .inr (2, [.ref q9])), (q9, .inl (E.2.1, 81, .inl (fun _ => 0))), (q10, .inr (2, [.ref q12])), (q12, .inl (E.2.1, 81, .inl (fun _ => 0)))] 23 [(0, .ref q1)] [.ref q10, .ref q1] _
  refine V_putF pf_N_16 rfl 0 rfl rfl rfl (Nat.le_of_ble_eq_true rfl) (dX2_init 11 rfl) 26 rfl [(q1, .inr (1, [.int i2, .int i3, .int i4, .ref q7, .ref q10])), (q7, .inr (2, [.ref q9])), (q9, .inl (E.2.1, 81, .inl (fun _ => 0))), (q10, .inr (2, [.ref q12])), (q12, .inl (E.2.1, 81, .inl (fun _ => 0)))] rfl ?_
  exact V_vret rfl (dX2_init 12 rfl) ⟨q7, q9, q10, q12, rfl, rfl⟩)
set_option maxRecDepth 20000 in
theorem kX2_begin {E : EX} {l : Launch} (hl : l.stackTraces = false) (q1 q6 q7 q8 q10 : Nat) (i3 i4 i5 : Int32) (f9 f11 : Nat → Int32) (i2 : Int32) : Ct E l mX2_begin [.ref q1, .int i2] [(q1, .inr (1, [.int i3, .int i4, .int i5, .ref q6, .ref q7])), (q6, .inr (2, [.ref q8])), (q8, .inl (E.2.1, 81, .inl f9)), (q7, .inr (2, [.ref q10])), (q10, .inl (E.2.1, 81, .inl f11))] (fX2_begin f9 f11 i2) (zX2_begin E q1 q6 q7 q8 q10 i2) := Ct_of hl mf_X2_begin.1 (Nat.le_of_ble_eq_true rfl) (fun K hs => by
  refine V_less 0 0 (Nat.le_refl _) (Nat.le_refl _) ?_
  refine V_pick [0, 1] [(0, .ref q1), (1, .int i2)] rfl ?_
  unfold fX2_begin
  refine V_aload_n (dX2_begin 0 rfl) 1 rfl 0 rfl ?_
  refine V_iload_n (dX2_begin 1 rfl) 2 rfl 1 rfl ?_
  refine V_put pf_N_19 0 rfl rfl rfl (Nat.le_of_ble_eq_true rfl) (dX2_begin 2 rfl) 5 rfl [(q1, .inr (1, [.int i2, .int i4, .int i5, .ref q6, .ref q7])), (q6, .inr (2, [.ref q8])), (q8, .inl (E.2.1, 81, .inl f9)), (q7, .inr (2, [.ref q10])), (q10, .inl (E.2.1, 81, .inl f11))] rfl ?_
  refine V_aload_n (dX2_begin 3 rfl) 6 rfl 0 rfl ?_
  refine V_iconst (0 : Int32) (by decide) (dX2_begin 4 rfl) 7 rfl ?_
  refine V_put pf_N_23 0 rfl rfl rfl (Nat.le_of_ble_eq_true rfl) (dX2_begin 5 rfl) 10 rfl [(q1, .inr (1, [.int i2, .int (0 : Int32), .int i5, .ref q6, .ref q7])), (q6, .inr (2, [.ref q8])), (q8, .inl (E.2.1, 81, .inl f9)), (q7, .inr (2, [.ref q10])), (q10, .inl (E.2.1, 81, .inl f11))] rfl ?_
  refine V_aload_n (dX2_begin 6 rfl) 11 rfl 0 rfl ?_
  refine V_iload_n (dX2_begin 7 rfl) 12 rfl 1 rfl ?_
  refine V_iconst (1 : Int32) (by decide) (dX2_begin 8 rfl) 13 rfl ?_
  refine V_isub (dX2_begin 9 rfl) 14 rfl ?_
  refine V_put pf_N_26 0 rfl rfl rfl (Nat.le_of_ble_eq_true rfl) (dX2_begin 10 rfl) 17 rfl [(q1, .inr (1, [.int i2, .int (0 : Int32), .int (i2 - (1 : Int32)), .ref q6, .ref q7])), (q6, .inr (2, [.ref q8])), (q8, .inl (E.2.1, 81, .inl f9)), (q7, .inr (2, [.ref q10])), (q10, .inl (E.2.1, 81, .inl f11))] rfl ?_
  refine V_aload_n (dX2_begin 11 rfl) 18 rfl 0 rfl ?_
  refine V_get gf_N_10 0 rfl rfl (dX2_begin 12 rfl) 21 rfl ?_
  refine V_callV (M := mX2_begin) (wcs := [(q6, .inr (2, [.ref q8])), (q8, .inl (E.2.1, 81, .inl f9))]) (wr := [(q1, .inr (1, [.int i2, .int (0 : Int32), .int (i2 - (1 : Int32)), .ref q6, .ref q7])), (q7, .inr (2, [.ref q10])), (q10, .inl (E.2.1, 81, .inl f11))]) mf_X1_clear tw_244 tw_245 tw_246 ⟨Nat.le_of_ble_eq_true rfl, Nat.le_of_ble_eq_true rfl⟩ (dX2_begin 13 rfl) 24 rfl (kX1_clear hs q6 q8 f9) rfl [1, 2] [0, 3, 4] (q0 := 0) rfl rfl rfl rfl (by decide) rfl rfl rfl rfl (Nat.le_of_ble_eq_true rfl) 0 0 (show 0 + 0 ≤ 0 from Nat.le_of_ble_eq_true rfl) (show 0 + 0 ≤ 0 from Nat.le_of_ble_eq_true rfl) (fun z12 v w hz => ?_)
  obtain ⟨rfl, rfl⟩ := hz
  show V E K mX2_begin (Qm E K mX2_begin (zX2_begin E q1 q6 q7 q8 q10 i2)) 0 0 [(q1, .inr (1, [.int i2, .int (0 : Int32), .int (i2 - (1 : Int32)), .ref q6, .ref q7])), (q7, .inr (2, [.ref q10])), (q10, .inl (E.2.1, 81, .inl f11)), (q6, .inr (2, [.ref q8])), (q8, .inl (E.2.1, 81, .inl z12))] 24 [(0, .ref q1), (1, .int i2)] [] _
  refine V_aload_n (dX2_begin 14 rfl) 25 rfl 0 rfl ?_
  refine V_get gf_N_16 0 rfl rfl (dX2_begin 15 rfl) 28 rfl ?_
  refine V_callV (M := mX2_begin) (wcs := [(q7, .inr (2, [.ref q10])), (q10, .inl (E.2.1, 81, .inl f11))]) (wr := [(q1, .inr (1, [.int i2, .int (0 : Int32), .int (i2 - (1 : Int32)), .ref q6, .ref q7])), (q6, .inr (2, [.ref q8])), (q8, .inl (E.2.1, 81, .inl z12))]) mf_X1_clear tw_244 tw_245 tw_246 ⟨Nat.le_of_ble_eq_true rfl, Nat.le_of_ble_eq_true rfl⟩ (dX2_begin 16 rfl) 31 rfl (kX1_clear hs q7 q10 f11) rfl [1, 2] [0, 3, 4] (q0 := 0) rfl rfl rfl rfl (by decide) rfl rfl rfl rfl (Nat.le_of_ble_eq_true rfl) 0 0 (show 0 + 0 ≤ 0 from Nat.le_of_ble_eq_true rfl) (show 0 + 0 ≤ 0 from Nat.le_of_ble_eq_true rfl) (fun z13 v w hz => ?_)
  obtain ⟨rfl, rfl⟩ := hz
  show V E K mX2_begin (Qm E K mX2_begin (zX2_begin E q1 q6 q7 q8 q10 i2)) 0 0 [(q1, .inr (1, [.int i2, .int (0 : Int32), .int (i2 - (1 : Int32)), .ref q6, .ref q7])), (q6, .inr (2, [.ref q8])), (q8, .inl (E.2.1, 81, .inl z12)), (q7, .inr (2, [.ref q10])), (q10, .inl (E.2.1, 81, .inl z13))] 31 [(0, .ref q1), (1, .int i2)] [] _
  exact V_vret rfl (dX2_begin 17 rfl) ⟨rfl, rfl⟩)
set_option maxRecDepth 20000 in
theorem kX2_become {E : EX} {l : Launch} (hl : l.stackTraces = false) (q1 q2 q6 q7 q8 q10 q15 q16 q17 q19 : Nat) (i3 i4 i5 : Int32) (f9 f11 : Nat → Int32) (i12 i13 i14 : Int32) (f18 f20 : Nat → Int32) : Ct E l mX2_become [.ref q1, .ref q2] [(q1, .inr (1, [.int i3, .int i4, .int i5, .ref q6, .ref q7])), (q6, .inr (2, [.ref q8])), (q8, .inl (E.2.1, 81, .inl f9)), (q7, .inr (2, [.ref q10])), (q10, .inl (E.2.1, 81, .inl f11)), (q2, .inr (1, [.int i12, .int i13, .int i14, .ref q15, .ref q16])), (q15, .inr (2, [.ref q17])), (q17, .inl (E.2.1, 81, .inl f18)), (q16, .inr (2, [.ref q19])), (q19, .inl (E.2.1, 81, .inl f20))] (fX2_become f9 f11 f18 f20) (zX2_become E q1 q6 q7 q8 q10 q2 q15 q16 q17 q19 i12 i13 i14 f18 f20) := Ct_of hl mf_X2_become.1 (Nat.le_of_ble_eq_true rfl) (fun K hs => by
  refine V_less 0 0 (Nat.le_refl _) (Nat.le_refl _) ?_
  refine V_pick [0, 1] [(0, .ref q1), (1, .ref q2)] rfl ?_
  unfold fX2_become
  refine V_aload_n (dX2_become 0 rfl) 1 rfl 0 rfl ?_
  refine V_aload_n (dX2_become 1 rfl) 2 rfl 1 rfl ?_
  refine V_get gf_N_19 5 rfl rfl (dX2_become 2 rfl) 5 rfl ?_
  refine V_put pf_N_19 0 rfl rfl rfl (Nat.le_of_ble_eq_true rfl) (dX2_become 3 rfl) 8 rfl [(q1, .inr (1, [.int i12, .int i4, .int i5, .ref q6, .ref q7])), (q6, .inr (2, [.ref q8])), (q8, .inl (E.2.1, 81, .inl f9)), (q7, .inr (2, [.ref q10])), (q10, .inl (E.2.1, 81, .inl f11)), (q2, .inr (1, [.int i12, .int i13, .int i14, .ref q15, .ref q16])), (q15, .inr (2, [.ref q17])), (q17, .inl (E.2.1, 81, .inl f18)), (q16, .inr (2, [.ref q19])), (q19, .inl (E.2.1, 81, .inl f20))] rfl ?_
  refine V_aload_n (dX2_become 4 rfl) 9 rfl 0 rfl ?_
  refine V_aload_n (dX2_become 5 rfl) 10 rfl 1 rfl ?_
  refine V_get gf_N_23 5 rfl rfl (dX2_become 6 rfl) 13 rfl ?_
  refine V_put pf_N_23 0 rfl rfl rfl (Nat.le_of_ble_eq_true rfl) (dX2_become 7 rfl) 16 rfl [(q1, .inr (1, [.int i12, .int i13, .int i5, .ref q6, .ref q7])), (q6, .inr (2, [.ref q8])), (q8, .inl (E.2.1, 81, .inl f9)), (q7, .inr (2, [.ref q10])), (q10, .inl (E.2.1, 81, .inl f11)), (q2, .inr (1, [.int i12, .int i13, .int i14, .ref q15, .ref q16])), (q15, .inr (2, [.ref q17])), (q17, .inl (E.2.1, 81, .inl f18)), (q16, .inr (2, [.ref q19])), (q19, .inl (E.2.1, 81, .inl f20))] rfl ?_
  refine V_aload_n (dX2_become 8 rfl) 17 rfl 0 rfl ?_
  refine V_aload_n (dX2_become 9 rfl) 18 rfl 1 rfl ?_
  refine V_get gf_N_26 5 rfl rfl (dX2_become 10 rfl) 21 rfl ?_
  refine V_put pf_N_26 0 rfl rfl rfl (Nat.le_of_ble_eq_true rfl) (dX2_become 11 rfl) 24 rfl [(q1, .inr (1, [.int i12, .int i13, .int i14, .ref q6, .ref q7])), (q6, .inr (2, [.ref q8])), (q8, .inl (E.2.1, 81, .inl f9)), (q7, .inr (2, [.ref q10])), (q10, .inl (E.2.1, 81, .inl f11)), (q2, .inr (1, [.int i12, .int i13, .int i14, .ref q15, .ref q16])), (q15, .inr (2, [.ref q17])), (q17, .inl (E.2.1, 81, .inl f18)), (q16, .inr (2, [.ref q19])), (q19, .inl (E.2.1, 81, .inl f20))] rfl ?_
  refine V_aload_n (dX2_become 12 rfl) 25 rfl 0 rfl ?_
  refine V_get gf_N_10 0 rfl rfl (dX2_become 13 rfl) 28 rfl ?_
  refine V_aload_n (dX2_become 14 rfl) 29 rfl 1 rfl ?_
  refine V_get gf_N_10 5 rfl rfl (dX2_become 15 rfl) 32 rfl ?_
  refine V_callV (M := mX2_become) (wcs := [(q6, .inr (2, [.ref q8])), (q8, .inl (E.2.1, 81, .inl f9)), (q15, .inr (2, [.ref q17])), (q17, .inl (E.2.1, 81, .inl f18))]) (wr := [(q1, .inr (1, [.int i12, .int i13, .int i14, .ref q6, .ref q7])), (q7, .inr (2, [.ref q10])), (q10, .inl (E.2.1, 81, .inl f11)), (q2, .inr (1, [.int i12, .int i13, .int i14, .ref q15, .ref q16])), (q16, .inr (2, [.ref q19])), (q19, .inl (E.2.1, 81, .inl f20))]) mf_X1_become tw_506 tw_507 tw_508 ⟨Nat.le_of_ble_eq_true rfl, Nat.le_of_ble_eq_true rfl⟩ (dX2_become 16 rfl) 35 rfl (kX1_become hs q6 q15 q8 q17 f9 f18) rfl [1, 2, 6, 7] [0, 3, 4, 5, 8, 9] (q0 := 0) rfl rfl rfl rfl (by decide) rfl rfl rfl rfl (Nat.le_of_ble_eq_true rfl) 0 0 (show 0 + 0 ≤ 0 from Nat.le_of_ble_eq_true rfl) (show 0 + 0 ≤ 0 from Nat.le_of_ble_eq_true rfl) (fun z21 v w hz => ?_)
  obtain ⟨rfl, rfl⟩ := hz
  show V E K mX2_become (Qm E K mX2_become (zX2_become E q1 q6 q7 q8 q10 q2 q15 q16 q17 q19 i12 i13 i14 f18 f20)) 0 0 [(q1, .inr (1, [.int i12, .int i13, .int i14, .ref q6, .ref q7])), (q7, .inr (2, [.ref q10])), (q10, .inl (E.2.1, 81, .inl f11)), (q2, .inr (1, [.int i12, .int i13, .int i14, .ref q15, .ref q16])), (q16, .inr (2, [.ref q19])), (q19, .inl (E.2.1, 81, .inl f20)), (q6, .inr (2, [.ref q8])), (q8, .inl (E.2.1, 81, .inl z21)), (q15, .inr (2, [.ref q17])), (q17, .inl (E.2.1, 81, .inl f18))] 35 [(0, .ref q1), (1, .ref q2)] [] _
  refine V_aload_n (dX2_become 17 rfl) 36 rfl 0 rfl ?_
  refine V_get gf_N_16 0 rfl rfl (dX2_become 18 rfl) 39 rfl ?_
  refine V_aload_n (dX2_become 19 rfl) 40 rfl 1 rfl ?_
  refine V_get gf_N_16 3 rfl rfl (dX2_become 20 rfl) 43 rfl ?_
  refine V_callV (M := mX2_become) (wcs := [(q7, .inr (2, [.ref q10])), (q10, .inl (E.2.1, 81, .inl f11)), (q16, .inr (2, [.ref q19])), (q19, .inl (E.2.1, 81, .inl f20))]) (wr := [(q1, .inr (1, [.int i12, .int i13, .int i14, .ref q6, .ref q7])), (q2, .inr (1, [.int i12, .int i13, .int i14, .ref q15, .ref q16])), (q6, .inr (2, [.ref q8])), (q8, .inl (E.2.1, 81, .inl z21)), (q15, .inr (2, [.ref q17])), (q17, .inl (E.2.1, 81, .inl f18))]) mf_X1_become tw_506 tw_507 tw_508 ⟨Nat.le_of_ble_eq_true rfl, Nat.le_of_ble_eq_true rfl⟩ (dX2_become 21 rfl) 46 rfl (kX1_become hs q7 q16 q10 q19 f11 f20) rfl [1, 2, 4, 5] [0, 3, 6, 7, 8, 9] (q0 := 0) rfl rfl rfl rfl (by decide) rfl rfl rfl rfl (Nat.le_of_ble_eq_true rfl) 0 0 (show 0 + 0 ≤ 0 from Nat.le_of_ble_eq_true rfl) (show 0 + 0 ≤ 0 from Nat.le_of_ble_eq_true rfl) (fun z22 v w hz => ?_)
  obtain ⟨rfl, rfl⟩ := hz
  show V E K mX2_become (Qm E K mX2_become (zX2_become E q1 q6 q7 q8 q10 q2 q15 q16 q17 q19 i12 i13 i14 f18 f20)) 0 0 [(q1, .inr (1, [.int i12, .int i13, .int i14, .ref q6, .ref q7])), (q2, .inr (1, [.int i12, .int i13, .int i14, .ref q15, .ref q16])), (q6, .inr (2, [.ref q8])), (q8, .inl (E.2.1, 81, .inl z21)), (q15, .inr (2, [.ref q17])), (q17, .inl (E.2.1, 81, .inl f18)), (q7, .inr (2, [.ref q10])), (q10, .inl (E.2.1, 81, .inl z22)), (q16, .inr (2, [.ref q19])), (q19, .inl (E.2.1, 81, .inl f20))] 46 [(0, .ref q1), (1, .ref q2)] [] _
  refine V_world [0, 2, 3, 6, 7, 1, 4, 5, 8, 9] [(q1, .inr (1, [.int i12, .int i13, .int i14, .ref q6, .ref q7])), (q6, .inr (2, [.ref q8])), (q8, .inl (E.2.1, 81, .inl z21)), (q7, .inr (2, [.ref q10])), (q10, .inl (E.2.1, 81, .inl z22)), (q2, .inr (1, [.int i12, .int i13, .int i14, .ref q15, .ref q16])), (q15, .inr (2, [.ref q17])), (q17, .inl (E.2.1, 81, .inl f18)), (q16, .inr (2, [.ref q19])), (q19, .inl (E.2.1, 81, .inl f20))] rfl rfl rfl ?_
  exact V_vret rfl (dX2_become 22 rfl) ⟨rfl, rfl⟩)
set_option maxRecDepth 20000 in
theorem kX2_allPlaces {E : EX} {l : Launch} (hl : l.stackTraces = false) (q1 : Nat) (i2 i3 i4 : Int32) (v5 v6 : Value) : Ct E l mX2_allPlaces [.ref q1] [(q1, .inr (1, [.int i2, .int i3, .int i4, v5, v6]))] (fX2_allPlaces i2) (zX2_allPlaces E q1 i2 i3 i4 v5 v6) := Ct_of hl mf_X2_allPlaces.1 (Nat.le_of_ble_eq_true rfl) (fun K hs => by
  refine V_less 0 0 (Nat.le_refl _) (Nat.le_refl _) ?_
  refine V_pick [0] [(0, .ref q1)] rfl ?_
  unfold fX2_allPlaces
  refine V_iconst (1 : Int32) (by decide) (dX2_allPlaces 0 rfl) 1 rfl ?_
  refine V_aload_n (dX2_allPlaces 1 rfl) 2 rfl 0 rfl ?_
  refine V_get gf_N_19 0 rfl rfl (dX2_allPlaces 2 rfl) 5 rfl ?_
  refine V_ishl (dX2_allPlaces 3 rfl) 6 rfl ?_
  refine V_iconst (1 : Int32) (by decide) (dX2_allPlaces 4 rfl) 7 rfl ?_
  refine V_isub (dX2_allPlaces 5 rfl) 8 rfl ?_
  exact V_iret rfl (dX2_allPlaces 6 rfl) ⟨rfl, rfl⟩)
set_option maxRecDepth 20000 in
theorem kX2_nextInCircle {E : EX} {l : Launch} (hl : l.stackTraces = false) (q1 : Nat) (i3 i4 i5 : Int32) (v6 v7 : Value) (i2 : Int32) : Ct E l mX2_nextInCircle [.ref q1, .int i2] [(q1, .inr (1, [.int i3, .int i4, .int i5, v6, v7]))] (fX2_nextInCircle i3 i2) (zX2_nextInCircle E q1 i3 i4 i5 v6 v7) := Ct_of hl mf_X2_nextInCircle.1 (Nat.le_of_ble_eq_true rfl) (fun K hs => by
  refine V_less 0 0 (Nat.le_refl _) (Nat.le_refl _) ?_
  refine V_pick [0, 1] [(0, .ref q1), (1, .int i2)] rfl ?_
  unfold fX2_nextInCircle
  refine V_iload_n (dX2_nextInCircle 0 rfl) 1 rfl 1 rfl ?_
  refine V_iconst (1 : Int32) (by decide) (dX2_nextInCircle 1 rfl) 2 rfl ?_
  refine V_iadd (dX2_nextInCircle 2 rfl) 3 rfl ?_
  refine V_aload_n (dX2_nextInCircle 3 rfl) 4 rfl 0 rfl ?_
  refine V_get gf_N_19 0 rfl rfl (dX2_nextInCircle 4 rfl) 7 rfl ?_
  refine V_icmp_ge (dX2_nextInCircle 5 rfl) 16 (by decide) 10 rfl ?_ ?_
  · refine V_iconst (0 : Int32) (by decide) (dX2_nextInCircle 10 rfl) 17 rfl ?_
    exact V_iret rfl (dX2_nextInCircle 11 rfl) ⟨rfl, rfl⟩
  · refine V_iload_n (dX2_nextInCircle 6 rfl) 11 rfl 1 rfl ?_
    refine V_iconst (1 : Int32) (by decide) (dX2_nextInCircle 7 rfl) 12 rfl ?_
    refine V_iadd (dX2_nextInCircle 8 rfl) 13 rfl ?_
    refine V_goto (dX2_nextInCircle 9 rfl) 17 (by decide) ?_
    exact V_iret rfl (dX2_nextInCircle 11 rfl) ⟨rfl, rfl⟩)
set_option maxRecDepth 20000 in
theorem kX2_leftOf {E : EX} {l : Launch} (hl : l.stackTraces = false) (q1 q7 q8 q9 q11 : Nat) (i4 i5 i6 : Int32) (f10 f12 : Nat → Int32) (i2 i3 : Int32) : Ct E l mX2_leftOf [.ref q1, .int i2, .int i3] [(q1, .inr (1, [.int i4, .int i5, .int i6, .ref q7, .ref q8])), (q7, .inr (2, [.ref q9])), (q9, .inl (E.2.1, 81, .inl f10)), (q8, .inr (2, [.ref q11])), (q11, .inl (E.2.1, 81, .inl f12))] (fX2_leftOf f10 f12 i2 i3) (zX2_leftOf E q1 q7 q8 q9 q11 i4 i5 i6 f10 f12) := Ct_of hl mf_X2_leftOf.1 (Nat.le_of_ble_eq_true rfl) (fun K hs => by
  refine V_less 0 0 (Nat.le_refl _) (Nat.le_refl _) ?_
  refine V_pick [0, 1, 2] [(0, .ref q1), (1, .int i2), (2, .int i3)] rfl ?_
  unfold fX2_leftOf
  refine V_aload_n (dX2_leftOf 0 rfl) 1 rfl 0 rfl ?_
  refine V_get gf_N_10 0 rfl rfl (dX2_leftOf 1 rfl) 4 rfl ?_
  refine V_iload_n (dX2_leftOf 2 rfl) 5 rfl 1 rfl ?_
  refine V_iload_n (dX2_leftOf 3 rfl) 6 rfl 2 rfl ?_
  refine V_callV (M := mX2_leftOf) (wcs := [(q7, .inr (2, [.ref q9])), (q9, .inl (E.2.1, 81, .inl f10))]) (wr := [(q1, .inr (1, [.int i4, .int i5, .int i6, .ref q7, .ref q8])), (q8, .inr (2, [.ref q11])), (q11, .inl (E.2.1, 81, .inl f12))]) mf_X1_at tw_369 tw_290 tw_291 ⟨Nat.le_of_ble_eq_true rfl, Nat.le_of_ble_eq_true rfl⟩ (dX2_leftOf 4 rfl) 9 rfl (kX1_at hs q7 q9 f10 i2 i3) rfl [1, 2] [0, 3, 4] (q0 := 0) rfl rfl rfl rfl (by decide) rfl rfl rfl rfl (Nat.le_of_ble_eq_true rfl) 0 0 (show 0 + 0 ≤ 0 from Nat.le_of_ble_eq_true rfl) (show 0 + 0 ≤ 0 from Nat.le_of_ble_eq_true rfl) (fun z13 v w hz => ?_)
  obtain ⟨rfl, rfl⟩ := hz
  show V E K mX2_leftOf (Qm E K mX2_leftOf (zX2_leftOf E q1 q7 q8 q9 q11 i4 i5 i6 f10 f12)) 0 0 [(q1, .inr (1, [.int i4, .int i5, .int i6, .ref q7, .ref q8])), (q8, .inr (2, [.ref q11])), (q11, .inl (E.2.1, 81, .inl f12)), (q7, .inr (2, [.ref q9])), (q9, .inl (E.2.1, 81, .inl f10))] 9 [(0, .ref q1), (1, .int i2), (2, .int i3)] [.int z13] _
  refine V_aload_n (dX2_leftOf 5 rfl) 10 rfl 0 rfl ?_
  refine V_get gf_N_16 0 rfl rfl (dX2_leftOf 6 rfl) 13 rfl ?_
  refine V_iload_n (dX2_leftOf 7 rfl) 14 rfl 1 rfl ?_
  refine V_iload_n (dX2_leftOf 8 rfl) 15 rfl 2 rfl ?_
  refine V_callV (M := mX2_leftOf) (wcs := [(q8, .inr (2, [.ref q11])), (q11, .inl (E.2.1, 81, .inl f12))]) (wr := [(q1, .inr (1, [.int i4, .int i5, .int i6, .ref q7, .ref q8])), (q7, .inr (2, [.ref q9])), (q9, .inl (E.2.1, 81, .inl f10))]) mf_X1_at tw_369 tw_290 tw_291 ⟨Nat.le_of_ble_eq_true rfl, Nat.le_of_ble_eq_true rfl⟩ (dX2_leftOf 9 rfl) 18 rfl (kX1_at hs q8 q11 f12 i2 i3) rfl [1, 2] [0, 3, 4] (q0 := 0) rfl rfl rfl rfl (by decide) rfl rfl rfl rfl (Nat.le_of_ble_eq_true rfl) 0 0 (show 0 + 0 ≤ 0 from Nat.le_of_ble_eq_true rfl) (show 0 + 0 ≤ 0 from Nat.le_of_ble_eq_true rfl) (fun z14 v w hz => ?_)
  obtain ⟨rfl, rfl⟩ := hz
  show V E K mX2_leftOf (Qm E K mX2_leftOf (zX2_leftOf E q1 q7 q8 q9 q11 i4 i5 i6 f10 f12)) 0 0 [(q1, .inr (1, [.int i4, .int i5, .int i6, .ref q7, .ref q8])), (q7, .inr (2, [.ref q9])), (q9, .inl (E.2.1, 81, .inl f10)), (q8, .inr (2, [.ref q11])), (q11, .inl (E.2.1, 81, .inl f12))] 18 [(0, .ref q1), (1, .int i2), (2, .int i3)] [.int z14, .int z13] _
  refine V_isub (dX2_leftOf 10 rfl) 19 rfl ?_
  exact V_iret rfl (dX2_leftOf 11 rfl) ⟨rfl, rfl⟩)
set_option maxRecDepth 20000 in
theorem kX2_valueNow {E : EX} {l : Launch} (hl : l.stackTraces = false) (q1 q6 q7 : Nat) (i2 i3 i4 : Int32) (v5 : Value) (f8 : Nat → Int32) : Ct E l mX2_valueNow [.ref q1] [(q1, .inr (1, [.int i2, .int i3, .int i4, v5, .ref q6])), (q6, .inr (2, [.ref q7])), (q7, .inl (E.2.1, 81, .inl f8))] (fX2_valueNow i2 i3 f8) (zX2_valueNow E q1 q6 q7 i2 i3 i4 v5 f8) := Ct_of hl mf_X2_valueNow.1 (Nat.le_of_ble_eq_true rfl) (fun K hs => by
  refine V_less 0 0 (Nat.le_refl _) (Nat.le_refl _) ?_
  refine V_pick [0] [(0, .ref q1)] rfl ?_
  unfold fX2_valueNow
  refine V_aload_n (dX2_valueNow 0 rfl) 1 rfl 0 rfl ?_
  refine V_get gf_N_16 0 rfl rfl (dX2_valueNow 1 rfl) 4 rfl ?_
  refine V_aload_n (dX2_valueNow 2 rfl) 5 rfl 0 rfl ?_
  refine V_get gf_N_23 0 rfl rfl (dX2_valueNow 3 rfl) 8 rfl ?_
  refine V_aload_n (dX2_valueNow 4 rfl) 9 rfl 0 rfl ?_
  refine V_get gf_N_19 0 rfl rfl (dX2_valueNow 5 rfl) 12 rfl ?_
  refine V_callV (M := mX2_valueNow) (wcs := [(q6, .inr (2, [.ref q7])), (q7, .inl (E.2.1, 81, .inl f8))]) (wr := [(q1, .inr (1, [.int i2, .int i3, .int i4, v5, .ref q6]))]) mf_X1_sumFrom tw_301 tw_302 tw_303 ⟨Nat.le_of_ble_eq_true rfl, Nat.le_of_ble_eq_true rfl⟩ (dX2_valueNow 6 rfl) 15 rfl (kX1_sumFrom hs q6 q7 f8 i3 i2) rfl [1, 2] [0] (q0 := 0) rfl rfl rfl rfl (by decide) rfl rfl rfl rfl (Nat.le_of_ble_eq_true rfl) 0 0 (show 0 + 0 ≤ 0 from Nat.le_of_ble_eq_true rfl) (show 0 + 0 ≤ 0 from Nat.le_of_ble_eq_true rfl) (fun z9 v w hz => ?_)
  obtain ⟨rfl, rfl⟩ := hz
  show V E K mX2_valueNow (Qm E K mX2_valueNow (zX2_valueNow E q1 q6 q7 i2 i3 i4 v5 f8)) 0 0 [(q1, .inr (1, [.int i2, .int i3, .int i4, v5, .ref q6])), (q6, .inr (2, [.ref q7])), (q7, .inl (E.2.1, 81, .inl f8))] 15 [(0, .ref q1)] [.int z9] _
  exact V_iret rfl (dX2_valueNow 7 rfl) ⟨rfl, rfl⟩)
set_option maxRecDepth 20000 in
theorem vBX2_roomInAll_L4 {E : EX} {K : KX} (hs : K.l.stackTraces = false) (q1 q5 q7 : Nat) (i2 i3 i4 : Int32) (v6 : Value) (f8 : Nat → Int32) (bc bs : Nat) (i20 i21 : Int32) {rec : Int32 → Int32 → Option (Int32)}  (hrec : ∀ (i20 i21 : Int32), V E K mX2_roomInAll (Qm E K mX2_roomInAll (zX2_roomInAll E q1 q5 q7 i2 i3 i4 v6 f8)) (bc) (bs) [(q1, .inr (1, [.int i2, .int i3, .int i4, .ref q5, v6])), (q5, .inr (2, [.ref q7])), (q7, .inl (E.2.1, 81, .inl f8))] 4 [(0, .ref q1), (1, .int i20), (2, .int i21)] [] (rec i20 i21))  : V E K mX2_roomInAll (Qm E K mX2_roomInAll (zX2_roomInAll E q1 q5 q7 i2 i3 i4 v6 f8)) (bc) (bs) [(q1, .inr (1, [.int i2, .int i3, .int i4, .ref q5, v6])), (q5, .inr (2, [.ref q7])), (q7, .inl (E.2.1, 81, .inl f8))] 4 [(0, .ref q1), (1, .int i20), (2, .int i21)] [] (BX2_roomInAll_L4  i2 f8 i20 i21 rec ) := by
  unfold BX2_roomInAll_L4
  refine V_iload_n (dX2_roomInAll 4 rfl) 5 rfl 2 rfl ?_
  refine V_aload_n (dX2_roomInAll 5 rfl) 6 rfl 0 rfl ?_
  refine V_get gf_N_19 0 rfl rfl (dX2_roomInAll 6 rfl) 9 rfl ?_
  refine V_icmp_ge (dX2_roomInAll 7 rfl) 33 (by decide) 12 rfl ?_ ?_
  · refine V_iload_n (dX2_roomInAll 19 rfl) 34 rfl 1 rfl ?_
    exact V_iret rfl (dX2_roomInAll 20 rfl) ⟨rfl, rfl⟩
  · refine V_iload_n (dX2_roomInAll 8 rfl) 13 rfl 1 rfl ?_
    refine V_aload_n (dX2_roomInAll 9 rfl) 14 rfl 0 rfl ?_
    refine V_get gf_N_10 0 rfl rfl (dX2_roomInAll 10 rfl) 17 rfl ?_
    refine V_iload_n (dX2_roomInAll 11 rfl) 18 rfl 2 rfl ?_
    refine V_aload_n (dX2_roomInAll 12 rfl) 19 rfl 0 rfl ?_
    refine V_get gf_N_19 0 rfl rfl (dX2_roomInAll 13 rfl) 22 rfl ?_
    refine V_callV (M := mX2_roomInAll) (wcs := [(q5, .inr (2, [.ref q7])), (q7, .inl (E.2.1, 81, .inl f8))]) (wr := [(q1, .inr (1, [.int i2, .int i3, .int i4, .ref q5, v6]))]) mf_X1_sumFrom tw_301 tw_302 tw_303 ⟨Nat.le_of_ble_eq_true rfl, Nat.le_of_ble_eq_true rfl⟩ (dX2_roomInAll 14 rfl) 25 rfl (kX1_sumFrom hs q5 q7 f8 i21 i2) rfl [1, 2] [0] (q0 := 0) rfl rfl rfl rfl (by decide) rfl rfl rfl rfl (Nat.le_of_ble_eq_true rfl) (bc) (bs) (show (bc) + 0 ≤ (bc) by omega) (show (bs) + 0 ≤ (bs) by omega) (fun z22 v w hz => ?_)
    obtain ⟨rfl, rfl⟩ := hz
    show V E K mX2_roomInAll (Qm E K mX2_roomInAll (zX2_roomInAll E q1 q5 q7 i2 i3 i4 v6 f8)) (bc) (bs) [(q1, .inr (1, [.int i2, .int i3, .int i4, .ref q5, v6])), (q5, .inr (2, [.ref q7])), (q7, .inl (E.2.1, 81, .inl f8))] 25 [(0, .ref q1), (1, .int i20), (2, .int i21)] [.int z22, .int i20] _
    refine V_iadd (dX2_roomInAll 15 rfl) 26 rfl ?_
    refine V_nmI (fun i23 => ?_)
    refine V_istore_n (dX2_roomInAll 16 rfl) 27 rfl [(0, .ref q1), (1, .int i23), (2, .int i21)] (Nat.le_of_ble_eq_true rfl) rfl ?_
    refine V_iinc (dX2_roomInAll 17 rfl) 30 rfl 2 rfl (i21 + (1 : Int32)) rfl [(0, .ref q1), (1, .int i23), (2, .int (i21 + (1 : Int32)))] (Nat.le_of_ble_eq_true rfl) rfl ?_
    refine V_goto (dX2_roomInAll 18 rfl) 4 (by decide) ?_
    exact hrec i23 (i21 + (1 : Int32))
set_option maxRecDepth 20000 in
theorem vLX2_roomInAll_L4 {E : EX} {K : KX} (hs : K.l.stackTraces = false) (q1 q5 q7 : Nat) (i2 i3 i4 : Int32) (v6 : Value) (f8 : Nat → Int32) (bc bs : Nat)   : ∀ (n : Nat) (i20 i21 : Int32), V E K mX2_roomInAll (Qm E K mX2_roomInAll (zX2_roomInAll E q1 q5 q7 i2 i3 i4 v6 f8)) (bc) (bs) [(q1, .inr (1, [.int i2, .int i3, .int i4, .ref q5, v6])), (q5, .inr (2, [.ref q7])), (q7, .inl (E.2.1, 81, .inl f8))] 4 [(0, .ref q1), (1, .int i20), (2, .int i21)] [] (LX2_roomInAll_L4  i2 f8 n i20 i21 )
  | 0, _, _ => V_none
  | n + 1, i20, i21 => vBX2_roomInAll_L4 hs q1 q5 q7 i2 i3 i4 v6 f8 bc bs i20 i21 (fun i20 i21 => vLX2_roomInAll_L4 hs q1 q5 q7 i2 i3 i4 v6 f8 bc bs  n i20 i21) 
set_option maxRecDepth 20000 in
theorem kX2_roomInAll {E : EX} {l : Launch} (hl : l.stackTraces = false) (q1 q5 q7 : Nat) (i2 i3 i4 : Int32) (v6 : Value) (f8 : Nat → Int32) : Ct E l mX2_roomInAll [.ref q1] [(q1, .inr (1, [.int i2, .int i3, .int i4, .ref q5, v6])), (q5, .inr (2, [.ref q7])), (q7, .inl (E.2.1, 81, .inl f8))] (fX2_roomInAll i2 f8) (zX2_roomInAll E q1 q5 q7 i2 i3 i4 v6 f8) := Ct_of hl mf_X2_roomInAll.1 (Nat.le_of_ble_eq_true rfl) (fun K hs => by
  refine V_less 0 0 (Nat.le_refl _) (Nat.le_refl _) ?_
  refine V_pick [0] [(0, .ref q1)] rfl ?_
  unfold fX2_roomInAll
  refine V_iconst (0 : Int32) (by decide) (dX2_roomInAll 0 rfl) 1 rfl ?_
  refine V_istore_n (dX2_roomInAll 1 rfl) 2 rfl [(0, .ref q1), (1, .int (0 : Int32))] (Nat.le_of_ble_eq_true rfl) rfl ?_
  refine V_iconst (0 : Int32) (by decide) (dX2_roomInAll 2 rfl) 3 rfl ?_
  refine V_istore_n (dX2_roomInAll 3 rfl) 4 rfl [(0, .ref q1), (1, .int (0 : Int32)), (2, .int (0 : Int32))] (Nat.le_of_ble_eq_true rfl) rfl ?_
  refine vLX2_roomInAll_L4 hs q1 q5 q7 i2 i3 i4 v6 f8 0 0  12 (0 : Int32) (0 : Int32))
set_option maxRecDepth 20000 in
theorem kX2_carry {E : EX} {l : Launch} (hl : l.stackTraces = false) (q1 q9 q10 : Nat) (i5 i6 i7 : Int32) (v8 : Value) (f11 : Nat → Int32) (i2 i3 i4 : Int32) : Ct E l mX2_carry [.ref q1, .int i2, .int i3, .int i4] [(q1, .inr (1, [.int i5, .int i6, .int i7, v8, .ref q9])), (q9, .inr (2, [.ref q10])), (q10, .inl (E.2.1, 81, .inl f11))] (fX2_carry f11 i2 i3 i4) (zX2_carry E q1 q9 q10 i5 i6 i7 v8) := Ct_of hl mf_X2_carry.1 (Nat.le_of_ble_eq_true rfl) (fun K hs => by
  refine V_less 0 0 (Nat.le_refl _) (Nat.le_refl _) ?_
  refine V_pick [0, 1, 2, 3] [(0, .ref q1), (1, .int i2), (2, .int i3), (3, .int i4)] rfl ?_
  unfold fX2_carry
  refine V_aload_n (dX2_carry 0 rfl) 1 rfl 0 rfl ?_
  refine V_get gf_N_16 0 rfl rfl (dX2_carry 1 rfl) 4 rfl ?_
  refine V_iload_n (dX2_carry 2 rfl) 5 rfl 1 rfl ?_
  refine V_iload_n (dX2_carry 3 rfl) 6 rfl 2 rfl ?_
  refine V_aload_n (dX2_carry 4 rfl) 7 rfl 0 rfl ?_
  refine V_get gf_N_16 0 rfl rfl (dX2_carry 5 rfl) 10 rfl ?_
  refine V_iload_n (dX2_carry 6 rfl) 11 rfl 1 rfl ?_
  refine V_iload_n (dX2_carry 7 rfl) 12 rfl 2 rfl ?_
  refine V_callV (M := mX2_carry) (wcs := [(q9, .inr (2, [.ref q10])), (q10, .inl (E.2.1, 81, .inl f11))]) (wr := [(q1, .inr (1, [.int i5, .int i6, .int i7, v8, .ref q9]))]) mf_X1_at tw_369 tw_290 tw_291 ⟨Nat.le_of_ble_eq_true rfl, Nat.le_of_ble_eq_true rfl⟩ (dX2_carry 8 rfl) 15 rfl (kX1_at hs q9 q10 f11 i2 i3) rfl [1, 2] [0] (q0 := 0) rfl rfl rfl rfl (by decide) rfl rfl rfl rfl (Nat.le_of_ble_eq_true rfl) 0 0 (show 0 + 0 ≤ 0 from Nat.le_of_ble_eq_true rfl) (show 0 + 0 ≤ 0 from Nat.le_of_ble_eq_true rfl) (fun z12 v w hz => ?_)
  obtain ⟨rfl, rfl⟩ := hz
  show V E K mX2_carry (Qm E K mX2_carry (zX2_carry E q1 q9 q10 i5 i6 i7 v8)) 0 0 [(q1, .inr (1, [.int i5, .int i6, .int i7, v8, .ref q9])), (q9, .inr (2, [.ref q10])), (q10, .inl (E.2.1, 81, .inl f11))] 15 [(0, .ref q1), (1, .int i2), (2, .int i3), (3, .int i4)] [.int z12, .int i3, .int i2, .ref q9] _
  refine V_iload_n (dX2_carry 9 rfl) 16 rfl 3 rfl ?_
  refine V_iadd (dX2_carry 10 rfl) 17 rfl ?_
  refine V_callV (M := mX2_carry) (wcs := [(q9, .inr (2, [.ref q10])), (q10, .inl (E.2.1, 81, .inl f11))]) (wr := [(q1, .inr (1, [.int i5, .int i6, .int i7, v8, .ref q9]))]) mf_X1_put tw_370 tw_294 tw_295 ⟨Nat.le_of_ble_eq_true rfl, Nat.le_of_ble_eq_true rfl⟩ (dX2_carry 11 rfl) 20 rfl (kX1_put hs q9 q10 f11 i2 i3 (z12 + i4)) rfl [1, 2] [0] (q0 := 0) rfl rfl rfl rfl (by decide) rfl rfl rfl rfl (Nat.le_of_ble_eq_true rfl) 0 0 (show 0 + 0 ≤ 0 from Nat.le_of_ble_eq_true rfl) (show 0 + 0 ≤ 0 from Nat.le_of_ble_eq_true rfl) (fun z13 v w hz => ?_)
  obtain ⟨rfl, rfl⟩ := hz
  show V E K mX2_carry (Qm E K mX2_carry (zX2_carry E q1 q9 q10 i5 i6 i7 v8)) 0 0 [(q1, .inr (1, [.int i5, .int i6, .int i7, v8, .ref q9])), (q9, .inr (2, [.ref q10])), (q10, .inl (E.2.1, 81, .inl z13))] 20 [(0, .ref q1), (1, .int i2), (2, .int i3), (3, .int i4)] [] _
  refine V_aload_n (dX2_carry 12 rfl) 21 rfl 0 rfl ?_
  refine V_get gf_N_16 0 rfl rfl (dX2_carry 13 rfl) 24 rfl ?_
  refine V_iload_n (dX2_carry 14 rfl) 25 rfl 2 rfl ?_
  refine V_iload_n (dX2_carry 15 rfl) 26 rfl 1 rfl ?_
  refine V_aload_n (dX2_carry 16 rfl) 27 rfl 0 rfl ?_
  refine V_get gf_N_16 0 rfl rfl (dX2_carry 17 rfl) 30 rfl ?_
  refine V_iload_n (dX2_carry 18 rfl) 31 rfl 2 rfl ?_
  refine V_iload_n (dX2_carry 19 rfl) 32 rfl 1 rfl ?_
  refine V_callV (M := mX2_carry) (wcs := [(q9, .inr (2, [.ref q10])), (q10, .inl (E.2.1, 81, .inl z13))]) (wr := [(q1, .inr (1, [.int i5, .int i6, .int i7, v8, .ref q9]))]) mf_X1_at tw_369 tw_290 tw_291 ⟨Nat.le_of_ble_eq_true rfl, Nat.le_of_ble_eq_true rfl⟩ (dX2_carry 20 rfl) 35 rfl (kX1_at hs q9 q10 z13 i3 i2) rfl [1, 2] [0] (q0 := 0) rfl rfl rfl rfl (by decide) rfl rfl rfl rfl (Nat.le_of_ble_eq_true rfl) 0 0 (show 0 + 0 ≤ 0 from Nat.le_of_ble_eq_true rfl) (show 0 + 0 ≤ 0 from Nat.le_of_ble_eq_true rfl) (fun z14 v w hz => ?_)
  obtain ⟨rfl, rfl⟩ := hz
  show V E K mX2_carry (Qm E K mX2_carry (zX2_carry E q1 q9 q10 i5 i6 i7 v8)) 0 0 [(q1, .inr (1, [.int i5, .int i6, .int i7, v8, .ref q9])), (q9, .inr (2, [.ref q10])), (q10, .inl (E.2.1, 81, .inl z13))] 35 [(0, .ref q1), (1, .int i2), (2, .int i3), (3, .int i4)] [.int z14, .int i2, .int i3, .ref q9] _
  refine V_iload_n (dX2_carry 21 rfl) 36 rfl 3 rfl ?_
  refine V_isub (dX2_carry 22 rfl) 37 rfl ?_
  refine V_callV (M := mX2_carry) (wcs := [(q9, .inr (2, [.ref q10])), (q10, .inl (E.2.1, 81, .inl z13))]) (wr := [(q1, .inr (1, [.int i5, .int i6, .int i7, v8, .ref q9]))]) mf_X1_put tw_370 tw_294 tw_295 ⟨Nat.le_of_ble_eq_true rfl, Nat.le_of_ble_eq_true rfl⟩ (dX2_carry 23 rfl) 40 rfl (kX1_put hs q9 q10 z13 i3 i2 (z14 - i4)) rfl [1, 2] [0] (q0 := 0) rfl rfl rfl rfl (by decide) rfl rfl rfl rfl (Nat.le_of_ble_eq_true rfl) 0 0 (show 0 + 0 ≤ 0 from Nat.le_of_ble_eq_true rfl) (show 0 + 0 ≤ 0 from Nat.le_of_ble_eq_true rfl) (fun z15 v w hz => ?_)
  obtain ⟨rfl, rfl⟩ := hz
  show V E K mX2_carry (Qm E K mX2_carry (zX2_carry E q1 q9 q10 i5 i6 i7 v8)) 0 0 [(q1, .inr (1, [.int i5, .int i6, .int i7, v8, .ref q9])), (q9, .inr (2, [.ref q10])), (q10, .inl (E.2.1, 81, .inl z15))] 40 [(0, .ref q1), (1, .int i2), (2, .int i3), (3, .int i4)] [] _
  exact V_vret rfl (dX2_carry 24 rfl) ⟨rfl, rfl⟩)
set_option maxRecDepth 20000 in
theorem vBX2_carryAlong_L2 {E : EX} {K : KX} (hs : K.l.stackTraces = false) (q1 q8 q9 q2 q11 : Nat) (i4 i5 i6 : Int32) (v7 : Value) (i12 : Int32) (f13 : Nat → Int32) (i3 : Int32) (bc bs : Nat) (i29 : Int32) (f30 : Nat → Int32) {rec : Int32 → (Nat → Int32) → Option ((Nat → Int32))}  (hrec : ∀ (i29 : Int32) (f30 : Nat → Int32), V E K mX2_carryAlong (Qm E K mX2_carryAlong (zX2_carryAlong E q1 q8 q9 q2 q11 i4 i5 i6 v7 i12 f13)) (bc) (bs) [(q1, .inr (1, [.int i4, .int i5, .int i6, v7, .ref q8])), (q8, .inr (2, [.ref q9])), (q9, .inl (E.2.1, 81, .inl f30)), (q2, .inr (4, [.ref q11, .int i12])), (q11, .inl (E.2.1, 10, .inl f13))] 2 [(0, .ref q1), (1, .ref q2), (2, .int i3), (3, .int i29)] [] (rec i29 f30))  : V E K mX2_carryAlong (Qm E K mX2_carryAlong (zX2_carryAlong E q1 q8 q9 q2 q11 i4 i5 i6 v7 i12 f13)) (bc) (bs) [(q1, .inr (1, [.int i4, .int i5, .int i6, v7, .ref q8])), (q8, .inr (2, [.ref q9])), (q9, .inl (E.2.1, 81, .inl f30)), (q2, .inr (4, [.ref q11, .int i12])), (q11, .inl (E.2.1, 10, .inl f13))] 2 [(0, .ref q1), (1, .ref q2), (2, .int i3), (3, .int i29)] [] (BX2_carryAlong_L2  i12 f13 i3 i29 f30 rec ) := by
  unfold BX2_carryAlong_L2
  refine V_iload_n (dX2_carryAlong 2 rfl) 3 rfl 3 rfl ?_
  refine V_aload_n (dX2_carryAlong 3 rfl) 4 rfl 1 rfl ?_
  refine V_getN gf_N_47 3 rfl rfl (dX2_carryAlong 4 rfl) 7 rfl ?_
  refine V_icmp_ge (dX2_carryAlong 5 rfl) 33 (by decide) 10 rfl ?_ ?_
  · exact V_vret rfl (dX2_carryAlong 19 rfl) ⟨rfl, rfl⟩
  · refine V_aload_n (dX2_carryAlong 6 rfl) 11 rfl 0 rfl ?_
    refine V_aload_n (dX2_carryAlong 7 rfl) 12 rfl 1 rfl ?_
    refine V_iload_n (dX2_carryAlong 8 rfl) 13 rfl 3 rfl ?_
    refine V_iconst (1 : Int32) (by decide) (dX2_carryAlong 9 rfl) 14 rfl ?_
    refine V_isub (dX2_carryAlong 10 rfl) 15 rfl ?_
    refine V_callV (M := mX2_carryAlong) (wcs := [(q2, .inr (4, [.ref q11, .int i12])), (q11, .inl (E.2.1, 10, .inl f13))]) (wr := [(q1, .inr (1, [.int i4, .int i5, .int i6, v7, .ref q8])), (q8, .inr (2, [.ref q9])), (q9, .inl (E.2.1, 81, .inl f30))]) mf_X4_at tw_364 tw_336 tw_337 ⟨Nat.le_of_ble_eq_true rfl, Nat.le_of_ble_eq_true rfl⟩ (dX2_carryAlong 11 rfl) 18 rfl (kX4_at hs q2 q11 i12 f13 (i29 - (1 : Int32))) rfl [3, 4] [0, 1, 2] (q0 := 0) rfl rfl rfl rfl (by decide) rfl rfl rfl rfl (Nat.le_of_ble_eq_true rfl) (bc) (bs) (show (bc) + 0 ≤ (bc) by omega) (show (bs) + 0 ≤ (bs) by omega) (fun z31 v w hz => ?_)
    obtain ⟨rfl, rfl⟩ := hz
    show V E K mX2_carryAlong (Qm E K mX2_carryAlong (zX2_carryAlong E q1 q8 q9 q2 q11 i4 i5 i6 v7 i12 f13)) (bc) (bs) [(q1, .inr (1, [.int i4, .int i5, .int i6, v7, .ref q8])), (q8, .inr (2, [.ref q9])), (q9, .inl (E.2.1, 81, .inl f30)), (q2, .inr (4, [.ref q11, .int i12])), (q11, .inl (E.2.1, 10, .inl f13))] 18 [(0, .ref q1), (1, .ref q2), (2, .int i3), (3, .int i29)] [.int z31, .ref q1] _
    refine V_aload_n (dX2_carryAlong 12 rfl) 19 rfl 1 rfl ?_
    refine V_iload_n (dX2_carryAlong 13 rfl) 20 rfl 3 rfl ?_
    refine V_callV (M := mX2_carryAlong) (wcs := [(q2, .inr (4, [.ref q11, .int i12])), (q11, .inl (E.2.1, 10, .inl f13))]) (wr := [(q1, .inr (1, [.int i4, .int i5, .int i6, v7, .ref q8])), (q8, .inr (2, [.ref q9])), (q9, .inl (E.2.1, 81, .inl f30))]) mf_X4_at tw_364 tw_336 tw_337 ⟨Nat.le_of_ble_eq_true rfl, Nat.le_of_ble_eq_true rfl⟩ (dX2_carryAlong 14 rfl) 23 rfl (kX4_at hs q2 q11 i12 f13 i29) rfl [3, 4] [0, 1, 2] (q0 := 0) rfl rfl rfl rfl (by decide) rfl rfl rfl rfl (Nat.le_of_ble_eq_true rfl) (bc) (bs) (show (bc) + 0 ≤ (bc) by omega) (show (bs) + 0 ≤ (bs) by omega) (fun z32 v w hz => ?_)
    obtain ⟨rfl, rfl⟩ := hz
    show V E K mX2_carryAlong (Qm E K mX2_carryAlong (zX2_carryAlong E q1 q8 q9 q2 q11 i4 i5 i6 v7 i12 f13)) (bc) (bs) [(q1, .inr (1, [.int i4, .int i5, .int i6, v7, .ref q8])), (q8, .inr (2, [.ref q9])), (q9, .inl (E.2.1, 81, .inl f30)), (q2, .inr (4, [.ref q11, .int i12])), (q11, .inl (E.2.1, 10, .inl f13))] 23 [(0, .ref q1), (1, .ref q2), (2, .int i3), (3, .int i29)] [.int z32, .int z31, .ref q1] _
    refine V_iload_n (dX2_carryAlong 15 rfl) 24 rfl 2 rfl ?_
    refine V_callV (M := mX2_carryAlong) (wcs := [(q1, .inr (1, [.int i4, .int i5, .int i6, v7, .ref q8])), (q8, .inr (2, [.ref q9])), (q9, .inl (E.2.1, 81, .inl f30))]) (wr := [(q2, .inr (4, [.ref q11, .int i12])), (q11, .inl (E.2.1, 10, .inl f13))]) mf_X2_carry tw_365 tw_366 tw_367 ⟨Nat.le_of_ble_eq_true rfl, Nat.le_of_ble_eq_true rfl⟩ (dX2_carryAlong 16 rfl) 27 rfl (kX2_carry hs q1 q8 q9 i4 i5 i6 v7 f30 z31 z32 i3) rfl [0, 1, 2] [3, 4] (q0 := 0) rfl rfl rfl rfl (by decide) rfl rfl rfl rfl (Nat.le_of_ble_eq_true rfl) (bc) (bs) (show (bc) + 0 ≤ (bc) by omega) (show (bs) + 0 ≤ (bs) by omega) (fun z33 v w hz => ?_)
    obtain ⟨rfl, rfl⟩ := hz
    show V E K mX2_carryAlong (Qm E K mX2_carryAlong (zX2_carryAlong E q1 q8 q9 q2 q11 i4 i5 i6 v7 i12 f13)) (bc) (bs) [(q2, .inr (4, [.ref q11, .int i12])), (q11, .inl (E.2.1, 10, .inl f13)), (q1, .inr (1, [.int i4, .int i5, .int i6, v7, .ref q8])), (q8, .inr (2, [.ref q9])), (q9, .inl (E.2.1, 81, .inl z33))] 27 [(0, .ref q1), (1, .ref q2), (2, .int i3), (3, .int i29)] [] _
    refine V_iinc (dX2_carryAlong 17 rfl) 30 rfl 3 rfl (i29 + (1 : Int32)) rfl [(0, .ref q1), (1, .ref q2), (2, .int i3), (3, .int (i29 + (1 : Int32)))] (Nat.le_of_ble_eq_true rfl) rfl ?_
    refine V_goto (dX2_carryAlong 18 rfl) 2 (by decide) ?_
    refine V_world [2, 3, 4, 0, 1] [(q1, .inr (1, [.int i4, .int i5, .int i6, v7, .ref q8])), (q8, .inr (2, [.ref q9])), (q9, .inl (E.2.1, 81, .inl z33)), (q2, .inr (4, [.ref q11, .int i12])), (q11, .inl (E.2.1, 10, .inl f13))] rfl rfl rfl ?_
    exact hrec (i29 + (1 : Int32)) z33
set_option maxRecDepth 20000 in
theorem vLX2_carryAlong_L2 {E : EX} {K : KX} (hs : K.l.stackTraces = false) (q1 q8 q9 q2 q11 : Nat) (i4 i5 i6 : Int32) (v7 : Value) (i12 : Int32) (f13 : Nat → Int32) (i3 : Int32) (bc bs : Nat)   : ∀ (n : Nat) (i29 : Int32) (f30 : Nat → Int32), V E K mX2_carryAlong (Qm E K mX2_carryAlong (zX2_carryAlong E q1 q8 q9 q2 q11 i4 i5 i6 v7 i12 f13)) (bc) (bs) [(q1, .inr (1, [.int i4, .int i5, .int i6, v7, .ref q8])), (q8, .inr (2, [.ref q9])), (q9, .inl (E.2.1, 81, .inl f30)), (q2, .inr (4, [.ref q11, .int i12])), (q11, .inl (E.2.1, 10, .inl f13))] 2 [(0, .ref q1), (1, .ref q2), (2, .int i3), (3, .int i29)] [] (LX2_carryAlong_L2  i12 f13 i3 n i29 f30 )
  | 0, _, _ => V_none
  | n + 1, i29, f30 => vBX2_carryAlong_L2 hs q1 q8 q9 q2 q11 i4 i5 i6 v7 i12 f13 i3 bc bs i29 f30 (fun i29 f30 => vLX2_carryAlong_L2 hs q1 q8 q9 q2 q11 i4 i5 i6 v7 i12 f13 i3 bc bs  n i29 f30) 
set_option maxRecDepth 20000 in
theorem kX2_carryAlong {E : EX} {l : Launch} (hl : l.stackTraces = false) (q1 q2 q8 q9 q11 : Nat) (i4 i5 i6 : Int32) (v7 : Value) (f10 : Nat → Int32) (i12 : Int32) (f13 : Nat → Int32) (i3 : Int32) : Ct E l mX2_carryAlong [.ref q1, .ref q2, .int i3] [(q1, .inr (1, [.int i4, .int i5, .int i6, v7, .ref q8])), (q8, .inr (2, [.ref q9])), (q9, .inl (E.2.1, 81, .inl f10)), (q2, .inr (4, [.ref q11, .int i12])), (q11, .inl (E.2.1, 10, .inl f13))] (fX2_carryAlong f10 i12 f13 i3) (zX2_carryAlong E q1 q8 q9 q2 q11 i4 i5 i6 v7 i12 f13) := Ct_of hl mf_X2_carryAlong.1 (Nat.le_of_ble_eq_true rfl) (fun K hs => by
  refine V_less 0 0 (Nat.le_refl _) (Nat.le_refl _) ?_
  refine V_pick [0, 1, 2] [(0, .ref q1), (1, .ref q2), (2, .int i3)] rfl ?_
  unfold fX2_carryAlong
  refine V_iconst (1 : Int32) (by decide) (dX2_carryAlong 0 rfl) 1 rfl ?_
  refine V_istore_n (dX2_carryAlong 1 rfl) 2 rfl [(0, .ref q1), (1, .ref q2), (2, .int i3), (3, .int (1 : Int32))] (Nat.le_of_ble_eq_true rfl) rfl ?_
  refine vLX2_carryAlong_L2 hs q1 q8 q9 q2 q11 i4 i5 i6 v7 i12 f13 i3 0 0  12 (1 : Int32) f10)
set_option maxRecDepth 20000 in
theorem kX2_turn {E : EX} {l : Launch} (hl : l.stackTraces = false) (q1 q5 q6 q7 q9 : Nat) (i2 i3 i4 : Int32) (f8 f10 : Nat → Int32) : Ct E l mX2_turn [.ref q1] [(q1, .inr (1, [.int i2, .int i3, .int i4, .ref q5, .ref q6])), (q5, .inr (2, [.ref q7])), (q7, .inl (E.2.1, 81, .inl f8)), (q6, .inr (2, [.ref q9])), (q9, .inl (E.2.1, 81, .inl f10))] (fX2_turn i2 f8 f10) (zX2_turn E q1 q5 q6 q7 q9 i2 i4 i3) := Ct_of hl mf_X2_turn.1 (Nat.le_of_ble_eq_true rfl) (fun K hs => by
  refine V_less 0 0 (Nat.le_refl _) (Nat.le_refl _) ?_
  refine V_pick [0] [(0, .ref q1)] rfl ?_
  unfold fX2_turn
  refine V_aload_n (dX2_turn 0 rfl) 1 rfl 0 rfl ?_
  refine V_get gf_N_10 0 rfl rfl (dX2_turn 1 rfl) 4 rfl ?_
  refine V_aload_n (dX2_turn 2 rfl) 5 rfl 0 rfl ?_
  refine V_get gf_N_19 0 rfl rfl (dX2_turn 3 rfl) 8 rfl ?_
  refine V_callV (M := mX2_turn) (wcs := [(q5, .inr (2, [.ref q7])), (q7, .inl (E.2.1, 81, .inl f8))]) (wr := [(q1, .inr (1, [.int i2, .int i3, .int i4, .ref q5, .ref q6])), (q6, .inr (2, [.ref q9])), (q9, .inl (E.2.1, 81, .inl f10))]) mf_X1_turn tw_281 tw_282 tw_283 ⟨Nat.le_of_ble_eq_true rfl, Nat.le_of_ble_eq_true rfl⟩ (dX2_turn 4 rfl) 11 rfl (kX1_turn hs q5 q7 f8 i2) rfl [1, 2] [0, 3, 4] (q0 := 0) rfl rfl rfl rfl (by decide) rfl rfl rfl rfl (Nat.le_of_ble_eq_true rfl) 0 0 (show 0 + 0 ≤ 0 from Nat.le_of_ble_eq_true rfl) (show 0 + 0 ≤ 0 from Nat.le_of_ble_eq_true rfl) (fun z11 v w hz => ?_)
  obtain ⟨rfl, rfl⟩ := hz
  show V E K mX2_turn (Qm E K mX2_turn (zX2_turn E q1 q5 q6 q7 q9 i2 i4 i3)) 0 0 [(q1, .inr (1, [.int i2, .int i3, .int i4, .ref q5, .ref q6])), (q6, .inr (2, [.ref q9])), (q9, .inl (E.2.1, 81, .inl f10)), (q5, .inr (2, [.ref q7])), (q7, .inl (E.2.1, 81, .inl z11))] 11 [(0, .ref q1)] [] _
  refine V_aload_n (dX2_turn 5 rfl) 12 rfl 0 rfl ?_
  refine V_get gf_N_16 0 rfl rfl (dX2_turn 6 rfl) 15 rfl ?_
  refine V_aload_n (dX2_turn 7 rfl) 16 rfl 0 rfl ?_
  refine V_get gf_N_19 0 rfl rfl (dX2_turn 8 rfl) 19 rfl ?_
  refine V_callV (M := mX2_turn) (wcs := [(q6, .inr (2, [.ref q9])), (q9, .inl (E.2.1, 81, .inl f10))]) (wr := [(q1, .inr (1, [.int i2, .int i3, .int i4, .ref q5, .ref q6])), (q5, .inr (2, [.ref q7])), (q7, .inl (E.2.1, 81, .inl z11))]) mf_X1_turn tw_281 tw_282 tw_283 ⟨Nat.le_of_ble_eq_true rfl, Nat.le_of_ble_eq_true rfl⟩ (dX2_turn 9 rfl) 22 rfl (kX1_turn hs q6 q9 f10 i2) rfl [1, 2] [0, 3, 4] (q0 := 0) rfl rfl rfl rfl (by decide) rfl rfl rfl rfl (Nat.le_of_ble_eq_true rfl) 0 0 (show 0 + 0 ≤ 0 from Nat.le_of_ble_eq_true rfl) (show 0 + 0 ≤ 0 from Nat.le_of_ble_eq_true rfl) (fun z12 v w hz => ?_)
  obtain ⟨rfl, rfl⟩ := hz
  show V E K mX2_turn (Qm E K mX2_turn (zX2_turn E q1 q5 q6 q7 q9 i2 i4 i3)) 0 0 [(q1, .inr (1, [.int i2, .int i3, .int i4, .ref q5, .ref q6])), (q5, .inr (2, [.ref q7])), (q7, .inl (E.2.1, 81, .inl z11)), (q6, .inr (2, [.ref q9])), (q9, .inl (E.2.1, 81, .inl z12))] 22 [(0, .ref q1)] [] _
  refine V_aload_n (dX2_turn 10 rfl) 23 rfl 0 rfl ?_
  refine V_get gf_N_23 0 rfl rfl (dX2_turn 11 rfl) 26 rfl ?_
  refine V_istore_n (dX2_turn 12 rfl) 27 rfl [(0, .ref q1), (1, .int i3)] (Nat.le_of_ble_eq_true rfl) rfl ?_
  refine V_aload_n (dX2_turn 13 rfl) 28 rfl 0 rfl ?_
  refine V_aload_n (dX2_turn 14 rfl) 29 rfl 0 rfl ?_
  refine V_get gf_N_26 0 rfl rfl (dX2_turn 15 rfl) 32 rfl ?_
  refine V_put pf_N_23 0 rfl rfl rfl (Nat.le_of_ble_eq_true rfl) (dX2_turn 16 rfl) 35 rfl [(q1, .inr (1, [.int i2, .int i4, .int i4, .ref q5, .ref q6])), (q5, .inr (2, [.ref q7])), (q7, .inl (E.2.1, 81, .inl z11)), (q6, .inr (2, [.ref q9])), (q9, .inl (E.2.1, 81, .inl z12))] rfl ?_
  refine V_aload_n (dX2_turn 17 rfl) 36 rfl 0 rfl ?_
  refine V_iload_n (dX2_turn 18 rfl) 37 rfl 1 rfl ?_
  refine V_put pf_N_26 0 rfl rfl rfl (Nat.le_of_ble_eq_true rfl) (dX2_turn 19 rfl) 40 rfl [(q1, .inr (1, [.int i2, .int i4, .int i3, .ref q5, .ref q6])), (q5, .inr (2, [.ref q7])), (q7, .inl (E.2.1, 81, .inl z11)), (q6, .inr (2, [.ref q9])), (q9, .inl (E.2.1, 81, .inl z12))] rfl ?_
  exact V_vret rfl (dX2_turn 20 rfl) ⟨rfl, rfl⟩)
set_option maxRecDepth 20000 in
theorem kX2_exchanged {E : EX} {l : Launch} (hl : l.stackTraces = false)  (i1 i2 i3 : Int32) : Ct E l mX2_exchanged [.int i1, .int i2, .int i3] [] (fX2_exchanged i1 i2 i3) (zX2_exchanged E) := Ct_of hl mf_X2_exchanged.1 (Nat.le_of_ble_eq_true rfl) (fun K hs => by
  refine V_less 0 0 (Nat.le_refl _) (Nat.le_refl _) ?_
  refine V_pick [0, 1, 2] [(0, .int i1), (1, .int i2), (2, .int i3)] rfl ?_
  unfold fX2_exchanged
  refine V_iload_n (dX2_exchanged 0 rfl) 1 rfl 0 rfl ?_
  refine V_iload_n (dX2_exchanged 1 rfl) 2 rfl 1 rfl ?_
  refine V_icmp_ne (dX2_exchanged 2 rfl) 7 (by decide) 5 rfl ?_ ?_
  · refine V_iload_n (dX2_exchanged 5 rfl) 8 rfl 0 rfl ?_
    refine V_iload_n (dX2_exchanged 6 rfl) 9 rfl 2 rfl ?_
    refine V_icmp_ne (dX2_exchanged 7 rfl) 16 (by decide) 12 rfl ?_ ?_
    · refine V_iload_n (dX2_exchanged 10 rfl) 17 rfl 0 rfl ?_
      exact V_iret rfl (dX2_exchanged 11 rfl) ⟨rfl, rfl⟩
    · refine V_iload_n (dX2_exchanged 8 rfl) 13 rfl 1 rfl ?_
      refine V_goto (dX2_exchanged 9 rfl) 17 (by decide) ?_
      exact V_iret rfl (dX2_exchanged 11 rfl) ⟨rfl, rfl⟩
  · refine V_iload_n (dX2_exchanged 3 rfl) 6 rfl 2 rfl ?_
    exact V_iret rfl (dX2_exchanged 4 rfl) ⟨rfl, rfl⟩)
set_option maxRecDepth 20000 in
theorem kX2_exchange {E : EX} {l : Launch} (hl : l.stackTraces = false) (q1 q7 q8 q9 q11 : Nat) (i4 i5 i6 : Int32) (f10 f12 : Nat → Int32) (i2 i3 : Int32) : Ct E l mX2_exchange [.ref q1, .int i2, .int i3] [(q1, .inr (1, [.int i4, .int i5, .int i6, .ref q7, .ref q8])), (q7, .inr (2, [.ref q9])), (q9, .inl (E.2.1, 81, .inl f10)), (q8, .inr (2, [.ref q11])), (q11, .inl (E.2.1, 81, .inl f12))] (fX2_exchange i4 i5 i6 f10 f12 i2 i3) (zX2_exchange E q1 q7 q8 q9 q11 i4) := Ct_of hl mf_X2_exchange.1 (Nat.le_of_ble_eq_true rfl) (fun K hs => by
  refine V_less 0 0 (Nat.le_refl _) (Nat.le_refl _) ?_
  refine V_pick [0, 1, 2] [(0, .ref q1), (1, .int i2), (2, .int i3)] rfl ?_
  unfold fX2_exchange
  refine V_aload_n (dX2_exchange 0 rfl) 1 rfl 0 rfl ?_
  refine V_get gf_N_10 0 rfl rfl (dX2_exchange 1 rfl) 4 rfl ?_
  refine V_iload_n (dX2_exchange 2 rfl) 5 rfl 1 rfl ?_
  refine V_iload_n (dX2_exchange 3 rfl) 6 rfl 2 rfl ?_
  refine V_aload_n (dX2_exchange 4 rfl) 7 rfl 0 rfl ?_
  refine V_get gf_N_19 0 rfl rfl (dX2_exchange 5 rfl) 10 rfl ?_
  refine V_callV (M := mX2_exchange) (wcs := [(q7, .inr (2, [.ref q9])), (q9, .inl (E.2.1, 81, .inl f10))]) (wr := [(q1, .inr (1, [.int i4, .int i5, .int i6, .ref q7, .ref q8])), (q8, .inr (2, [.ref q11])), (q11, .inl (E.2.1, 81, .inl f12))]) mf_X1_exchangePlaces tw_1091 tw_1092 tw_1093 ⟨Nat.le_of_ble_eq_true rfl, Nat.le_of_ble_eq_true rfl⟩ (dX2_exchange 6 rfl) 13 rfl (kX1_exchangePlaces hs q7 q9 f10 i2 i3 i4) rfl [1, 2] [0, 3, 4] (q0 := 0) rfl rfl rfl rfl (by decide) rfl rfl rfl rfl (Nat.le_of_ble_eq_true rfl) 0 0 (show 0 + 0 ≤ 0 from Nat.le_of_ble_eq_true rfl) (show 0 + 0 ≤ 0 from Nat.le_of_ble_eq_true rfl) (fun z13 v w hz => ?_)
  obtain ⟨rfl, rfl⟩ := hz
  show V E K mX2_exchange (Qm E K mX2_exchange (zX2_exchange E q1 q7 q8 q9 q11 i4)) 0 0 [(q1, .inr (1, [.int i4, .int i5, .int i6, .ref q7, .ref q8])), (q8, .inr (2, [.ref q11])), (q11, .inl (E.2.1, 81, .inl f12)), (q7, .inr (2, [.ref q9])), (q9, .inl (E.2.1, 81, .inl z13))] 13 [(0, .ref q1), (1, .int i2), (2, .int i3)] [] _
  refine V_aload_n (dX2_exchange 7 rfl) 14 rfl 0 rfl ?_
  refine V_get gf_N_16 0 rfl rfl (dX2_exchange 8 rfl) 17 rfl ?_
  refine V_iload_n (dX2_exchange 9 rfl) 18 rfl 1 rfl ?_
  refine V_iload_n (dX2_exchange 10 rfl) 19 rfl 2 rfl ?_
  refine V_aload_n (dX2_exchange 11 rfl) 20 rfl 0 rfl ?_
  refine V_get gf_N_19 0 rfl rfl (dX2_exchange 12 rfl) 23 rfl ?_
  refine V_callV (M := mX2_exchange) (wcs := [(q8, .inr (2, [.ref q11])), (q11, .inl (E.2.1, 81, .inl f12))]) (wr := [(q1, .inr (1, [.int i4, .int i5, .int i6, .ref q7, .ref q8])), (q7, .inr (2, [.ref q9])), (q9, .inl (E.2.1, 81, .inl z13))]) mf_X1_exchangePlaces tw_1091 tw_1092 tw_1093 ⟨Nat.le_of_ble_eq_true rfl, Nat.le_of_ble_eq_true rfl⟩ (dX2_exchange 13 rfl) 26 rfl (kX1_exchangePlaces hs q8 q11 f12 i2 i3 i4) rfl [1, 2] [0, 3, 4] (q0 := 0) rfl rfl rfl rfl (by decide) rfl rfl rfl rfl (Nat.le_of_ble_eq_true rfl) 0 0 (show 0 + 0 ≤ 0 from Nat.le_of_ble_eq_true rfl) (show 0 + 0 ≤ 0 from Nat.le_of_ble_eq_true rfl) (fun z14 v w hz => ?_)
  obtain ⟨rfl, rfl⟩ := hz
  show V E K mX2_exchange (Qm E K mX2_exchange (zX2_exchange E q1 q7 q8 q9 q11 i4)) 0 0 [(q1, .inr (1, [.int i4, .int i5, .int i6, .ref q7, .ref q8])), (q7, .inr (2, [.ref q9])), (q9, .inl (E.2.1, 81, .inl z13)), (q8, .inr (2, [.ref q11])), (q11, .inl (E.2.1, 81, .inl z14))] 26 [(0, .ref q1), (1, .int i2), (2, .int i3)] [] _
  refine V_aload_n (dX2_exchange 14 rfl) 27 rfl 0 rfl ?_
  refine V_aload_n (dX2_exchange 15 rfl) 28 rfl 0 rfl ?_
  refine V_get gf_N_23 0 rfl rfl (dX2_exchange 16 rfl) 31 rfl ?_
  refine V_iload_n (dX2_exchange 17 rfl) 32 rfl 1 rfl ?_
  refine V_iload_n (dX2_exchange 18 rfl) 33 rfl 2 rfl ?_
  refine V_callS (M := mX2_exchange) (wcs := []) (wr := [(q1, .inr (1, [.int i4, .int i5, .int i6, .ref q7, .ref q8])), (q7, .inr (2, [.ref q9])), (q9, .inl (E.2.1, 81, .inl z13)), (q8, .inr (2, [.ref q11])), (q11, .inl (E.2.1, 81, .inl z14))]) mf_X2_exchanged tw_1095 tw_1096 ⟨Nat.le_of_ble_eq_true rfl, Nat.le_of_ble_eq_true rfl⟩ (dX2_exchange 19 rfl) 36 rfl (kX2_exchanged hs i5 i2 i3) rfl [] [0, 1, 2, 3, 4] rfl rfl rfl rfl (by decide) rfl (Nat.le_of_ble_eq_true rfl) 0 0 (show 0 + 0 ≤ 0 from Nat.le_of_ble_eq_true rfl) (show 0 + 0 ≤ 0 from Nat.le_of_ble_eq_true rfl) (fun z15 v w hz => ?_)
  obtain ⟨rfl, rfl⟩ := hz
  show V E K mX2_exchange (Qm E K mX2_exchange (zX2_exchange E q1 q7 q8 q9 q11 i4)) 0 0 [(q1, .inr (1, [.int i4, .int i5, .int i6, .ref q7, .ref q8])), (q7, .inr (2, [.ref q9])), (q9, .inl (E.2.1, 81, .inl z13)), (q8, .inr (2, [.ref q11])), (q11, .inl (E.2.1, 81, .inl z14))] 36 [(0, .ref q1), (1, .int i2), (2, .int i3)] [.int z15, .ref q1] _
  refine V_put pf_N_23 0 rfl rfl rfl (Nat.le_of_ble_eq_true rfl) (dX2_exchange 20 rfl) 39 rfl [(q1, .inr (1, [.int i4, .int z15, .int i6, .ref q7, .ref q8])), (q7, .inr (2, [.ref q9])), (q9, .inl (E.2.1, 81, .inl z13)), (q8, .inr (2, [.ref q11])), (q11, .inl (E.2.1, 81, .inl z14))] rfl ?_
  refine V_aload_n (dX2_exchange 21 rfl) 40 rfl 0 rfl ?_
  refine V_aload_n (dX2_exchange 22 rfl) 41 rfl 0 rfl ?_
  refine V_get gf_N_26 0 rfl rfl (dX2_exchange 23 rfl) 44 rfl ?_
  refine V_iload_n (dX2_exchange 24 rfl) 45 rfl 1 rfl ?_
  refine V_iload_n (dX2_exchange 25 rfl) 46 rfl 2 rfl ?_
  refine V_callS (M := mX2_exchange) (wcs := []) (wr := [(q1, .inr (1, [.int i4, .int z15, .int i6, .ref q7, .ref q8])), (q7, .inr (2, [.ref q9])), (q9, .inl (E.2.1, 81, .inl z13)), (q8, .inr (2, [.ref q11])), (q11, .inl (E.2.1, 81, .inl z14))]) mf_X2_exchanged tw_1095 tw_1096 ⟨Nat.le_of_ble_eq_true rfl, Nat.le_of_ble_eq_true rfl⟩ (dX2_exchange 26 rfl) 49 rfl (kX2_exchanged hs i6 i2 i3) rfl [] [0, 1, 2, 3, 4] rfl rfl rfl rfl (by decide) rfl (Nat.le_of_ble_eq_true rfl) 0 0 (show 0 + 0 ≤ 0 from Nat.le_of_ble_eq_true rfl) (show 0 + 0 ≤ 0 from Nat.le_of_ble_eq_true rfl) (fun z16 v w hz => ?_)
  obtain ⟨rfl, rfl⟩ := hz
  show V E K mX2_exchange (Qm E K mX2_exchange (zX2_exchange E q1 q7 q8 q9 q11 i4)) 0 0 [(q1, .inr (1, [.int i4, .int z15, .int i6, .ref q7, .ref q8])), (q7, .inr (2, [.ref q9])), (q9, .inl (E.2.1, 81, .inl z13)), (q8, .inr (2, [.ref q11])), (q11, .inl (E.2.1, 81, .inl z14))] 49 [(0, .ref q1), (1, .int i2), (2, .int i3)] [.int z16, .ref q1] _
  refine V_put pf_N_26 0 rfl rfl rfl (Nat.le_of_ble_eq_true rfl) (dX2_exchange 27 rfl) 52 rfl [(q1, .inr (1, [.int i4, .int z15, .int z16, .ref q7, .ref q8])), (q7, .inr (2, [.ref q9])), (q9, .inl (E.2.1, 81, .inl z13)), (q8, .inr (2, [.ref q11])), (q11, .inl (E.2.1, 81, .inl z14))] rfl ?_
  exact V_vret rfl (dX2_exchange 28 rfl) ⟨rfl, rfl⟩)
set_option maxRecDepth 20000 in
theorem vBX2_narrowToOne_L12 {E : EX} {K : KX} (hs : K.l.stackTraces = false) (q1 q5 q7 : Nat) (i2 i3 i4 : Int32) (v6 : Value) (i33 : Int32) (bc bs : Nat) (i46 : Int32) (f47 : Nat → Int32) {rec : Int32 → (Nat → Int32) → Option ((Nat → Int32))} {k1 : (Nat → Int32) → Option ((Nat → Int32))} (hrec : ∀ (i46 : Int32) (f47 : Nat → Int32), V E K mX2_narrowToOne (Qm E K mX2_narrowToOne (zX2_narrowToOne E q1 q5 q7 i2 i3 i4 v6)) (bc) (bs) [(q1, .inr (1, [.int i2, .int i3, .int i4, .ref q5, v6])), (q5, .inr (2, [.ref q7])), (q7, .inl (E.2.1, 81, .inl f47))] 12 [(0, .ref q1), (1, .int i33), (2, .int i46)] [] (rec i46 f47)) (hk1 : ∀ (f50 : Nat → Int32), V E K mX2_narrowToOne (Qm E K mX2_narrowToOne (zX2_narrowToOne E q1 q5 q7 i2 i3 i4 v6)) (bc) (bs) [(q1, .inr (1, [.int i2, .int i3, .int i4, .ref q5, v6])), (q5, .inr (2, [.ref q7])), (q7, .inl (E.2.1, 81, .inl f50))] 48 [(0, .ref q1), (1, .int i33)] [] (k1 f50)) : V E K mX2_narrowToOne (Qm E K mX2_narrowToOne (zX2_narrowToOne E q1 q5 q7 i2 i3 i4 v6)) (bc) (bs) [(q1, .inr (1, [.int i2, .int i3, .int i4, .ref q5, v6])), (q5, .inr (2, [.ref q7])), (q7, .inl (E.2.1, 81, .inl f47))] 12 [(0, .ref q1), (1, .int i33), (2, .int i46)] [] (BX2_narrowToOne_L12  i2 i33 i46 f47 rec k1) := by
  unfold BX2_narrowToOne_L12
  refine V_iload_n (dX2_narrowToOne 8 rfl) 13 rfl 2 rfl ?_
  refine V_aload_n (dX2_narrowToOne 9 rfl) 14 rfl 0 rfl ?_
  refine V_get gf_N_19 0 rfl rfl (dX2_narrowToOne 10 rfl) 17 rfl ?_
  refine V_icmp_ge (dX2_narrowToOne 11 rfl) 48 (by decide) 20 rfl ?_ ?_
  · refine V_pick [0, 1] [(0, .ref q1), (1, .int i33)] rfl ?_
    exact hk1 f47
  · refine V_aload_n (dX2_narrowToOne 12 rfl) 21 rfl 0 rfl ?_
    refine V_get gf_N_10 0 rfl rfl (dX2_narrowToOne 13 rfl) 24 rfl ?_
    refine V_iload_n (dX2_narrowToOne 14 rfl) 25 rfl 1 rfl ?_
    refine V_iload_n (dX2_narrowToOne 15 rfl) 26 rfl 2 rfl ?_
    refine V_iconst (1 : Int32) (by decide) (dX2_narrowToOne 16 rfl) 27 rfl ?_
    refine V_aload_n (dX2_narrowToOne 17 rfl) 28 rfl 0 rfl ?_
    refine V_get gf_N_10 0 rfl rfl (dX2_narrowToOne 18 rfl) 31 rfl ?_
    refine V_iload_n (dX2_narrowToOne 19 rfl) 32 rfl 1 rfl ?_
    refine V_iload_n (dX2_narrowToOne 20 rfl) 33 rfl 2 rfl ?_
    refine V_callV (M := mX2_narrowToOne) (wcs := [(q5, .inr (2, [.ref q7])), (q7, .inl (E.2.1, 81, .inl f47))]) (wr := [(q1, .inr (1, [.int i2, .int i3, .int i4, .ref q5, v6]))]) mf_X1_at tw_369 tw_290 tw_291 ⟨Nat.le_of_ble_eq_true rfl, Nat.le_of_ble_eq_true rfl⟩ (dX2_narrowToOne 21 rfl) 36 rfl (kX1_at hs q5 q7 f47 i33 i46) rfl [1, 2] [0] (q0 := 0) rfl rfl rfl rfl (by decide) rfl rfl rfl rfl (Nat.le_of_ble_eq_true rfl) (bc) (bs) (show (bc) + 0 ≤ (bc) by omega) (show (bs) + 0 ≤ (bs) by omega) (fun z48 v w hz => ?_)
    obtain ⟨rfl, rfl⟩ := hz
    show V E K mX2_narrowToOne (Qm E K mX2_narrowToOne (zX2_narrowToOne E q1 q5 q7 i2 i3 i4 v6)) (bc) (bs) [(q1, .inr (1, [.int i2, .int i3, .int i4, .ref q5, v6])), (q5, .inr (2, [.ref q7])), (q7, .inl (E.2.1, 81, .inl f47))] 36 [(0, .ref q1), (1, .int i33), (2, .int i46)] [.int z48, .int (1 : Int32), .int i46, .int i33, .ref q5] _
    refine V_mmin tw_998 tw_341 tw_82 tw_342 (Nat.le_of_ble_eq_true rfl) (Nat.le_of_ble_eq_true rfl) (dX2_narrowToOne 22 rfl) 39 rfl ?_
    refine V_callV (M := mX2_narrowToOne) (wcs := [(q5, .inr (2, [.ref q7])), (q7, .inl (E.2.1, 81, .inl f47))]) (wr := [(q1, .inr (1, [.int i2, .int i3, .int i4, .ref q5, v6]))]) mf_X1_put tw_370 tw_294 tw_295 ⟨Nat.le_of_ble_eq_true rfl, Nat.le_of_ble_eq_true rfl⟩ (dX2_narrowToOne 23 rfl) 42 rfl (kX1_put hs q5 q7 f47 i33 i46 (if z48 < (1 : Int32) then z48 else (1 : Int32))) rfl [1, 2] [0] (q0 := 0) rfl rfl rfl rfl (by decide) rfl rfl rfl rfl (Nat.le_of_ble_eq_true rfl) (bc) (bs) (show (bc) + 0 ≤ (bc) by omega) (show (bs) + 0 ≤ (bs) by omega) (fun z49 v w hz => ?_)
    obtain ⟨rfl, rfl⟩ := hz
    show V E K mX2_narrowToOne (Qm E K mX2_narrowToOne (zX2_narrowToOne E q1 q5 q7 i2 i3 i4 v6)) (bc) (bs) [(q1, .inr (1, [.int i2, .int i3, .int i4, .ref q5, v6])), (q5, .inr (2, [.ref q7])), (q7, .inl (E.2.1, 81, .inl z49))] 42 [(0, .ref q1), (1, .int i33), (2, .int i46)] [] _
    refine V_iinc (dX2_narrowToOne 24 rfl) 45 rfl 2 rfl (i46 + (1 : Int32)) rfl [(0, .ref q1), (1, .int i33), (2, .int (i46 + (1 : Int32)))] (Nat.le_of_ble_eq_true rfl) rfl ?_
    refine V_goto (dX2_narrowToOne 25 rfl) 12 (by decide) ?_
    exact hrec (i46 + (1 : Int32)) z49
set_option maxRecDepth 20000 in
theorem vLX2_narrowToOne_L12 {E : EX} {K : KX} (hs : K.l.stackTraces = false) (q1 q5 q7 : Nat) (i2 i3 i4 : Int32) (v6 : Value) (i33 : Int32) (bc bs : Nat) {k1 : (Nat → Int32) → Option ((Nat → Int32))} (hk1 : ∀ (f50 : Nat → Int32), V E K mX2_narrowToOne (Qm E K mX2_narrowToOne (zX2_narrowToOne E q1 q5 q7 i2 i3 i4 v6)) (bc) (bs) [(q1, .inr (1, [.int i2, .int i3, .int i4, .ref q5, v6])), (q5, .inr (2, [.ref q7])), (q7, .inl (E.2.1, 81, .inl f50))] 48 [(0, .ref q1), (1, .int i33)] [] (k1 f50)) : ∀ (n : Nat) (i46 : Int32) (f47 : Nat → Int32), V E K mX2_narrowToOne (Qm E K mX2_narrowToOne (zX2_narrowToOne E q1 q5 q7 i2 i3 i4 v6)) (bc) (bs) [(q1, .inr (1, [.int i2, .int i3, .int i4, .ref q5, v6])), (q5, .inr (2, [.ref q7])), (q7, .inl (E.2.1, 81, .inl f47))] 12 [(0, .ref q1), (1, .int i33), (2, .int i46)] [] (LX2_narrowToOne_L12  i2 i33 n i46 f47 k1)
  | 0, _, _ => V_none
  | n + 1, i46, f47 => vBX2_narrowToOne_L12 hs q1 q5 q7 i2 i3 i4 v6 i33 bc bs i46 f47 (fun i46 f47 => vLX2_narrowToOne_L12 hs q1 q5 q7 i2 i3 i4 v6 i33 bc bs hk1 n i46 f47) hk1
set_option maxRecDepth 20000 in
theorem vBX2_narrowToOne_L2 {E : EX} {K : KX} (hs : K.l.stackTraces = false) (q1 q5 q7 : Nat) (i2 i3 i4 : Int32) (v6 : Value) (bc bs : Nat) (i33 : Int32) (f34 : Nat → Int32) {rec : Int32 → (Nat → Int32) → Option ((Nat → Int32))}  (hrec : ∀ (i33 : Int32) (f34 : Nat → Int32), V E K mX2_narrowToOne (Qm E K mX2_narrowToOne (zX2_narrowToOne E q1 q5 q7 i2 i3 i4 v6)) (bc) (bs) [(q1, .inr (1, [.int i2, .int i3, .int i4, .ref q5, v6])), (q5, .inr (2, [.ref q7])), (q7, .inl (E.2.1, 81, .inl f34))] 2 [(0, .ref q1), (1, .int i33)] [] (rec i33 f34))  : V E K mX2_narrowToOne (Qm E K mX2_narrowToOne (zX2_narrowToOne E q1 q5 q7 i2 i3 i4 v6)) (bc) (bs) [(q1, .inr (1, [.int i2, .int i3, .int i4, .ref q5, v6])), (q5, .inr (2, [.ref q7])), (q7, .inl (E.2.1, 81, .inl f34))] 2 [(0, .ref q1), (1, .int i33)] [] (BX2_narrowToOne_L2  i2 i33 f34 rec ) := by
  unfold BX2_narrowToOne_L2
  refine V_iload_n (dX2_narrowToOne 2 rfl) 3 rfl 1 rfl ?_
  refine V_aload_n (dX2_narrowToOne 3 rfl) 4 rfl 0 rfl ?_
  refine V_get gf_N_19 0 rfl rfl (dX2_narrowToOne 4 rfl) 7 rfl ?_
  refine V_icmp_ge (dX2_narrowToOne 5 rfl) 54 (by decide) 10 rfl ?_ ?_
  · exact V_vret rfl (dX2_narrowToOne 28 rfl) ⟨rfl, rfl⟩
  · refine V_iconst (0 : Int32) (by decide) (dX2_narrowToOne 6 rfl) 11 rfl ?_
    refine V_istore_n (dX2_narrowToOne 7 rfl) 12 rfl [(0, .ref q1), (1, .int i33), (2, .int (0 : Int32))] (Nat.le_of_ble_eq_true rfl) rfl ?_
    refine vLX2_narrowToOne_L12 hs q1 q5 q7 i2 i3 i4 v6 i33 (bc) (bs) ?_ 12 (0 : Int32) f34
    intro f50
    show V E K mX2_narrowToOne (Qm E K mX2_narrowToOne (zX2_narrowToOne E q1 q5 q7 i2 i3 i4 v6)) (bc) (bs) [(q1, .inr (1, [.int i2, .int i3, .int i4, .ref q5, v6])), (q5, .inr (2, [.ref q7])), (q7, .inl (E.2.1, 81, .inl f50))] 48 [(0, .ref q1), (1, .int i33)] [] _
    refine V_iinc (dX2_narrowToOne 26 rfl) 51 rfl 1 rfl (i33 + (1 : Int32)) rfl [(0, .ref q1), (1, .int (i33 + (1 : Int32)))] (Nat.le_of_ble_eq_true rfl) rfl ?_
    refine V_goto (dX2_narrowToOne 27 rfl) 2 (by decide) ?_
    exact hrec (i33 + (1 : Int32)) f50
set_option maxRecDepth 20000 in
theorem vLX2_narrowToOne_L2 {E : EX} {K : KX} (hs : K.l.stackTraces = false) (q1 q5 q7 : Nat) (i2 i3 i4 : Int32) (v6 : Value) (bc bs : Nat)   : ∀ (n : Nat) (i33 : Int32) (f34 : Nat → Int32), V E K mX2_narrowToOne (Qm E K mX2_narrowToOne (zX2_narrowToOne E q1 q5 q7 i2 i3 i4 v6)) (bc) (bs) [(q1, .inr (1, [.int i2, .int i3, .int i4, .ref q5, v6])), (q5, .inr (2, [.ref q7])), (q7, .inl (E.2.1, 81, .inl f34))] 2 [(0, .ref q1), (1, .int i33)] [] (LX2_narrowToOne_L2  i2 n i33 f34 )
  | 0, _, _ => V_none
  | n + 1, i33, f34 => vBX2_narrowToOne_L2 hs q1 q5 q7 i2 i3 i4 v6 bc bs i33 f34 (fun i33 f34 => vLX2_narrowToOne_L2 hs q1 q5 q7 i2 i3 i4 v6 bc bs  n i33 f34) 
set_option maxRecDepth 20000 in
theorem kX2_narrowToOne {E : EX} {l : Launch} (hl : l.stackTraces = false) (q1 q5 q7 : Nat) (i2 i3 i4 : Int32) (v6 : Value) (f8 : Nat → Int32) : Ct E l mX2_narrowToOne [.ref q1] [(q1, .inr (1, [.int i2, .int i3, .int i4, .ref q5, v6])), (q5, .inr (2, [.ref q7])), (q7, .inl (E.2.1, 81, .inl f8))] (fX2_narrowToOne i2 f8) (zX2_narrowToOne E q1 q5 q7 i2 i3 i4 v6) := Ct_of hl mf_X2_narrowToOne.1 (Nat.le_of_ble_eq_true rfl) (fun K hs => by
  refine V_less 0 0 (Nat.le_refl _) (Nat.le_refl _) ?_
  refine V_pick [0] [(0, .ref q1)] rfl ?_
  unfold fX2_narrowToOne
  refine V_iconst (0 : Int32) (by decide) (dX2_narrowToOne 0 rfl) 1 rfl ?_
  refine V_istore_n (dX2_narrowToOne 1 rfl) 2 rfl [(0, .ref q1), (1, .int (0 : Int32))] (Nat.le_of_ble_eq_true rfl) rfl ?_
  refine vLX2_narrowToOne_L2 hs q1 q5 q7 i2 i3 i4 v6 0 0  12 (0 : Int32) f8)
set_option maxRecDepth 20000 in
theorem vBX2_isFlowLet_L12 {E : EX} {K : KX} (hs : K.l.stackTraces = false) (q1 q5 q6 q7 q9 : Nat) (i2 i3 i4 : Int32) (f8 f10 : Nat → Int32) (i39 : Int32) (bc bs : Nat) (i54 : Int32) {rec : Int32 → Option (Int32)} {k1 : Unit → Option (Int32)} (hrec : ∀ (i54 : Int32), V E K mX2_isFlowLet (Qm E K mX2_isFlowLet (zX2_isFlowLet E q1 q5 q6 q7 q9 i2 i3 i4 f8 f10)) (bc) (bs) [(q1, .inr (1, [.int i2, .int i3, .int i4, .ref q5, .ref q6])), (q5, .inr (2, [.ref q7])), (q7, .inl (E.2.1, 81, .inl f8)), (q6, .inr (2, [.ref q9])), (q9, .inl (E.2.1, 81, .inl f10))] 12 [(0, .ref q1), (1, .int i39), (2, .int i54)] [] (rec i54)) (hk1 : ∀ (_ : Unit), V E K mX2_isFlowLet (Qm E K mX2_isFlowLet (zX2_isFlowLet E q1 q5 q6 q7 q9 i2 i3 i4 f8 f10)) (bc) (bs) [(q1, .inr (1, [.int i2, .int i3, .int i4, .ref q5, .ref q6])), (q5, .inr (2, [.ref q7])), (q7, .inl (E.2.1, 81, .inl f8)), (q6, .inr (2, [.ref q9])), (q9, .inl (E.2.1, 81, .inl f10))] 59 [(0, .ref q1), (1, .int i39)] [] (k1 ())) : V E K mX2_isFlowLet (Qm E K mX2_isFlowLet (zX2_isFlowLet E q1 q5 q6 q7 q9 i2 i3 i4 f8 f10)) (bc) (bs) [(q1, .inr (1, [.int i2, .int i3, .int i4, .ref q5, .ref q6])), (q5, .inr (2, [.ref q7])), (q7, .inl (E.2.1, 81, .inl f8)), (q6, .inr (2, [.ref q9])), (q9, .inl (E.2.1, 81, .inl f10))] 12 [(0, .ref q1), (1, .int i39), (2, .int i54)] [] (BX2_isFlowLet_L12  i2 f8 f10 i39 i54 rec k1) := by
  unfold BX2_isFlowLet_L12
  refine V_iload_n (dX2_isFlowLet 8 rfl) 13 rfl 2 rfl ?_
  refine V_aload_n (dX2_isFlowLet 9 rfl) 14 rfl 0 rfl ?_
  refine V_get gf_N_19 0 rfl rfl (dX2_isFlowLet 10 rfl) 17 rfl ?_
  refine V_icmp_ge (dX2_isFlowLet 11 rfl) 59 (by decide) 20 rfl ?_ ?_
  · refine V_pick [0, 1] [(0, .ref q1), (1, .int i39)] rfl ?_
    exact hk1 ()
  · refine V_aload_n (dX2_isFlowLet 12 rfl) 21 rfl 0 rfl ?_
    refine V_iload_n (dX2_isFlowLet 13 rfl) 22 rfl 1 rfl ?_
    refine V_iload_n (dX2_isFlowLet 14 rfl) 23 rfl 2 rfl ?_
    refine V_callV (M := mX2_isFlowLet) (wcs := [(q1, .inr (1, [.int i2, .int i3, .int i4, .ref q5, .ref q6])), (q5, .inr (2, [.ref q7])), (q7, .inl (E.2.1, 81, .inl f8)), (q6, .inr (2, [.ref q9])), (q9, .inl (E.2.1, 81, .inl f10))]) (wr := []) mf_X2_leftOf tw_896 tw_557 tw_558 ⟨Nat.le_of_ble_eq_true rfl, Nat.le_of_ble_eq_true rfl⟩ (dX2_isFlowLet 15 rfl) 26 rfl (kX2_leftOf hs q1 q5 q6 q7 q9 i2 i3 i4 f8 f10 i39 i54) rfl [0, 1, 2, 3, 4] [] (q0 := 0) rfl rfl rfl rfl (by decide) rfl rfl rfl rfl (Nat.le_of_ble_eq_true rfl) (bc) (bs) (show (bc) + 0 ≤ (bc) by omega) (show (bs) + 0 ≤ (bs) by omega) (fun z55 v w hz => ?_)
    obtain ⟨rfl, rfl⟩ := hz
    show V E K mX2_isFlowLet (Qm E K mX2_isFlowLet (zX2_isFlowLet E q1 q5 q6 q7 q9 i2 i3 i4 f8 f10)) (bc) (bs) [(q1, .inr (1, [.int i2, .int i3, .int i4, .ref q5, .ref q6])), (q5, .inr (2, [.ref q7])), (q7, .inl (E.2.1, 81, .inl f8)), (q6, .inr (2, [.ref q9])), (q9, .inl (E.2.1, 81, .inl f10))] 26 [(0, .ref q1), (1, .int i39), (2, .int i54)] [.int z55] _
    refine V_if_lt (dX2_isFlowLet 16 rfl) 51 (by decide) 29 rfl ?_ ?_
    · refine V_iconst (0 : Int32) (by decide) (dX2_isFlowLet 29 rfl) 52 rfl ?_
      exact V_zret rfl (by decide) (dX2_isFlowLet 30 rfl) ⟨rfl, rfl⟩
    · refine V_aload_n (dX2_isFlowLet 17 rfl) 30 rfl 0 rfl ?_
      refine V_get gf_N_16 0 rfl rfl (dX2_isFlowLet 18 rfl) 33 rfl ?_
      refine V_iload_n (dX2_isFlowLet 19 rfl) 34 rfl 1 rfl ?_
      refine V_iload_n (dX2_isFlowLet 20 rfl) 35 rfl 2 rfl ?_
      refine V_callV (M := mX2_isFlowLet) (wcs := [(q6, .inr (2, [.ref q9])), (q9, .inl (E.2.1, 81, .inl f10))]) (wr := [(q1, .inr (1, [.int i2, .int i3, .int i4, .ref q5, .ref q6])), (q5, .inr (2, [.ref q7])), (q7, .inl (E.2.1, 81, .inl f8))]) mf_X1_at tw_369 tw_290 tw_291 ⟨Nat.le_of_ble_eq_true rfl, Nat.le_of_ble_eq_true rfl⟩ (dX2_isFlowLet 21 rfl) 38 rfl (kX1_at hs q6 q9 f10 i39 i54) rfl [3, 4] [0, 1, 2] (q0 := 0) rfl rfl rfl rfl (by decide) rfl rfl rfl rfl (Nat.le_of_ble_eq_true rfl) (bc) (bs) (show (bc) + 0 ≤ (bc) by omega) (show (bs) + 0 ≤ (bs) by omega) (fun z56 v w hz => ?_)
      obtain ⟨rfl, rfl⟩ := hz
      show V E K mX2_isFlowLet (Qm E K mX2_isFlowLet (zX2_isFlowLet E q1 q5 q6 q7 q9 i2 i3 i4 f8 f10)) (bc) (bs) [(q1, .inr (1, [.int i2, .int i3, .int i4, .ref q5, .ref q6])), (q5, .inr (2, [.ref q7])), (q7, .inl (E.2.1, 81, .inl f8)), (q6, .inr (2, [.ref q9])), (q9, .inl (E.2.1, 81, .inl f10))] 38 [(0, .ref q1), (1, .int i39), (2, .int i54)] [.int z56] _
      refine V_aload_n (dX2_isFlowLet 22 rfl) 39 rfl 0 rfl ?_
      refine V_get gf_N_16 0 rfl rfl (dX2_isFlowLet 23 rfl) 42 rfl ?_
      refine V_iload_n (dX2_isFlowLet 24 rfl) 43 rfl 2 rfl ?_
      refine V_iload_n (dX2_isFlowLet 25 rfl) 44 rfl 1 rfl ?_
      refine V_callV (M := mX2_isFlowLet) (wcs := [(q6, .inr (2, [.ref q9])), (q9, .inl (E.2.1, 81, .inl f10))]) (wr := [(q1, .inr (1, [.int i2, .int i3, .int i4, .ref q5, .ref q6])), (q5, .inr (2, [.ref q7])), (q7, .inl (E.2.1, 81, .inl f8))]) mf_X1_at tw_369 tw_290 tw_291 ⟨Nat.le_of_ble_eq_true rfl, Nat.le_of_ble_eq_true rfl⟩ (dX2_isFlowLet 26 rfl) 47 rfl (kX1_at hs q6 q9 f10 i54 i39) rfl [3, 4] [0, 1, 2] (q0 := 0) rfl rfl rfl rfl (by decide) rfl rfl rfl rfl (Nat.le_of_ble_eq_true rfl) (bc) (bs) (show (bc) + 0 ≤ (bc) by omega) (show (bs) + 0 ≤ (bs) by omega) (fun z57 v w hz => ?_)
      obtain ⟨rfl, rfl⟩ := hz
      show V E K mX2_isFlowLet (Qm E K mX2_isFlowLet (zX2_isFlowLet E q1 q5 q6 q7 q9 i2 i3 i4 f8 f10)) (bc) (bs) [(q1, .inr (1, [.int i2, .int i3, .int i4, .ref q5, .ref q6])), (q5, .inr (2, [.ref q7])), (q7, .inl (E.2.1, 81, .inl f8)), (q6, .inr (2, [.ref q9])), (q9, .inl (E.2.1, 81, .inl f10))] 47 [(0, .ref q1), (1, .int i39), (2, .int i54)] [.int z57, .int z56] _
      refine V_ineg (dX2_isFlowLet 27 rfl) 48 rfl ?_
      refine V_icmp_eq (dX2_isFlowLet 28 rfl) 53 (by decide) 51 rfl ?_ ?_
      · refine V_iinc (dX2_isFlowLet 31 rfl) 56 rfl 2 rfl (i54 + (1 : Int32)) rfl [(0, .ref q1), (1, .int i39), (2, .int (i54 + (1 : Int32)))] (Nat.le_of_ble_eq_true rfl) rfl ?_
        refine V_goto (dX2_isFlowLet 32 rfl) 12 (by decide) ?_
        exact hrec (i54 + (1 : Int32))
      · refine V_iconst (0 : Int32) (by decide) (dX2_isFlowLet 29 rfl) 52 rfl ?_
        exact V_zret rfl (by decide) (dX2_isFlowLet 30 rfl) ⟨rfl, rfl⟩
set_option maxRecDepth 20000 in
theorem vLX2_isFlowLet_L12 {E : EX} {K : KX} (hs : K.l.stackTraces = false) (q1 q5 q6 q7 q9 : Nat) (i2 i3 i4 : Int32) (f8 f10 : Nat → Int32) (i39 : Int32) (bc bs : Nat) {k1 : Unit → Option (Int32)} (hk1 : ∀ (_ : Unit), V E K mX2_isFlowLet (Qm E K mX2_isFlowLet (zX2_isFlowLet E q1 q5 q6 q7 q9 i2 i3 i4 f8 f10)) (bc) (bs) [(q1, .inr (1, [.int i2, .int i3, .int i4, .ref q5, .ref q6])), (q5, .inr (2, [.ref q7])), (q7, .inl (E.2.1, 81, .inl f8)), (q6, .inr (2, [.ref q9])), (q9, .inl (E.2.1, 81, .inl f10))] 59 [(0, .ref q1), (1, .int i39)] [] (k1 ())) : ∀ (n : Nat) (i54 : Int32), V E K mX2_isFlowLet (Qm E K mX2_isFlowLet (zX2_isFlowLet E q1 q5 q6 q7 q9 i2 i3 i4 f8 f10)) (bc) (bs) [(q1, .inr (1, [.int i2, .int i3, .int i4, .ref q5, .ref q6])), (q5, .inr (2, [.ref q7])), (q7, .inl (E.2.1, 81, .inl f8)), (q6, .inr (2, [.ref q9])), (q9, .inl (E.2.1, 81, .inl f10))] 12 [(0, .ref q1), (1, .int i39), (2, .int i54)] [] (LX2_isFlowLet_L12  i2 f8 f10 i39 n i54 k1)
  | 0, _ => V_none
  | n + 1, i54 => vBX2_isFlowLet_L12 hs q1 q5 q6 q7 q9 i2 i3 i4 f8 f10 i39 bc bs i54 (fun i54 => vLX2_isFlowLet_L12 hs q1 q5 q6 q7 q9 i2 i3 i4 f8 f10 i39 bc bs hk1 n i54) hk1
set_option maxRecDepth 20000 in
theorem vBX2_isFlowLet_L2 {E : EX} {K : KX} (hs : K.l.stackTraces = false) (q1 q5 q6 q7 q9 : Nat) (i2 i3 i4 : Int32) (f8 f10 : Nat → Int32) (bc bs : Nat) (i39 : Int32) {rec : Int32 → Option (Int32)}  (hrec : ∀ (i39 : Int32), V E K mX2_isFlowLet (Qm E K mX2_isFlowLet (zX2_isFlowLet E q1 q5 q6 q7 q9 i2 i3 i4 f8 f10)) (bc) (bs) [(q1, .inr (1, [.int i2, .int i3, .int i4, .ref q5, .ref q6])), (q5, .inr (2, [.ref q7])), (q7, .inl (E.2.1, 81, .inl f8)), (q6, .inr (2, [.ref q9])), (q9, .inl (E.2.1, 81, .inl f10))] 2 [(0, .ref q1), (1, .int i39)] [] (rec i39))  : V E K mX2_isFlowLet (Qm E K mX2_isFlowLet (zX2_isFlowLet E q1 q5 q6 q7 q9 i2 i3 i4 f8 f10)) (bc) (bs) [(q1, .inr (1, [.int i2, .int i3, .int i4, .ref q5, .ref q6])), (q5, .inr (2, [.ref q7])), (q7, .inl (E.2.1, 81, .inl f8)), (q6, .inr (2, [.ref q9])), (q9, .inl (E.2.1, 81, .inl f10))] 2 [(0, .ref q1), (1, .int i39)] [] (BX2_isFlowLet_L2  i2 f8 f10 i39 rec ) := by
  unfold BX2_isFlowLet_L2
  refine V_iload_n (dX2_isFlowLet 2 rfl) 3 rfl 1 rfl ?_
  refine V_aload_n (dX2_isFlowLet 3 rfl) 4 rfl 0 rfl ?_
  refine V_get gf_N_19 0 rfl rfl (dX2_isFlowLet 4 rfl) 7 rfl ?_
  refine V_icmp_ge (dX2_isFlowLet 5 rfl) 65 (by decide) 10 rfl ?_ ?_
  · refine V_iconst (1 : Int32) (by decide) (dX2_isFlowLet 35 rfl) 66 rfl ?_
    exact V_zret rfl (by decide) (dX2_isFlowLet 36 rfl) ⟨rfl, rfl⟩
  · refine V_iconst (0 : Int32) (by decide) (dX2_isFlowLet 6 rfl) 11 rfl ?_
    refine V_istore_n (dX2_isFlowLet 7 rfl) 12 rfl [(0, .ref q1), (1, .int i39), (2, .int (0 : Int32))] (Nat.le_of_ble_eq_true rfl) rfl ?_
    refine vLX2_isFlowLet_L12 hs q1 q5 q6 q7 q9 i2 i3 i4 f8 f10 i39 (bc) (bs) ?_ 12 (0 : Int32)
    intro _
    show V E K mX2_isFlowLet (Qm E K mX2_isFlowLet (zX2_isFlowLet E q1 q5 q6 q7 q9 i2 i3 i4 f8 f10)) (bc) (bs) [(q1, .inr (1, [.int i2, .int i3, .int i4, .ref q5, .ref q6])), (q5, .inr (2, [.ref q7])), (q7, .inl (E.2.1, 81, .inl f8)), (q6, .inr (2, [.ref q9])), (q9, .inl (E.2.1, 81, .inl f10))] 59 [(0, .ref q1), (1, .int i39)] [] _
    refine V_iinc (dX2_isFlowLet 33 rfl) 62 rfl 1 rfl (i39 + (1 : Int32)) rfl [(0, .ref q1), (1, .int (i39 + (1 : Int32)))] (Nat.le_of_ble_eq_true rfl) rfl ?_
    refine V_goto (dX2_isFlowLet 34 rfl) 2 (by decide) ?_
    exact hrec (i39 + (1 : Int32))
set_option maxRecDepth 20000 in
theorem vLX2_isFlowLet_L2 {E : EX} {K : KX} (hs : K.l.stackTraces = false) (q1 q5 q6 q7 q9 : Nat) (i2 i3 i4 : Int32) (f8 f10 : Nat → Int32) (bc bs : Nat)   : ∀ (n : Nat) (i39 : Int32), V E K mX2_isFlowLet (Qm E K mX2_isFlowLet (zX2_isFlowLet E q1 q5 q6 q7 q9 i2 i3 i4 f8 f10)) (bc) (bs) [(q1, .inr (1, [.int i2, .int i3, .int i4, .ref q5, .ref q6])), (q5, .inr (2, [.ref q7])), (q7, .inl (E.2.1, 81, .inl f8)), (q6, .inr (2, [.ref q9])), (q9, .inl (E.2.1, 81, .inl f10))] 2 [(0, .ref q1), (1, .int i39)] [] (LX2_isFlowLet_L2  i2 f8 f10 n i39 )
  | 0, _ => V_none
  | n + 1, i39 => vBX2_isFlowLet_L2 hs q1 q5 q6 q7 q9 i2 i3 i4 f8 f10 bc bs i39 (fun i39 => vLX2_isFlowLet_L2 hs q1 q5 q6 q7 q9 i2 i3 i4 f8 f10 bc bs  n i39) 
set_option maxRecDepth 20000 in
theorem kX2_isFlowLet {E : EX} {l : Launch} (hl : l.stackTraces = false) (q1 q5 q6 q7 q9 : Nat) (i2 i3 i4 : Int32) (f8 f10 : Nat → Int32) : Ct E l mX2_isFlowLet [.ref q1] [(q1, .inr (1, [.int i2, .int i3, .int i4, .ref q5, .ref q6])), (q5, .inr (2, [.ref q7])), (q7, .inl (E.2.1, 81, .inl f8)), (q6, .inr (2, [.ref q9])), (q9, .inl (E.2.1, 81, .inl f10))] (fX2_isFlowLet i2 f8 f10) (zX2_isFlowLet E q1 q5 q6 q7 q9 i2 i3 i4 f8 f10) := Ct_of hl mf_X2_isFlowLet.1 (Nat.le_of_ble_eq_true rfl) (fun K hs => by
  refine V_less 0 0 (Nat.le_refl _) (Nat.le_refl _) ?_
  refine V_pick [0] [(0, .ref q1)] rfl ?_
  unfold fX2_isFlowLet
  refine V_iconst (0 : Int32) (by decide) (dX2_isFlowLet 0 rfl) 1 rfl ?_
  refine V_istore_n (dX2_isFlowLet 1 rfl) 2 rfl [(0, .ref q1), (1, .int (0 : Int32))] (Nat.le_of_ble_eq_true rfl) rfl ?_
  refine vLX2_isFlowLet_L2 hs q1 q5 q6 q7 q9 i2 i3 i4 f8 f10 0 0  12 (0 : Int32))
set_option maxRecDepth 20000 in
theorem vBX2_isKept_L2 {E : EX} {K : KX} (hs : K.l.stackTraces = false) (q1 q6 q7 : Nat) (i2 i3 i4 : Int32) (v5 : Value) (f8 : Nat → Int32) (bc bs : Nat) (i20 : Int32) {rec : Int32 → Option (Int32)}  (hrec : ∀ (i20 : Int32), V E K mX2_isKept (Qm E K mX2_isKept (zX2_isKept E q1 q6 q7 i2 i3 i4 v5 f8)) (bc) (bs) [(q1, .inr (1, [.int i2, .int i3, .int i4, v5, .ref q6])), (q6, .inr (2, [.ref q7])), (q7, .inl (E.2.1, 81, .inl f8))] 2 [(0, .ref q1), (1, .int i20)] [] (rec i20))  : V E K mX2_isKept (Qm E K mX2_isKept (zX2_isKept E q1 q6 q7 i2 i3 i4 v5 f8)) (bc) (bs) [(q1, .inr (1, [.int i2, .int i3, .int i4, v5, .ref q6])), (q6, .inr (2, [.ref q7])), (q7, .inl (E.2.1, 81, .inl f8))] 2 [(0, .ref q1), (1, .int i20)] [] (BX2_isKept_L2  i2 i3 i4 f8 i20 rec ) := by
  unfold BX2_isKept_L2
  refine V_iload_n (dX2_isKept 2 rfl) 3 rfl 1 rfl ?_
  refine V_aload_n (dX2_isKept 3 rfl) 4 rfl 0 rfl ?_
  refine V_get gf_N_19 0 rfl rfl (dX2_isKept 4 rfl) 7 rfl ?_
  refine V_icmp_ge (dX2_isKept 5 rfl) 49 (by decide) 10 rfl ?_ ?_
  · refine V_iconst (1 : Int32) (by decide) (dX2_isKept 25 rfl) 50 rfl ?_
    exact V_zret rfl (by decide) (dX2_isKept 26 rfl) ⟨rfl, rfl⟩
  · refine V_iload_n (dX2_isKept 6 rfl) 11 rfl 1 rfl ?_
    refine V_aload_n (dX2_isKept 7 rfl) 12 rfl 0 rfl ?_
    refine V_get gf_N_23 0 rfl rfl (dX2_isKept 8 rfl) 15 rfl ?_
    refine V_jn (fun (k21 : Unit → Option (Int32)) => ∀ (_ : Unit), V E K mX2_isKept (Qm E K mX2_isKept (zX2_isKept E q1 q6 q7 i2 i3 i4 v5 f8)) (bc) (bs) [(q1, .inr (1, [.int i2, .int i3, .int i4, v5, .ref q6])), (q6, .inr (2, [.ref q7])), (q7, .inl (E.2.1, 81, .inl f8))] 43 [(0, .ref q1), (1, .int i20)] [] (k21 ())) ?_ ?_
    · intro _
      show V E K mX2_isKept (Qm E K mX2_isKept (zX2_isKept E q1 q6 q7 i2 i3 i4 v5 f8)) (bc) (bs) [(q1, .inr (1, [.int i2, .int i3, .int i4, v5, .ref q6])), (q6, .inr (2, [.ref q7])), (q7, .inl (E.2.1, 81, .inl f8))] 43 [(0, .ref q1), (1, .int i20)] [] _
      refine V_iinc (dX2_isKept 23 rfl) 46 rfl 1 rfl (i20 + (1 : Int32)) rfl [(0, .ref q1), (1, .int (i20 + (1 : Int32)))] (Nat.le_of_ble_eq_true rfl) rfl ?_
      refine V_goto (dX2_isKept 24 rfl) 2 (by decide) ?_
      exact hrec (i20 + (1 : Int32))
    · intro k21 hk22
      refine V_icmp_eq (dX2_isKept 9 rfl) 43 (by decide) 18 rfl ?_ ?_
      · exact hk22 ()
      · refine V_iload_n (dX2_isKept 10 rfl) 19 rfl 1 rfl ?_
        refine V_aload_n (dX2_isKept 11 rfl) 20 rfl 0 rfl ?_
        refine V_get gf_N_26 0 rfl rfl (dX2_isKept 12 rfl) 23 rfl ?_
        refine V_icmp_eq (dX2_isKept 13 rfl) 43 (by decide) 26 rfl ?_ ?_
        · exact hk22 ()
        · refine V_aload_n (dX2_isKept 14 rfl) 27 rfl 0 rfl ?_
          refine V_get gf_N_16 0 rfl rfl (dX2_isKept 15 rfl) 30 rfl ?_
          refine V_iload_n (dX2_isKept 16 rfl) 31 rfl 1 rfl ?_
          refine V_aload_n (dX2_isKept 17 rfl) 32 rfl 0 rfl ?_
          refine V_get gf_N_19 0 rfl rfl (dX2_isKept 18 rfl) 35 rfl ?_
          refine V_callV (M := mX2_isKept) (wcs := [(q6, .inr (2, [.ref q7])), (q7, .inl (E.2.1, 81, .inl f8))]) (wr := [(q1, .inr (1, [.int i2, .int i3, .int i4, v5, .ref q6]))]) mf_X1_sumFrom tw_301 tw_302 tw_303 ⟨Nat.le_of_ble_eq_true rfl, Nat.le_of_ble_eq_true rfl⟩ (dX2_isKept 19 rfl) 38 rfl (kX1_sumFrom hs q6 q7 f8 i20 i2) rfl [1, 2] [0] (q0 := 0) rfl rfl rfl rfl (by decide) rfl rfl rfl rfl (Nat.le_of_ble_eq_true rfl) (bc) (bs) (show (bc) + 0 ≤ (bc) by omega) (show (bs) + 0 ≤ (bs) by omega) (fun z23 v w hz => ?_)
          obtain ⟨rfl, rfl⟩ := hz
          show V E K mX2_isKept (Qm E K mX2_isKept (zX2_isKept E q1 q6 q7 i2 i3 i4 v5 f8)) (bc) (bs) [(q1, .inr (1, [.int i2, .int i3, .int i4, v5, .ref q6])), (q6, .inr (2, [.ref q7])), (q7, .inl (E.2.1, 81, .inl f8))] 38 [(0, .ref q1), (1, .int i20)] [.int z23] _
          refine V_if_eq (dX2_isKept 20 rfl) 43 (by decide) 41 rfl ?_ ?_
          · exact hk22 ()
          · refine V_iconst (0 : Int32) (by decide) (dX2_isKept 21 rfl) 42 rfl ?_
            exact V_zret rfl (by decide) (dX2_isKept 22 rfl) ⟨rfl, rfl⟩
set_option maxRecDepth 20000 in
theorem vLX2_isKept_L2 {E : EX} {K : KX} (hs : K.l.stackTraces = false) (q1 q6 q7 : Nat) (i2 i3 i4 : Int32) (v5 : Value) (f8 : Nat → Int32) (bc bs : Nat)   : ∀ (n : Nat) (i20 : Int32), V E K mX2_isKept (Qm E K mX2_isKept (zX2_isKept E q1 q6 q7 i2 i3 i4 v5 f8)) (bc) (bs) [(q1, .inr (1, [.int i2, .int i3, .int i4, v5, .ref q6])), (q6, .inr (2, [.ref q7])), (q7, .inl (E.2.1, 81, .inl f8))] 2 [(0, .ref q1), (1, .int i20)] [] (LX2_isKept_L2  i2 i3 i4 f8 n i20 )
  | 0, _ => V_none
  | n + 1, i20 => vBX2_isKept_L2 hs q1 q6 q7 i2 i3 i4 v5 f8 bc bs i20 (fun i20 => vLX2_isKept_L2 hs q1 q6 q7 i2 i3 i4 v5 f8 bc bs  n i20) 
set_option maxRecDepth 20000 in
theorem kX2_isKept {E : EX} {l : Launch} (hl : l.stackTraces = false) (q1 q6 q7 : Nat) (i2 i3 i4 : Int32) (v5 : Value) (f8 : Nat → Int32) : Ct E l mX2_isKept [.ref q1] [(q1, .inr (1, [.int i2, .int i3, .int i4, v5, .ref q6])), (q6, .inr (2, [.ref q7])), (q7, .inl (E.2.1, 81, .inl f8))] (fX2_isKept i2 i3 i4 f8) (zX2_isKept E q1 q6 q7 i2 i3 i4 v5 f8) := Ct_of hl mf_X2_isKept.1 (Nat.le_of_ble_eq_true rfl) (fun K hs => by
  refine V_less 0 0 (Nat.le_refl _) (Nat.le_refl _) ?_
  refine V_pick [0] [(0, .ref q1)] rfl ?_
  unfold fX2_isKept
  refine V_iconst (0 : Int32) (by decide) (dX2_isKept 0 rfl) 1 rfl ?_
  refine V_istore_n (dX2_isKept 1 rfl) 2 rfl [(0, .ref q1), (1, .int (0 : Int32))] (Nat.le_of_ble_eq_true rfl) rfl ?_
  refine vLX2_isKept_L2 hs q1 q6 q7 i2 i3 i4 v5 f8 0 0  12 (0 : Int32))
