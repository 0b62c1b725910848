/-! by program: 23.text -/
abbrev mJ5_init_d00df : MX := (yJ5_init_d00df, cJ5_init_d00df, 2, (Option.none : Option FieldType), { frames := 1, cells := 1, slots := 16, locals := 24 })
abbrev zJ5_init_d00df (E : EX) (q1 : Nat) (i4 : Int32) (i5 : Int32) (i2 : Int32) : (Unit) → Option Value → va_W → Prop := fun z v w => ∃ q7 : Nat, v = none ∧ w = [(q1, .inr (6, [.ref q7, .int cZ, .int i4, .int i5])), (q7, .inl (E.2.2.1, i2.toNatClampNeg, .inl (fun _ => 0)))]
abbrev mJ4_init_da8c8 : MX := (yJ4_init_da8c8, cJ4_init_da8c8, 1, (Option.none : Option FieldType), { frames := 2, cells := 1, slots := 16, locals := 45 })
abbrev zJ4_init_da8c8 (E : EX) (q1 : Nat) (i3 : Int32) (i4 : Int32) : (Unit) → Option Value → va_W → Prop := fun z v w => ∃ q7 : Nat, v = none ∧ w = [(q1, .inr (6, [.ref q7, .int cZ, .int i3, .int i4])), (q7, .inl (E.2.2.1, 16, .inl (fun _ => 0)))]
abbrev mJ8_newLength_cabcc : MX := (yJ8_newLength_cabcc, cJ8_newLength_cabcc, 4, (some FieldType.int), { frames := 1, cells := 0, slots := 0, locals := 24 })
abbrev zJ8_newLength_cabcc (E : EX)  : (Int32) → Option Value → va_W → Prop := fun z v w => v = some (.int z) ∧ w = []
abbrev mJ5_newCapacity_0f7a4 : MX := (yJ5_newCapacity_0f7a4, cJ5_newCapacity_0f7a4, 6, (some FieldType.int), { frames := 2, cells := 0, slots := 0, locals := 47 })
abbrev zJ5_newCapacity_0f7a4 (E : EX) (q1 : Nat) (q3 : Nat) (i4 : Int32) (i5 : Int32) (n6 : Nat) (f7 : Nat → Int32) : (Int32) → Option Value → va_W → Prop := fun z v w => v = some (.int z) ∧ w = [(q1, .inr (6, [.ref q3, .int cZ, .int i4, .int i5])), (q3, .inl (E.2.2.1, n6, .inl f7))]
abbrev mJ7_copyOf_9075b (c0 : Nat) : MX := (yJ7_copyOf_9075b, cJ7_copyOf_9075b, 3, (some (FieldType.array FieldType.byte)), { frames := 1, cells := 1, slots := c0, locals := 60 })
abbrev zJ7_copyOf_9075b (E : EX) (q1 : Nat) (n3 : Nat) (f4 : Nat → Int32) (i2 : Int32) : ((Nat → Int32)) → Option Value → va_W → Prop := fun z v w => ∃ q6 : Nat, v = some (.ref q6) ∧ w = [(q1, .inl (E.2.2.1, n3, .inl f4)), (q6, .inl (E.2.2.1, i2.toNatClampNeg, .inl z))]
abbrev mJ5_ensureCapacityInternal_d00df (c0 n6 : Nat) : MX := (yJ5_ensureCapacityInternal_d00df, cJ5_ensureCapacityInternal_d00df, 3, (Option.none : Option FieldType), { frames := 3, cells := ((c0 - n6) / 16), slots := 2 * (c0 - n6), locals := 82 })
abbrev zJ5_ensureCapacityInternal_d00df (E : EX) (q1 : Nat) (i4 : Int32) (i5 : Int32) (c0 : Nat) : ((Nat → Int32)) → Option Value → va_W → Prop := fun z v w => ∃ q12 : Nat, v = none ∧ w = [(q1, .inr (6, [.ref q12, .int cZ, .int i4, .int i5])), (q12, .inl (E.2.2.1, c0, .inl z))]
abbrev mJ5_isLatin1_aae02 : MX := (yJ5_isLatin1_aae02, cJ5_isLatin1_aae02, 1, (some FieldType.boolean), { frames := 0, cells := 0, slots := 0, locals := 0 })
abbrev zJ5_isLatin1_aae02 (E : EX) (q1 : Nat) (v2 : Value) (i3 : Int32) (i4 : Int32) : (Unit) → Option Value → va_W → Prop := fun z v w => v = some (.int (1 : Int32)) ∧ w = [(q1, .inr (6, [v2, .int cZ, .int i3, .int i4]))]
abbrev mJ1_canEncode_fc78d : MX := (yJ1_canEncode_fc78d, cJ1_canEncode_fc78d, 1, (some FieldType.boolean), { frames := 0, cells := 0, slots := 0, locals := 0 })
abbrev zJ1_canEncode_fc78d (E : EX)  : (Int32) → Option Value → va_W → Prop := fun z v w => v = some (.int z) ∧ w = []
abbrev mJ5_append_3fe6f (c0 n6 : Nat) : MX := (yJ5_append_3fe6f, cJ5_append_3fe6f, 2, (some (FieldType.object "java/lang/AbstractStringBuilder")), { frames := 4, cells := ((c0 - n6) / 16), slots := 2 * (c0 - n6), locals := 104 })
abbrev zJ5_append_3fe6f (E : EX) (q1 : Nat) (i4 : Int32) (c0 : Nat) : (Int32 × (Nat → Int32)) → Option Value → va_W → Prop := fun z v w => ∃ q14 : Nat, v = some (.ref q1) ∧ w = [(q1, .inr (6, [.ref q14, .int cZ, .int i4, .int z.1])), (q14, .inl (E.2.2.1, c0, .inl z.2))]
abbrev mJ4_append_cf468 (c0 n6 : Nat) : MX := (yJ4_append_cf468, cJ4_append_cf468, 2, (some (FieldType.object "java/lang/StringBuilder")), { frames := 5, cells := ((c0 - n6) / 16), slots := 2 * (c0 - n6), locals := 125 })
abbrev zJ4_append_cf468 (E : EX) (q1 : Nat) (i4 : Int32) (c0 : Nat) : (Int32 × (Nat → Int32)) → Option Value → va_W → Prop := fun z v w => ∃ q10 : Nat, v = some (.ref q1) ∧ w = [(q1, .inr (6, [.ref q10, .int cZ, .int i4, .int z.1])), (q10, .inl (E.2.2.1, c0, .inl z.2))]
abbrev mJ6_stringSize_0f7a4 : MX := (yJ6_stringSize_0f7a4, cJ6_stringSize_0f7a4, 4, (some FieldType.int), { frames := 0, cells := 0, slots := 0, locals := 0 })
abbrev zJ6_stringSize_0f7a4 (E : EX)  : (Int32) → Option Value → va_W → Prop := fun z v w => v = some (.int z) ∧ w = []
abbrev mJ6_getChars_ba4f3 : MX := (yJ6_getChars_ba4f3, cJ6_getChars_ba4f3, 7, (some FieldType.int), { frames := 0, cells := 0, slots := 0, locals := 0 })
abbrev zJ6_getChars_ba4f3 (E : EX) (q3 : Nat) (n4 : Nat) : (Int32 × (Nat → Int32)) → Option Value → va_W → Prop := fun z v w => v = some (.int z.1) ∧ w = [(q3, .inl (E.2.2.1, n4, .inl z.2))]
abbrev mJ5_append_c97b9 (c0 n6 : Nat) : MX := (yJ5_append_c97b9, cJ5_append_c97b9, 4, (some (FieldType.object "java/lang/AbstractStringBuilder")), { frames := 4, cells := ((c0 - n6) / 16), slots := 2 * (c0 - n6), locals := 104 })
abbrev zJ5_append_c97b9 (E : EX) (q1 : Nat) (i4 : Int32) (c0 : Nat) : (Int32 × (Nat → Int32)) → Option Value → va_W → Prop := fun z v w => ∃ q14 : Nat, v = some (.ref q1) ∧ w = [(q1, .inr (6, [.ref q14, .int cZ, .int i4, .int z.1])), (q14, .inl (E.2.2.1, c0, .inl z.2))]
abbrev mJ4_append_bf812 (c0 n6 : Nat) : MX := (yJ4_append_bf812, cJ4_append_bf812, 2, (some (FieldType.object "java/lang/StringBuilder")), { frames := 5, cells := ((c0 - n6) / 16), slots := 2 * (c0 - n6), locals := 127 })
abbrev zJ4_append_bf812 (E : EX) (q1 : Nat) (i4 : Int32) (c0 : Nat) : (Int32 × (Nat → Int32)) → Option Value → va_W → Prop := fun z v w => ∃ q10 : Nat, v = some (.ref q1) ∧ w = [(q1, .inr (6, [.ref q10, .int cZ, .int i4, .int z.1])), (q10, .inl (E.2.2.1, c0, .inl z.2))]
abbrev mJ0_coder_7d493 : MX := (yJ0_coder_7d493, cJ0_coder_7d493, 1, (some FieldType.byte), { frames := 0, cells := 0, slots := 0, locals := 0 })
abbrev zJ0_coder_7d493 (E : EX)  : (Unit) → Option Value → va_W → Prop := fun z v w => v = some (.int (0 : Int32)) ∧ w = []
abbrev mJ0_length_8abf5 : MX := (yJ0_length_8abf5, cJ0_length_8abf5, 1, (some FieldType.int), { frames := 1, cells := 0, slots := 0, locals := 20 })
abbrev zJ0_length_8abf5 (E : EX)  : (Int32) → Option Value → va_W → Prop := fun z v w => v = some (.int z) ∧ w = []
abbrev mJ5_inflateIfNeededFor_a7421 : MX := (yJ5_inflateIfNeededFor_a7421, cJ5_inflateIfNeededFor_a7421, 2, (Option.none : Option FieldType), { frames := 1, cells := 0, slots := 0, locals := 20 })
abbrev zJ5_inflateIfNeededFor_a7421 (E : EX) (q1 : Nat) (v2 : Value) (i3 : Int32) (i4 : Int32) : (Unit) → Option Value → va_W → Prop := fun z v w => v = none ∧ w = [(q1, .inr (6, [v2, .int cZ, .int i3, .int i4]))]
abbrev mJ0_getBytes_840e7 : MX := (yJ0_getBytes_840e7, cJ0_getBytes_840e7, 4, (Option.none : Option FieldType), { frames := 1, cells := 0, slots := 0, locals := 60 })
abbrev zJ0_getBytes_840e7 (E : EX) (q1 : Nat) (n4 : Nat) : ((Nat → Int32)) → Option Value → va_W → Prop := fun z v w => v = none ∧ w = [(q1, .inl (E.2.2.1, n4, .inl z))]
abbrev mJ5_putStringAt_47b60 : MX := (yJ5_putStringAt_47b60, cJ5_putStringAt_47b60, 3, (Option.none : Option FieldType), { frames := 2, cells := 0, slots := 0, locals := 83 })
abbrev zJ5_putStringAt_47b60 (E : EX) (q1 : Nat) (q3 : Nat) (i4 : Int32) (i5 : Int32) (n6 : Nat) : ((Nat → Int32)) → Option Value → va_W → Prop := fun z v w => v = none ∧ w = [(q1, .inr (6, [.ref q3, .int cZ, .int i4, .int i5])), (q3, .inl (E.2.2.1, n6, .inl z))]
abbrev mJ5_append_cf1ce (c0 n5 : Nat) : MX := (yJ5_append_cf1ce, cJ5_append_cf1ce, 3, (some (FieldType.object "java/lang/AbstractStringBuilder")), { frames := 4, cells := ((c0 - n5) / 16), slots := 2 * (c0 - n5), locals := 105 })
abbrev zJ5_append_cf1ce (E : EX) (q1 : Nat) (i3 : Int32) (c0 : Nat) : (Int32 × (Nat → Int32)) → Option Value → va_W → Prop := fun z v w => ∃ q11 : Nat, v = some (.ref q1) ∧ w = [(q1, .inr (6, [.ref q11, .int cZ, .int i3, .int z.1])), (q11, .inl (E.2.2.1, c0, .inl z.2))]
abbrev mJ4_append_15ec4 (c0 n5 : Nat) : MX := (yJ4_append_15ec4, cJ4_append_15ec4, 2, (some (FieldType.object "java/lang/StringBuilder")), { frames := 5, cells := ((c0 - n5) / 16), slots := 2 * (c0 - n5), locals := 127 })
abbrev zJ4_append_15ec4 (E : EX) (q1 : Nat) (i3 : Int32) (c0 : Nat) : (Int32 × (Nat → Int32)) → Option Value → va_W → Prop := fun z v w => ∃ q9 : Nat, v = some (.ref q1) ∧ w = [(q1, .inr (6, [.ref q9, .int cZ, .int i3, .int z.1])), (q9, .inl (E.2.2.1, c0, .inl z.2))]
abbrev mJ5_getValue_6d5f1 : MX := (yJ5_getValue_6d5f1, cJ5_getValue_6d5f1, 1, (some (FieldType.array FieldType.byte)), { frames := 0, cells := 0, slots := 0, locals := 0 })
abbrev zJ5_getValue_6d5f1 (E : EX) (q1 : Nat) (q2 : Nat) (i3 : Int32) (i4 : Int32) (n5 : Nat) (f6 : Nat → Int32) : (Unit) → Option Value → va_W → Prop := fun z v w => v = some (.ref q2) ∧ w = [(q1, .inr (6, [.ref q2, .int cZ, .int i3, .int i4])), (q2, .inl (E.2.2.1, n5, .inl f6))]
abbrev mJ5_length_8abf5 : MX := (yJ5_length_8abf5, cJ5_length_8abf5, 1, (some FieldType.int), { frames := 0, cells := 0, slots := 0, locals := 0 })
abbrev zJ5_length_8abf5 (E : EX) (q1 : Nat) (v2 : Value) (i3 : Int32) (i4 : Int32) : (Int32) → Option Value → va_W → Prop := fun z v w => v = some (.int z) ∧ w = [(q1, .inr (6, [v2, .int cZ, .int i3, .int i4]))]
abbrev mJ4_length_8abf5 : MX := (yJ4_length_8abf5, cJ4_length_8abf5, 1, (some FieldType.int), { frames := 1, cells := 0, slots := 0, locals := 20 })
abbrev zJ4_length_8abf5 (E : EX) (q1 : Nat) (v2 : Value) (i3 : Int32) (i4 : Int32) : (Int32) → Option Value → va_W → Prop := fun z v w => v = some (.int z) ∧ w = [(q1, .inr (6, [v2, .int cZ, .int i3, .int i4]))]
abbrev mJ7_checkLength_df160 : MX := (yJ7_checkLength_df160, cJ7_checkLength_df160, 2, (Option.none : Option FieldType), { frames := 0, cells := 0, slots := 0, locals := 0 })
abbrev zJ7_checkLength_df160 (E : EX)  : (Unit) → Option Value → va_W → Prop := fun z v w => v = none ∧ w = []
abbrev mJ7_copyOfRangeByte_39247 : MX := (yJ7_copyOfRangeByte_39247, cJ7_copyOfRangeByte_39247, 5, (some (FieldType.array FieldType.byte)), { frames := 1, cells := 1, slots := 13400, locals := 60 })
abbrev zJ7_copyOfRangeByte_39247 (E : EX) (q1 : Nat) (n4 : Nat) (f5 : Nat → Int32) : (Nat × (Nat → Int32)) → Option Value → va_W → Prop := fun z v w => ∃ q9 : Nat, v = some (.ref q9) ∧ w = [(q1, .inl (E.2.2.1, n4, .inl f5)), (q9, .inl (E.2.2.1, z.1, .inl z.2))]
abbrev mJ7_copyOfRange_39247 : MX := (yJ7_copyOfRange_39247, cJ7_copyOfRange_39247, 3, (some (FieldType.array FieldType.byte)), { frames := 2, cells := 1, slots := 13400, locals := 84 })
abbrev zJ7_copyOfRange_39247 (E : EX) (q1 : Nat) (n4 : Nat) (f5 : Nat → Int32) : (Nat × (Nat → Int32)) → Option Value → va_W → Prop := fun z v w => ∃ q11 : Nat, v = some (.ref q11) ∧ w = [(q1, .inl (E.2.2.1, n4, .inl f5)), (q11, .inl (E.2.2.1, z.1, .inl z.2))]
abbrev mJ0_init_db425 : MX := (yJ0_init_db425, cJ0_init_db425, 5, (Option.none : Option FieldType), { frames := 3, cells := 1, slots := 13400, locals := 106 })
abbrev zJ0_init_db425 (E : EX) (q1 : Nat) (q2 : Nat) (q6 : Nat) (i4 : Int32) (i5 : Int32) (i7 : Int32) (i8 : Int32) (n9 : Nat) (f10 : Nat → Int32) : (Nat × (Nat → Int32)) → Option Value → va_W → Prop := fun z v w => ∃ q16 : Nat, v = none ∧ w = [(q1, .inr (7, [.ref q16, .int cZ, .int i4, .int i5])), (q16, .inl (E.2.2.1, z.1, .inl z.2)), (q2, .inr (6, [.ref q6, .int cZ, .int i7, .int i8])), (q6, .inl (E.2.2.1, n9, .inl f10))]
abbrev mJ0_init_81219 : MX := (yJ0_init_81219, cJ0_init_81219, 2, (Option.none : Option FieldType), { frames := 4, cells := 1, slots := 13400, locals := 130 })
abbrev zJ0_init_81219 (E : EX) (q1 : Nat) (q2 : Nat) (q6 : Nat) (i4 : Int32) (i5 : Int32) (i7 : Int32) (i8 : Int32) (n9 : Nat) (f10 : Nat → Int32) : (Nat × (Nat → Int32)) → Option Value → va_W → Prop := fun z v w => ∃ q13 : Nat, v = none ∧ w = [(q1, .inr (7, [.ref q13, .int cZ, .int i4, .int i5])), (q13, .inl (E.2.2.1, z.1, .inl z.2)), (q2, .inr (6, [.ref q6, .int cZ, .int i7, .int i8])), (q6, .inl (E.2.2.1, n9, .inl f10))]
abbrev mJ4_toString_0e30d : MX := (yJ4_toString_0e30d, cJ4_toString_0e30d, 1, (some (FieldType.object "java/lang/String")), { frames := 5, cells := 2, slots := 13404, locals := 151 })
abbrev zJ4_toString_0e30d (E : EX) (q1 : Nat) (q2 : Nat) (i3 : Int32) (i4 : Int32) (n5 : Nat) (f6 : Nat → Int32) : (Nat × (Nat → Int32)) → Option Value → va_W → Prop := fun z v w => ∃ q10 : Nat, ∃ q11 : Nat, v = some (.ref q10) ∧ w = [(q1, .inr (6, [.ref q2, .int cZ, .int i3, .int i4])), (q2, .inl (E.2.2.1, n5, .inl f6)), (q10, .inr (7, [.ref q11, .int cZ, .int (0 : Int32), .int (0 : Int32)])), (q11, .inl (E.2.2.1, z.1, .inl z.2))]
abbrev mJ0_coderO : MX := (yJ0_coder_7d493, cJ0_coder_7d493, 1, (some FieldType.byte), { frames := 0, cells := 0, slots := 0, locals := 0 })
abbrev zJ0_coderO (E : EX) (q1 : Nat) (v2 : Value) (i3 : Int32) (i4 : Int32) : (Unit) → Option Value → va_W → Prop := fun z v w => v = some (.int cZ) ∧ w = [(q1, .inr (7, [v2, .int cZ, .int i3, .int i4]))]
abbrev mJ0_lengthO : MX := (yJ0_length_8abf5, cJ0_length_8abf5, 1, (some FieldType.int), { frames := 1, cells := 0, slots := 0, locals := 20 })
abbrev zJ0_lengthO (E : EX) (q1 : Nat) (q2 : Nat) (i3 : Int32) (i4 : Int32) (n5 : Nat) (f6 : Nat → Int32) : (Int32) → Option Value → va_W → Prop := fun z v w => v = some (.int z) ∧ w = [(q1, .inr (7, [.ref q2, .int cZ, .int i3, .int i4])), (q2, .inl (E.2.2.1, n5, .inl f6))]
abbrev mJ5_setLength_d00df (c0 n6 : Nat) : MX := (yJ5_setLength_d00df, cJ5_setLength_d00df, 2, (Option.none : Option FieldType), { frames := 4, cells := ((c0 - n6) / 16), slots := 2 * (c0 - n6), locals := 104 })
abbrev zJ5_setLength_d00df (E : EX) (q1 : Nat) (i2 : Int32) (c0 : Nat) : (Int32 × (Nat → Int32)) → Option Value → va_W → Prop := fun z v w => ∃ q10 : Nat, v = none ∧ w = [(q1, .inr (6, [.ref q10, .int cZ, .int z.1, .int i2])), (q10, .inl (E.2.2.1, c0, .inl z.2))]
abbrev mJ4_setLength_d00df (c0 n6 : Nat) : MX := (yJ4_setLength_d00df, cJ4_setLength_d00df, 2, (Option.none : Option FieldType), { frames := 5, cells := ((c0 - n6) / 16), slots := 2 * (c0 - n6), locals := 125 })
abbrev zJ4_setLength_d00df (E : EX) (q1 : Nat) (i2 : Int32) (c0 : Nat) : (Int32 × (Nat → Int32)) → Option Value → va_W → Prop := fun z v w => ∃ q10 : Nat, v = none ∧ w = [(q1, .inr (6, [.ref q10, .int cZ, .int z.1, .int i2])), (q10, .inl (E.2.2.1, c0, .inl z.2))]
noncomputable def fJ5_init_d00df  (i2 : Int32) : Option (Unit) :=
  if (1 : Int32) = (0 : Int32) then (none) else (nN i2 16 (some ()))
noncomputable def fJ4_init_da8c8   : Option (Unit) :=
  (fJ5_init_d00df (16 : Int32)).bind (fun z5 => some ())
noncomputable def fJ8_newLength_cabcc  (i1 : Int32) (i2 : Int32) (i3 : Int32) : Option (Int32) :=
  nm (i1 + (if i2 < i3 then i3 else i2)) (fun (i4 : Int32) => if i4 ≤ (0 : Int32) then (none) else (if (2147483639 : Int32) < i4 then (none) else (some i4)))
noncomputable def fJ5_newCapacity_0f7a4  (n6 : Nat) (i2 : Int32) : Option (Int32) :=
  nm (Int32.ofNat n6) (fun (i8 : Int32) => nm (i2 <<< (cZ &&& 31)) (fun (i9 : Int32) => nm (i9 - i8) (fun (i10 : Int32) => (fJ8_newLength_cabcc i8 i10 (i8 + ((2 : Int32) <<< (cZ &&& 31)))).bind (fun z11 => if z11 = (2147483647 : Int32) then (none) else (some (z11 >>> (cZ &&& 31)))))))
noncomputable def fJ7_copyOf_9075b  (n3 : Nat) (f4 : Nat → Int32) (i2 : Int32) (c0 : Nat) : Option ((Nat → Int32)) :=
  if i2 = (Int32.ofNat n3) then (none) else (gd (c0 ≤ 100000) inferInstance (nN i2 c0 (gP (cpOk f4 n3 i2.toNatClampNeg (0 : Int32) (0 : Int32) (if i2 < (Int32.ofNat n3) then i2 else (Int32.ofNat n3))) (some (va_cpy f4 (fun _ => 0) (0 : Int32).toNatClampNeg (0 : Int32).toNatClampNeg (if i2 < (Int32.ofNat n3) then i2 else (Int32.ofNat n3)).toNatClampNeg)))))
noncomputable def fJ5_ensureCapacityInternal_d00df  (n6 : Nat) (f7 : Nat → Int32) (i2 : Int32) (c0 : Nat) : Option ((Nat → Int32)) :=
  nm ((Int32.ofNat n6) >>> (cZ &&& 31)) (fun (i8 : Int32) => if (i2 - i8) ≤ (0 : Int32) then (gd (n6 = c0) inferInstance (some f7)) else ((fJ5_newCapacity_0f7a4 n6 i2).bind (fun z9 => gd (n6 + 16 ≤ c0 ∧ 2 * n6 ≤ c0) inferInstance ((fJ7_copyOf_9075b n6 f7 (z9 <<< (cZ &&& 31)) c0).bind (fun z10 => gd ((z9 <<< (cZ &&& 31)).toNatClampNeg = c0) inferInstance (some z10))))))
noncomputable def fJ5_isLatin1_aae02   : Option (Unit) :=
  if (1 : Int32) = (0 : Int32) then (none) else (if cZ = (0 : Int32) then (some ()) else (none))
noncomputable def fJ1_canEncode_fc78d  (i1 : Int32) : Option (Int32) :=
  if (255 : Int32) < i1 then (some (0 : Int32)) else (some (1 : Int32))
noncomputable def fJ5_append_3fe6f  (i5 : Int32) (n6 : Nat) (f7 : Nat → Int32) (i2 : Int32) (c0 : Nat) : Option (Int32 × (Nat → Int32)) :=
  (fJ5_ensureCapacityInternal_d00df n6 f7 (i5 + (1 : Int32)) c0).bind (fun z8 => (fJ5_isLatin1_aae02 ).bind (fun z10 => if (1 : Int32) = (0 : Int32) then (none) else ((fJ1_canEncode_fc78d i2).bind (fun z13 => if z13 = (0 : Int32) then (none) else (inB i5 c0 (some (i5 + (1 : Int32), upd z8 i5.toNatClampNeg (vp_nar .byte i2.toInt8.toInt32))))))))
noncomputable def fJ4_append_cf468  (i5 : Int32) (n6 : Nat) (f7 : Nat → Int32) (i2 : Int32) (c0 : Nat) : Option (Int32 × (Nat → Int32)) :=
  (fJ5_append_3fe6f i5 n6 f7 i2 c0).bind (fun z8 => some (z8.1, z8.2))
noncomputable def BJ6_stringSize_0f7a4_L16  (i5 : Int32) (i6 : Int32) (i12 : Int32) (i13 : Int32) (rec : Int32 → Int32 → Option (Int32))  : Option (Int32) :=
  if (10 : Int32) ≤ i13 then (some ((10 : Int32) + i6)) else (if i5 ≤ i12 then (nm ((10 : Int32) * i12) (fun (i14 : Int32) => rec i14 (i13 + (1 : Int32)))) else (some (i13 + i6)))
noncomputable def LJ6_stringSize_0f7a4_L16  (i5 : Int32) (i6 : Int32) : Nat → Int32 → Int32 → Option (Int32)
  | 0, _, _ => none
  | n + 1, i12, i13 => BJ6_stringSize_0f7a4_L16  i5 i6 i12 i13 (fun i12 i13 => LJ6_stringSize_0f7a4_L16  i5 i6 n i12 i13 ) 
noncomputable def fJ6_stringSize_0f7a4  (i1 : Int32) : Option (Int32) :=
  jn (fun (i5 : Int32) (i6 : Int32) => LJ6_stringSize_0f7a4_L16  i5 i6 12 (-10 : Int32) (1 : Int32) ) (fun (k2 : Int32 → Int32 → Option (Int32)) => if i1 < (0 : Int32) then (k2 i1 (1 : Int32)) else (nm (-i1) (fun (i4 : Int32) => k2 i4 (0 : Int32))))
noncomputable def BJ6_getChars_ba4f3_L22  (n4 : Nat) (i16 : Int32) (i17 : Int32) (f18 : Nat → Int32) (rec : Int32 → Int32 → (Nat → Int32) → Option (Int32 × (Nat → Int32))) (k1 : Int32 → Int32 → (Nat → Int32) → Option (Int32 × (Nat → Int32))) : Option (Int32 × (Nat → Int32)) :=
  if (-100 : Int32) < i16 then (k1 i16 i17 f18) else (nm (i16 / (100 : Int32)) (fun (i19 : Int32) => nm ((i19 * (100 : Int32)) - i16) (fun (i20 : Int32) => inB i20 100 (inB (i17 + (-1 : Int32)) n4 (inB i20 100 (inB ((i17 + (-1 : Int32)) + (-1 : Int32)) n4 (rec i19 ((i17 + (-1 : Int32)) + (-1 : Int32)) (upd (upd f18 (i17 + (-1 : Int32)).toNatClampNeg (vp_nar .byte (nI (48 + i20.toNatClampNeg % 10)))) ((i17 + (-1 : Int32)) + (-1 : Int32)).toNatClampNeg (vp_nar .byte (nI (48 + i20.toNatClampNeg / 10)))))))))))
noncomputable def LJ6_getChars_ba4f3_L22  (n4 : Nat) : Nat → Int32 → Int32 → (Nat → Int32) → (Int32 → Int32 → (Nat → Int32) → Option (Int32 × (Nat → Int32))) → Option (Int32 × (Nat → Int32))
  | 0, _, _, _, _ => none
  | n + 1, i16, i17, f18, k1 => BJ6_getChars_ba4f3_L22  n4 i16 i17 f18 (fun i16 i17 f18 => LJ6_getChars_ba4f3_L22  n4 n i16 i17 f18 k1) k1
noncomputable def BJ6_getChars_ba4f3_L22_1  (n4 : Nat) (i36 : Int32) (i37 : Int32) (f38 : Nat → Int32) (rec : Int32 → Int32 → (Nat → Int32) → Option (Int32 × (Nat → Int32))) (k1 : Int32 → Int32 → (Nat → Int32) → Option (Int32 × (Nat → Int32))) : Option (Int32 × (Nat → Int32)) :=
  if (-100 : Int32) < i36 then (k1 i36 i37 f38) else (nm (i36 / (100 : Int32)) (fun (i39 : Int32) => nm ((i39 * (100 : Int32)) - i36) (fun (i40 : Int32) => inB i40 100 (inB (i37 + (-1 : Int32)) n4 (inB i40 100 (inB ((i37 + (-1 : Int32)) + (-1 : Int32)) n4 (rec i39 ((i37 + (-1 : Int32)) + (-1 : Int32)) (upd (upd f38 (i37 + (-1 : Int32)).toNatClampNeg (vp_nar .byte (nI (48 + i40.toNatClampNeg % 10)))) ((i37 + (-1 : Int32)) + (-1 : Int32)).toNatClampNeg (vp_nar .byte (nI (48 + i40.toNatClampNeg / 10)))))))))))
noncomputable def LJ6_getChars_ba4f3_L22_1  (n4 : Nat) : Nat → Int32 → Int32 → (Nat → Int32) → (Int32 → Int32 → (Nat → Int32) → Option (Int32 × (Nat → Int32))) → Option (Int32 × (Nat → Int32))
  | 0, _, _, _, _ => none
  | n + 1, i36, i37, f38, k1 => BJ6_getChars_ba4f3_L22_1  n4 i36 i37 f38 (fun i36 i37 f38 => LJ6_getChars_ba4f3_L22_1  n4 n i36 i37 f38 k1) k1
noncomputable def fJ6_getChars_ba4f3  (n4 : Nat) (f5 : Nat → Int32) (i1 : Int32) (i2 : Int32) : Option (Int32 × (Nat → Int32)) :=
  jn (fun (i8 : Int32) => if i8 = (0 : Int32) then (nm (-i1) (fun (i28 : Int32) => LJ6_getChars_ba4f3_L22_1  n4 12 i28 i2 f5 (fun (i41 : Int32) (i42 : Int32) (f43 : Nat → Int32) => inB (-i41) 100 (inB (i42 + (-1 : Int32)) n4 (jn (fun (i46 : Int32) (f47 : Nat → Int32) => if i8 = (0 : Int32) then (some (i46, f47)) else (inB (i46 + (-1 : Int32)) n4 (some (i46 + (-1 : Int32), upd f47 (i46 + (-1 : Int32)).toNatClampNeg (vp_nar .byte (45 : Int32)))))) (fun (k44 : Int32 → (Nat → Int32) → Option (Int32 × (Nat → Int32))) => if (-9 : Int32) ≤ i41 then (k44 (i42 + (-1 : Int32)) (upd f43 (i42 + (-1 : Int32)).toNatClampNeg (vp_nar .byte (nI (48 + (-i41).toNatClampNeg % 10))))) else (inB (-i41) 100 (inB ((i42 + (-1 : Int32)) + (-1 : Int32)) n4 (k44 ((i42 + (-1 : Int32)) + (-1 : Int32)) (upd (upd f43 (i42 + (-1 : Int32)).toNatClampNeg (vp_nar .byte (nI (48 + (-i41).toNatClampNeg % 10)))) ((i42 + (-1 : Int32)) + (-1 : Int32)).toNatClampNeg (vp_nar .byte (nI (48 + (-i41).toNatClampNeg / 10))))))))))))) else (LJ6_getChars_ba4f3_L22  n4 12 i1 i2 f5 (fun (i21 : Int32) (i22 : Int32) (f23 : Nat → Int32) => inB (-i21) 100 (inB (i22 + (-1 : Int32)) n4 (jn (fun (i26 : Int32) (f27 : Nat → Int32) => if i8 = (0 : Int32) then (some (i26, f27)) else (inB (i26 + (-1 : Int32)) n4 (some (i26 + (-1 : Int32), upd f27 (i26 + (-1 : Int32)).toNatClampNeg (vp_nar .byte (45 : Int32)))))) (fun (k24 : Int32 → (Nat → Int32) → Option (Int32 × (Nat → Int32))) => if (-9 : Int32) ≤ i21 then (k24 (i22 + (-1 : Int32)) (upd f23 (i22 + (-1 : Int32)).toNatClampNeg (vp_nar .byte (nI (48 + (-i21).toNatClampNeg % 10))))) else (inB (-i21) 100 (inB ((i22 + (-1 : Int32)) + (-1 : Int32)) n4 (k24 ((i22 + (-1 : Int32)) + (-1 : Int32)) (upd (upd f23 (i22 + (-1 : Int32)).toNatClampNeg (vp_nar .byte (nI (48 + (-i21).toNatClampNeg % 10)))) ((i22 + (-1 : Int32)) + (-1 : Int32)).toNatClampNeg (vp_nar .byte (nI (48 + (-i21).toNatClampNeg / 10))))))))))))) (fun (k6 : Int32 → Option (Int32 × (Nat → Int32))) => if (0 : Int32) ≤ i1 then (k6 (0 : Int32)) else (k6 (1 : Int32)))
noncomputable def fJ5_append_c97b9  (i5 : Int32) (n6 : Nat) (f7 : Nat → Int32) (i2 : Int32) (c0 : Nat) : Option (Int32 × (Nat → Int32)) :=
  (fJ6_stringSize_0f7a4 i2).bind (fun z8 => nm (i5 + z8) (fun (i9 : Int32) => (fJ5_ensureCapacityInternal_d00df n6 f7 i9 c0).bind (fun z10 => (fJ5_isLatin1_aae02 ).bind (fun z12 => if (1 : Int32) = (0 : Int32) then (none) else ((fJ6_getChars_ba4f3 c0 z10 i2 i9).bind (fun z13 => some (i9, z13.2)))))))
noncomputable def fJ4_append_bf812  (i5 : Int32) (n6 : Nat) (f7 : Nat → Int32) (i2 : Int32) (c0 : Nat) : Option (Int32 × (Nat → Int32)) :=
  (fJ5_append_c97b9 i5 n6 f7 i2 c0).bind (fun z8 => some (z8.1, z8.2))
noncomputable def fJ0_coder_7d493   : Option (Unit) :=
  if (1 : Int32) = (0 : Int32) then (none) else (some ())
noncomputable def fJ0_length_8abf5 (k0 : Nat)  : Option (Int32) :=
  (fJ0_coder_7d493 ).bind (fun z1 => some ((Int32.ofNat (strL.getD k0 0)) >>> ((0 : Int32) &&& 31)))
noncomputable def fJ5_inflateIfNeededFor_a7421   : Option (Unit) :=
  if (1 : Int32) = (0 : Int32) then (none) else ((fJ0_coder_7d493 ).bind (fun z5 => if cZ = (0 : Int32) then (some ()) else (none)))
noncomputable def fJ0_getBytes_840e7 (k0 : Nat) (n4 : Nat) (f5 : Nat → Int32) (i2 : Int32) (i3 : Int32) : Option ((Nat → Int32)) :=
  (fJ0_coder_7d493 ).bind (fun z6 => if (0 : Int32) = i3 then (gP (cpOk (strF k0) (strL.getD k0 0) n4 (0 : Int32) (i2 <<< (i3 &&& 31)) (Int32.ofNat (strL.getD k0 0))) (some (va_cpy (strF k0) f5 (0 : Int32).toNatClampNeg (i2 <<< (i3 &&& 31)).toNatClampNeg (Int32.ofNat (strL.getD k0 0)).toNatClampNeg))) else (none))
noncomputable def fJ5_putStringAt_47b60 (k0 : Nat) (n6 : Nat) (f7 : Nat → Int32) (i2 : Int32) : Option ((Nat → Int32)) :=
  (fJ5_inflateIfNeededFor_a7421 ).bind (fun z8 => (fJ0_getBytes_840e7 k0 n6 f7 i2 cZ).bind (fun z9 => some z9))
noncomputable def fJ5_append_cf1ce (k0 : Nat) (i4 : Int32) (n5 : Nat) (f6 : Nat → Int32) (c0 : Nat) : Option (Int32 × (Nat → Int32)) :=
  (fJ0_length_8abf5 k0).bind (fun z7 => (fJ5_ensureCapacityInternal_d00df n5 f6 (i4 + z7) c0).bind (fun z8 => (fJ5_putStringAt_47b60 k0 c0 z8 i4).bind (fun z10 => some (i4 + z7, z10))))
noncomputable def fJ4_append_15ec4 (k0 : Nat) (i4 : Int32) (n5 : Nat) (f6 : Nat → Int32) (c0 : Nat) : Option (Int32 × (Nat → Int32)) :=
  (fJ5_append_cf1ce k0 i4 n5 f6 c0).bind (fun z7 => some (z7.1, z7.2))
noncomputable def fJ5_getValue_6d5f1   : Option (Unit) :=
  some ()
noncomputable def fJ5_length_8abf5  (i4 : Int32) : Option (Int32) :=
  some i4
noncomputable def fJ4_length_8abf5  (i4 : Int32) : Option (Int32) :=
  (fJ5_length_8abf5 i4).bind (fun z5 => some z5)
noncomputable def fJ7_checkLength_df160  (i1 : Int32) (i2 : Int32) : Option (Unit) :=
  if i1 ≤ i2 then (some ()) else (none)
noncomputable def fJ7_copyOfRangeByte_39247  (n4 : Nat) (f5 : Nat → Int32) (i2 : Int32) (i3 : Int32) : Option (Nat × (Nat → Int32)) :=
  (fJ7_checkLength_df160 i2 i3).bind (fun z6 => nm (i3 - i2) (fun (i7 : Int32) => nN i7 13400 (gP (cpOk f5 n4 i7.toNatClampNeg i2 (0 : Int32) (if i7 < ((Int32.ofNat n4) - i2) then i7 else ((Int32.ofNat n4) - i2))) (some (i7.toNatClampNeg, va_cpy f5 (fun _ => 0) i2.toNatClampNeg (0 : Int32).toNatClampNeg (if i7 < ((Int32.ofNat n4) - i2) then i7 else ((Int32.ofNat n4) - i2)).toNatClampNeg)))))
noncomputable def fJ7_copyOfRange_39247  (n4 : Nat) (f5 : Nat → Int32) (i2 : Int32) (i3 : Int32) : Option (Nat × (Nat → Int32)) :=
  jn (fun (_ : Unit) => (fJ7_copyOfRangeByte_39247 n4 f5 i2 i3).bind (fun z9 => some (z9.1, z9.2))) (fun (k6 : Unit → Option (Nat × (Nat → Int32))) => if i2 = (0 : Int32) then (if i3 = (Int32.ofNat n4) then (gP (n4 ≤ 13400 ∧ ∀ i, i < n4 → fits .byte (.int (f5 i)) = true) (some (n4, f5))) else (k6 ())) else (k6 ()))
noncomputable def fJ0_init_db425  (i8 : Int32) (n9 : Nat) (f10 : Nat → Int32) : Option (Nat × (Nat → Int32)) :=
  (fJ5_getValue_6d5f1 ).bind (fun z11 => (fJ4_length_8abf5 i8).bind (fun z12 => (fJ5_isLatin1_aae02 ).bind (fun z13 => if (1 : Int32) = (0 : Int32) then (none) else ((fJ7_copyOfRange_39247 n9 f10 (0 : Int32) z12).bind (fun z14 => some (z14.1, z14.2))))))
noncomputable def fJ0_init_81219  (i8 : Int32) (n9 : Nat) (f10 : Nat → Int32) : Option (Nat × (Nat → Int32)) :=
  (fJ0_init_db425 i8 n9 f10).bind (fun z11 => some (z11.1, z11.2))
noncomputable def fJ4_toString_0e30d  (i4 : Int32) (n5 : Nat) (f6 : Nat → Int32) : Option (Nat × (Nat → Int32)) :=
  (fJ0_init_81219 i4 n5 f6).bind (fun z8 => some (z8.1, z8.2))
noncomputable def fJ0_coderO   : Option (Unit) :=
  if (1 : Int32) = (0 : Int32) then (none) else (bz cZ (some ()))
noncomputable def fJ0_lengthO  (n5 : Nat) : Option (Int32) :=
  (fJ0_coderO ).bind (fun z7 => some ((Int32.ofNat n5) >>> (cZ &&& 31)))
noncomputable def fJ5_setLength_d00df  (i4 : Int32) (i5 : Int32) (n6 : Nat) (f7 : Nat → Int32) (i2 : Int32) (c0 : Nat) : Option (Int32 × (Nat → Int32)) :=
  if (0 : Int32) ≤ i2 then ((fJ5_ensureCapacityInternal_d00df n6 f7 i2 c0).bind (fun z8 => if i2 ≤ i5 then (if i5 ≤ i2 then (some (i4, z8)) else (some ((1 : Int32), z8))) else (none))) else (none)
noncomputable def fJ4_setLength_d00df  (i4 : Int32) (i5 : Int32) (n6 : Nat) (f7 : Nat → Int32) (i2 : Int32) (c0 : Nat) : Option (Int32 × (Nat → Int32)) :=
  (fJ5_setLength_d00df i4 i5 n6 f7 i2 c0).bind (fun z8 => some (z8.1, z8.2))
theorem tx_newCapacity : (Cond.selects "java/lang/StringBuilder" ⟨"java/lang/AbstractStringBuilder", "newCapacity", "(I)I"⟩ ⟨"java/lang/AbstractStringBuilder", "newCapacity", "(I)I"⟩) ∈ TB := tb_inx (by decide +kernel) (by decide +kernel)
theorem tx_ensureCapacityInternal : (Cond.selects "java/lang/StringBuilder" ⟨"java/lang/AbstractStringBuilder", "ensureCapacityInternal", "(I)V"⟩ ⟨"java/lang/AbstractStringBuilder", "ensureCapacityInternal", "(I)V"⟩) ∈ TB := tb_inx (by decide +kernel) (by decide +kernel)
theorem tx_inflateIfNeededFor : (Cond.selects "java/lang/StringBuilder" ⟨"java/lang/AbstractStringBuilder", "inflateIfNeededFor", "(Ljava/lang/String;)V"⟩ ⟨"java/lang/AbstractStringBuilder", "inflateIfNeededFor", "(Ljava/lang/String;)V"⟩) ∈ TB := tb_inx (by decide +kernel) (by decide +kernel)
theorem tx_putStringAt : (Cond.selects "java/lang/StringBuilder" ⟨"java/lang/AbstractStringBuilder", "putStringAt", "(ILjava/lang/String;)V"⟩ ⟨"java/lang/AbstractStringBuilder", "putStringAt", "(ILjava/lang/String;)V"⟩) ∈ TB := tb_inx (by decide +kernel) (by decide +kernel)
theorem pf_A_15 : pfact "java/lang/AbstractStringBuilder" 15 6 0 (.array .byte) false := ⟨RJ4, TJ4, 4, tyJ4, cf_6, by decide, tw_225, rfl, rfl, by decide⟩
theorem pf_A_22 : pfact "java/lang/AbstractStringBuilder" 22 6 1 .byte false := ⟨RJ4, TJ4, 4, tyJ4, cf_6, by decide, tw_226, rfl, rfl, by decide⟩
theorem gf_A_15 : gfact "java/lang/AbstractStringBuilder" 15 6 0 := ⟨RJ4, TJ4, 4, tyJ4, cf_6, by decide, tw_225⟩
theorem gf_A_22 : gfact "java/lang/AbstractStringBuilder" 22 6 1 := ⟨RJ4, TJ4, 4, tyJ4, cf_6, by decide, tw_226⟩
theorem wc_Y_150 : wCopy "java/util/Arrays" 150 := ⟨tw_630, tw_632, tw_631, tw_86⟩
theorem gf_A_79 : gfact "java/lang/AbstractStringBuilder" 79 6 3 := ⟨RJ4, TJ4, 4, tyJ4, cf_6, by decide, tw_229⟩
theorem pf_A_79 : pfact "java/lang/AbstractStringBuilder" 79 6 3 .int false := ⟨RJ4, TJ4, 4, tyJ4, cf_6, by decide, tw_229, rfl, rfl, by decide⟩
theorem wc_Z_212 : wCopy "java/lang/String" 212 := ⟨tw_705, tw_632, tw_631, tw_86⟩
theorem pf_Z_15 : pfact "java/lang/String" 15 7 1 .byte true := ⟨RJ0, TJ0, 4, tyJ0, cf_7, by decide, tw_790, rfl, rfl, by decide⟩
theorem pf_Z_9 : pfact "java/lang/String" 9 7 0 (.array .byte) true := ⟨RJ0, TJ0, 4, tyJ0, cf_7, by decide, tw_789, rfl, rfl, by decide⟩
theorem nf_S_18 : nfact "java/lang/StringBuilder" 18 7 4 [.null, .int (0 : Int32), .int (0 : Int32), .int (0 : Int32)] := ⟨RJ0, TJ0, tyJ0, cf_7, tw_736, tw_737, tw_73, by decide +kernel⟩
theorem gf_Z_15 : gfact "java/lang/String" 15 7 1 := ⟨RJ0, TJ0, 4, tyJ0, cf_7, by decide, tw_790⟩
theorem gf_Z_9 : gfact "java/lang/String" 9 7 0 := ⟨RJ0, TJ0, 4, tyJ0, cf_7, by decide, tw_789⟩
theorem pf_A_73 : pfact "java/lang/AbstractStringBuilder" 73 6 2 .boolean false := ⟨RJ4, TJ4, 4, tyJ4, cf_6, by decide, tw_227, rfl, rfl, by decide⟩
theorem mf_J5_init_d00df : mfact mJ5_init_d00df 1 := ⟨by decide +kernel, ⟨by decide +kernel, by decide +kernel⟩, by decide +kernel, tw_214, tw_71⟩
theorem mf_J4_init_da8c8 : mfact mJ4_init_da8c8 0 := ⟨by decide +kernel, ⟨by decide +kernel, by decide +kernel⟩, by decide +kernel, tw_211, tw_72⟩
theorem mf_J8_newLength_cabcc : mfact mJ8_newLength_cabcc 3 := ⟨by decide +kernel, ⟨by decide +kernel, by decide +kernel⟩, by decide +kernel, tw_610, tw_84⟩
theorem mf_J5_newCapacity_0f7a4 : mfact mJ5_newCapacity_0f7a4 1 := ⟨by decide +kernel, ⟨by decide +kernel, by decide +kernel⟩, by decide +kernel, tw_607, tw_71⟩
theorem mfz_J7_copyOf_9075b : mfact (mJ7_copyOf_9075b 0) 2 := ⟨by decide +kernel, ⟨by decide +kernel, by decide +kernel⟩, by decide +kernel, tw_621, tw_85⟩
theorem mf_J7_copyOf_9075b (a0 : Nat) : mfact (mJ7_copyOf_9075b a0) 2 := mfz_J7_copyOf_9075b
theorem mfz_J5_ensureCapacityInternal_d00df : mfact (mJ5_ensureCapacityInternal_d00df 0 0) 1 := ⟨by decide +kernel, ⟨by decide +kernel, by decide +kernel⟩, by decide +kernel, tw_603, tw_71⟩
theorem mf_J5_ensureCapacityInternal_d00df (a0 a1 : Nat) : mfact (mJ5_ensureCapacityInternal_d00df a0 a1) 1 := mfz_J5_ensureCapacityInternal_d00df
theorem mf_J5_isLatin1_aae02 : mfact mJ5_isLatin1_aae02 0 := ⟨by decide +kernel, ⟨by decide +kernel, by decide +kernel⟩, by decide +kernel, tw_637, tw_71⟩
theorem mf_J1_canEncode_fc78d : mfact mJ1_canEncode_fc78d 1 := ⟨by decide +kernel, ⟨by decide +kernel, by decide +kernel⟩, by decide +kernel, tw_859, tw_88⟩
theorem mfz_J5_append_3fe6f : mfact (mJ5_append_3fe6f 0 0) 1 := ⟨by decide +kernel, ⟨by decide +kernel, by decide +kernel⟩, by decide +kernel, tw_856, tw_71⟩
theorem mf_J5_append_3fe6f (a0 a1 : Nat) : mfact (mJ5_append_3fe6f a0 a1) 1 := mfz_J5_append_3fe6f
theorem mfz_J4_append_cf468 : mfact (mJ4_append_cf468 0 0) 1 := ⟨by decide +kernel, ⟨by decide +kernel, by decide +kernel⟩, by decide +kernel, tw_853, tw_72⟩
theorem mf_J4_append_cf468 (a0 a1 : Nat) : mfact (mJ4_append_cf468 a0 a1) 1 := mfz_J4_append_cf468
theorem mf_J6_stringSize_0f7a4 : mfact mJ6_stringSize_0f7a4 1 := ⟨by decide +kernel, ⟨by decide +kernel, by decide +kernel⟩, by decide +kernel, tw_716, tw_89⟩
theorem mf_J6_getChars_ba4f3 : mfact mJ6_getChars_ba4f3 3 := ⟨by decide +kernel, ⟨by decide +kernel, by decide +kernel⟩, by decide +kernel, tw_719, tw_89⟩
theorem mfz_J5_append_c97b9 : mfact (mJ5_append_c97b9 0 0) 1 := ⟨by decide +kernel, ⟨by decide +kernel, by decide +kernel⟩, by decide +kernel, tw_713, tw_71⟩
theorem mf_J5_append_c97b9 (a0 a1 : Nat) : mfact (mJ5_append_c97b9 a0 a1) 1 := mfz_J5_append_c97b9
theorem mfz_J4_append_bf812 : mfact (mJ4_append_bf812 0 0) 1 := ⟨by decide +kernel, ⟨by decide +kernel, by decide +kernel⟩, by decide +kernel, tw_710, tw_72⟩
theorem mf_J4_append_bf812 (a0 a1 : Nat) : mfact (mJ4_append_bf812 a0 a1) 1 := mfz_J4_append_bf812
theorem mf_J0_coder_7d493 : mfact mJ0_coder_7d493 0 := ⟨by decide +kernel, ⟨by decide +kernel, by decide +kernel⟩, by decide +kernel, tw_671, tw_73⟩
theorem mf_J0_length_8abf5 : mfact mJ0_length_8abf5 0 := ⟨by decide +kernel, ⟨by decide +kernel, by decide +kernel⟩, by decide +kernel, tw_667, tw_73⟩
theorem mf_J5_inflateIfNeededFor_a7421 : mfact mJ5_inflateIfNeededFor_a7421 1 := ⟨by decide +kernel, ⟨by decide +kernel, by decide +kernel⟩, by decide +kernel, tw_680, tw_71⟩
theorem mf_J0_getBytes_840e7 : mfact mJ0_getBytes_840e7 3 := ⟨by decide +kernel, ⟨by decide +kernel, by decide +kernel⟩, by decide +kernel, tw_704, tw_73⟩
theorem mf_J5_putStringAt_47b60 : mfact mJ5_putStringAt_47b60 2 := ⟨by decide +kernel, ⟨by decide +kernel, by decide +kernel⟩, by decide +kernel, tw_676, tw_71⟩
theorem mfz_J5_append_cf1ce : mfact (mJ5_append_cf1ce 0 0) 1 := ⟨by decide +kernel, ⟨by decide +kernel, by decide +kernel⟩, by decide +kernel, tw_595, tw_71⟩
theorem mf_J5_append_cf1ce (a0 a1 : Nat) : mfact (mJ5_append_cf1ce a0 a1) 1 := mfz_J5_append_cf1ce
theorem mfz_J4_append_15ec4 : mfact (mJ4_append_15ec4 0 0) 1 := ⟨by decide +kernel, ⟨by decide +kernel, by decide +kernel⟩, by decide +kernel, tw_592, tw_72⟩
theorem mf_J4_append_15ec4 (a0 a1 : Nat) : mfact (mJ4_append_15ec4 a0 a1) 1 := mfz_J4_append_15ec4
theorem mf_J5_getValue_6d5f1 : mfact mJ5_getValue_6d5f1 0 := ⟨by decide +kernel, ⟨by decide +kernel, by decide +kernel⟩, by decide +kernel, tw_749, tw_71⟩
theorem mf_J5_length_8abf5 : mfact mJ5_length_8abf5 0 := ⟨by decide +kernel, ⟨by decide +kernel, by decide +kernel⟩, by decide +kernel, tw_757, tw_71⟩
theorem mf_J4_length_8abf5 : mfact mJ4_length_8abf5 0 := ⟨by decide +kernel, ⟨by decide +kernel, by decide +kernel⟩, by decide +kernel, tw_755, tw_72⟩
theorem mf_J7_checkLength_df160 : mfact mJ7_checkLength_df160 2 := ⟨by decide +kernel, ⟨by decide +kernel, by decide +kernel⟩, by decide +kernel, tw_767, tw_85⟩
theorem mf_J7_copyOfRangeByte_39247 : mfact mJ7_copyOfRangeByte_39247 3 := ⟨by decide +kernel, ⟨by decide +kernel, by decide +kernel⟩, by decide +kernel, tw_764, tw_85⟩
theorem mf_J7_copyOfRange_39247 : mfact mJ7_copyOfRange_39247 3 := ⟨by decide +kernel, ⟨by decide +kernel, by decide +kernel⟩, by decide +kernel, tw_761, tw_85⟩
theorem mf_J0_init_db425 : mfact mJ0_init_db425 2 := ⟨by decide +kernel, ⟨by decide +kernel, by decide +kernel⟩, by decide +kernel, tw_743, tw_73⟩
theorem mf_J0_init_81219 : mfact mJ0_init_81219 1 := ⟨by decide +kernel, ⟨by decide +kernel, by decide +kernel⟩, by decide +kernel, tw_740, tw_73⟩
theorem mf_J4_toString_0e30d : mfact mJ4_toString_0e30d 0 := ⟨by decide +kernel, ⟨by decide +kernel, by decide +kernel⟩, by decide +kernel, tw_735, tw_72⟩
theorem mf_J0_coderO : mfact mJ0_coderO 0 := ⟨by decide +kernel, ⟨by decide +kernel, by decide +kernel⟩, by decide +kernel, tw_671, tw_73⟩
theorem mf_J0_lengthO : mfact mJ0_lengthO 0 := ⟨by decide +kernel, ⟨by decide +kernel, by decide +kernel⟩, by decide +kernel, tw_667, tw_73⟩
theorem mfz_J5_setLength_d00df : mfact (mJ5_setLength_d00df 0 0) 1 := ⟨by decide +kernel, ⟨by decide +kernel, by decide +kernel⟩, by decide +kernel, tw_580, tw_71⟩
theorem mf_J5_setLength_d00df (a0 a1 : Nat) : mfact (mJ5_setLength_d00df a0 a1) 1 := mfz_J5_setLength_d00df
theorem mfz_J4_setLength_d00df : mfact (mJ4_setLength_d00df 0 0) 1 := ⟨by decide +kernel, ⟨by decide +kernel, by decide +kernel⟩, by decide +kernel, tw_577, tw_72⟩
theorem mf_J4_setLength_d00df (a0 a1 : Nat) : mfact (mJ4_setLength_d00df a0 a1) 1 := mfz_J4_setLength_d00df
set_option maxRecDepth 20000 in
theorem kJ5_init_d00df {E : EX} {l : Launch} (hl : l.stackTraces = false) (q1 : Nat) (v3 : Value) (i4 i5 i2 : Int32) : Ct E l mJ5_init_d00df [.ref q1, .int i2] [(q1, .inr (6, [v3, .int cZ, .int i4, .int i5]))] (fJ5_init_d00df i2) (zJ5_init_d00df E q1 i4 i5 i2) := Ct_of hl mf_J5_init_d00df.1 (Nat.le_of_ble_eq_true rfl) (fun K hs => by
  refine V_less 1 16 (Nat.le_refl _) (Nat.le_refl _) ?_
  refine V_pick [0, 1] [(0, .ref q1), (1, .int i2)] rfl ?_
  unfold fJ5_init_d00df
  refine V_aload_n (dJ5_init_d00df 0 rfl) 1 rfl 0 rfl ?_
  refine V_objinit tw_215 tw_98 tw_99 (Nat.le_of_ble_eq_true rfl) (Nat.le_of_ble_eq_true rfl) (dJ5_init_d00df 1 rfl) 4 rfl ?_
  refine V_getsC tw_216 (dJ5_init_d00df 2 rfl) 7 rfl ?_
  refine V_if_eq (dJ5_init_d00df 3 rfl) 25 (by decide) 10 rfl ?_ ?_
  · exact V_none
  · refine V_aload_n (dJ5_init_d00df 4 rfl) 11 rfl 0 rfl ?_
    refine V_iload_n (dJ5_init_d00df 5 rfl) 12 rfl 1 rfl ?_
    refine V_newb (by decide) tw_239 (dJ5_init_d00df 6 rfl) 14 rfl 0 0 (show 0 + 1 ≤ 1 from Nat.le_of_ble_eq_true rfl) (show 0 + 16 ≤ 16 from Nat.le_of_ble_eq_true rfl) (fun q6 => ?_)
    refine V_eqW (ws2 := [(q1, .inr (6, [v3, .int cZ, .int i4, .int i5])), (q6, .inl (E.2.2.1, i2.toNatClampNeg, .inl (fun _ => 0)))]) rfl ?_
    refine V_put pf_A_15 0 rfl rfl rfl (Nat.le_of_ble_eq_true rfl) (dJ5_init_d00df 7 rfl) 17 rfl [(q1, .inr (6, [.ref q6, .int cZ, .int i4, .int i5])), (q6, .inl (E.2.2.1, i2.toNatClampNeg, .inl (fun _ => 0)))] rfl ?_
    refine V_aload_n (dJ5_init_d00df 8 rfl) 18 rfl 0 rfl ?_
    refine V_iconst (0 : Int32) (by decide) (dJ5_init_d00df 9 rfl) 19 rfl ?_
    refine V_put pf_A_22 0 rfl rfl rfl (Nat.le_of_ble_eq_true rfl) (dJ5_init_d00df 10 rfl) 22 rfl [(q1, .inr (6, [.ref q6, .int cZ, .int i4, .int i5])), (q6, .inl (E.2.2.1, i2.toNatClampNeg, .inl (fun _ => 0)))] rfl ?_
    refine V_goto (dJ5_init_d00df 11 rfl) 38 (by decide) ?_
    exact V_vret rfl (dJ5_init_d00df 19 rfl) ⟨q6, rfl, rfl⟩)
set_option maxRecDepth 20000 in
theorem kJ4_init_da8c8 {E : EX} {l : Launch} (hl : l.stackTraces = false) (q1 : Nat) (v2 : Value) (i3 i4 : Int32) : Ct E l mJ4_init_da8c8 [.ref q1] [(q1, .inr (6, [v2, .int cZ, .int i3, .int i4]))] (fJ4_init_da8c8 ) (zJ4_init_da8c8 E q1 i3 i4) := Ct_of hl mf_J4_init_da8c8.1 (Nat.le_of_ble_eq_true rfl) (fun K hs => by
  refine V_less 1 16 (Nat.le_refl _) (Nat.le_refl _) ?_
  refine V_pick [0] [(0, .ref q1)] rfl ?_
  unfold fJ4_init_da8c8
  refine V_aload_n (dJ4_init_da8c8 0 rfl) 1 rfl 0 rfl ?_
  refine V_bipush (16 : Int32) (by decide) (dJ4_init_da8c8 1 rfl) 3 rfl ?_
  refine V_callI (M := mJ4_init_da8c8) (wcs := [(q1, .inr (6, [v2, .int cZ, .int i3, .int i4]))]) (wr := []) mf_J5_init_d00df rfl rfl tw_212 tw_213 ⟨Nat.le_of_ble_eq_true rfl, Nat.le_of_ble_eq_true rfl⟩ (dJ4_init_da8c8 2 rfl) 6 rfl (kJ5_init_d00df hs q1 v2 i3 i4 (16 : Int32)) rfl [0] [] rfl rfl rfl rfl (by decide) rfl (Nat.le_of_ble_eq_true rfl) 0 0 (show 0 + 1 ≤ 1 from Nat.le_of_ble_eq_true rfl) (show 0 + 16 ≤ 16 from Nat.le_of_ble_eq_true rfl) (fun z5 v w hz => ?_)
  obtain ⟨q6, rfl, rfl⟩ := hz
  show V E K mJ4_init_da8c8 (Qm E K mJ4_init_da8c8 (zJ4_init_da8c8 E q1 i3 i4)) 0 0 [(q1, .inr (6, [.ref q6, .int cZ, .int i3, .int i4])), (q6, .inl (E.2.2.1, 16, .inl (fun _ => 0)))] 6 [(0, .ref q1)] [] _
  exact V_vret rfl (dJ4_init_da8c8 3 rfl) ⟨q6, rfl, rfl⟩)
set_option maxRecDepth 20000 in
theorem kJ8_newLength_cabcc {E : EX} {l : Launch} (hl : l.stackTraces = false)  (i1 i2 i3 : Int32) : Ct E l mJ8_newLength_cabcc [.int i1, .int i2, .int i3] [] (fJ8_newLength_cabcc i1 i2 i3) (zJ8_newLength_cabcc E) := Ct_of hl mf_J8_newLength_cabcc.1 (Nat.le_of_ble_eq_true rfl) (fun K hs => by
  refine V_less 0 0 (Nat.le_refl _) (Nat.le_refl _) ?_
  refine V_pick [0, 1, 2] [(0, .int i1), (1, .int i2), (2, .int i3)] rfl ?_
  unfold fJ8_newLength_cabcc
  refine V_iload_n (dJ8_newLength_cabcc 0 rfl) 1 rfl 0 rfl ?_
  refine V_iload_n (dJ8_newLength_cabcc 1 rfl) 2 rfl 1 rfl ?_
  refine V_iload_n (dJ8_newLength_cabcc 2 rfl) 3 rfl 2 rfl ?_
  refine V_mmax tw_611 tw_612 tw_82 tw_613 (Nat.le_of_ble_eq_true rfl) (Nat.le_of_ble_eq_true rfl) (dJ8_newLength_cabcc 3 rfl) 6 rfl ?_
  refine V_iadd (dJ8_newLength_cabcc 4 rfl) 7 rfl ?_
  refine V_nmI (fun i4 => ?_)
  refine V_istore_n (dJ8_newLength_cabcc 5 rfl) 8 rfl [(0, .int i1), (1, .int i2), (2, .int i3), (3, .int i4)] (Nat.le_of_ble_eq_true rfl) rfl ?_
  refine V_iconst (0 : Int32) (by decide) (dJ8_newLength_cabcc 6 rfl) 9 rfl ?_
  refine V_iload_n (dJ8_newLength_cabcc 7 rfl) 10 rfl 3 rfl ?_
  refine V_icmp_ge (dJ8_newLength_cabcc 8 rfl) 21 (by decide) 13 rfl ?_ ?_
  · exact V_none
  · refine V_iload_n (dJ8_newLength_cabcc 9 rfl) 14 rfl 3 rfl ?_
    refine V_ldc (M := mJ8_newLength_cabcc) (v := (2147483639 : Int32)) tw_614 (dJ8_newLength_cabcc 10 rfl) 16 rfl ?_
    refine V_icmp_gt (dJ8_newLength_cabcc 11 rfl) 21 (by decide) 19 rfl ?_ ?_
    · exact V_none
    · refine V_iload_n (dJ8_newLength_cabcc 12 rfl) 20 rfl 3 rfl ?_
      exact V_iret rfl (dJ8_newLength_cabcc 13 rfl) ⟨rfl, rfl⟩)
set_option maxRecDepth 20000 in
theorem kJ5_newCapacity_0f7a4 {E : EX} {l : Launch} (hl : l.stackTraces = false) (q1 q3 : Nat) (i4 i5 : Int32) (n6 : Nat) (f7 : Nat → Int32) (i2 : Int32) : Ct E l mJ5_newCapacity_0f7a4 [.ref q1, .int i2] [(q1, .inr (6, [.ref q3, .int cZ, .int i4, .int i5])), (q3, .inl (E.2.2.1, n6, .inl f7))] (fJ5_newCapacity_0f7a4 n6 i2) (zJ5_newCapacity_0f7a4 E q1 q3 i4 i5 n6 f7) := Ct_of hl mf_J5_newCapacity_0f7a4.1 (Nat.le_of_ble_eq_true rfl) (fun K hs => by
  refine V_less 0 0 (Nat.le_refl _) (Nat.le_refl _) ?_
  refine V_pick [0, 1] [(0, .ref q1), (1, .int i2)] rfl ?_
  unfold fJ5_newCapacity_0f7a4
  refine V_aload_n (dJ5_newCapacity_0f7a4 0 rfl) 1 rfl 0 rfl ?_
  refine V_get gf_A_15 0 rfl rfl (dJ5_newCapacity_0f7a4 1 rfl) 4 rfl ?_
  refine V_alenB 1 rfl (Int32.ofNat n6) rfl (dJ5_newCapacity_0f7a4 2 rfl) 5 rfl ?_
  refine V_nmI (fun i8 => ?_)
  refine V_istore_n (dJ5_newCapacity_0f7a4 3 rfl) 6 rfl [(0, .ref q1), (1, .int i2), (2, .int i8)] (Nat.le_of_ble_eq_true rfl) rfl ?_
  refine V_iload_n (dJ5_newCapacity_0f7a4 4 rfl) 7 rfl 1 rfl ?_
  refine V_aload_n (dJ5_newCapacity_0f7a4 5 rfl) 8 rfl 0 rfl ?_
  refine V_get gf_A_22 0 rfl rfl (dJ5_newCapacity_0f7a4 6 rfl) 11 rfl ?_
  refine V_ishl (dJ5_newCapacity_0f7a4 7 rfl) 12 rfl ?_
  refine V_nmI (fun i9 => ?_)
  refine V_istore_n (dJ5_newCapacity_0f7a4 8 rfl) 13 rfl [(0, .ref q1), (1, .int i2), (2, .int i8), (3, .int i9)] (Nat.le_of_ble_eq_true rfl) rfl ?_
  refine V_iload_n (dJ5_newCapacity_0f7a4 9 rfl) 14 rfl 3 rfl ?_
  refine V_iload_n (dJ5_newCapacity_0f7a4 10 rfl) 15 rfl 2 rfl ?_
  refine V_isub (dJ5_newCapacity_0f7a4 11 rfl) 16 rfl ?_
  refine V_nmI (fun i10 => ?_)
  refine V_istore (dJ5_newCapacity_0f7a4 12 rfl) 18 rfl [(0, .ref q1), (1, .int i2), (2, .int i8), (3, .int i9), (4, .int i10)] (Nat.le_of_ble_eq_true rfl) rfl ?_
  refine V_iload_n (dJ5_newCapacity_0f7a4 13 rfl) 19 rfl 2 rfl ?_
  refine V_iload (dJ5_newCapacity_0f7a4 14 rfl) 21 rfl 4 rfl ?_
  refine V_iload_n (dJ5_newCapacity_0f7a4 15 rfl) 22 rfl 2 rfl ?_
  refine V_iconst (2 : Int32) (by decide) (dJ5_newCapacity_0f7a4 16 rfl) 23 rfl ?_
  refine V_aload_n (dJ5_newCapacity_0f7a4 17 rfl) 24 rfl 0 rfl ?_
  refine V_get gf_A_22 0 rfl rfl (dJ5_newCapacity_0f7a4 18 rfl) 27 rfl ?_
  refine V_ishl (dJ5_newCapacity_0f7a4 19 rfl) 28 rfl ?_
  refine V_iadd (dJ5_newCapacity_0f7a4 20 rfl) 29 rfl ?_
  refine V_callS (M := mJ5_newCapacity_0f7a4) (wcs := []) (wr := [(q1, .inr (6, [.ref q3, .int cZ, .int i4, .int i5])), (q3, .inl (E.2.2.1, n6, .inl f7))]) mf_J8_newLength_cabcc tw_608 tw_609 ⟨Nat.le_of_ble_eq_true rfl, Nat.le_of_ble_eq_true rfl⟩ (dJ5_newCapacity_0f7a4 21 rfl) 32 rfl (kJ8_newLength_cabcc hs i8 i10 (i8 + ((2 : Int32) <<< (cZ &&& 31)))) rfl [] [0, 1] rfl rfl rfl rfl (by decide) rfl (Nat.le_of_ble_eq_true rfl) 0 0 (show 0 + 0 ≤ 0 from Nat.le_of_ble_eq_true rfl) (show 0 + 0 ≤ 0 from Nat.le_of_ble_eq_true rfl) (fun z11 v w hz => ?_)
  obtain ⟨rfl, rfl⟩ := hz
  show V E K mJ5_newCapacity_0f7a4 (Qm E K mJ5_newCapacity_0f7a4 (zJ5_newCapacity_0f7a4 E q1 q3 i4 i5 n6 f7)) 0 0 [(q1, .inr (6, [.ref q3, .int cZ, .int i4, .int i5])), (q3, .inl (E.2.2.1, n6, .inl f7))] 32 [(0, .ref q1), (1, .int i2), (2, .int i8), (3, .int i9), (4, .int i10)] [.int z11] _
  refine V_istore (dJ5_newCapacity_0f7a4 22 rfl) 34 rfl [(0, .ref q1), (1, .int i2), (2, .int i8), (3, .int i9), (4, .int i10), (5, .int z11)] (Nat.le_of_ble_eq_true rfl) rfl ?_
  refine V_iload (dJ5_newCapacity_0f7a4 23 rfl) 36 rfl 5 rfl ?_
  refine V_ldc (M := mJ5_newCapacity_0f7a4) (v := (2147483647 : Int32)) tw_618 (dJ5_newCapacity_0f7a4 24 rfl) 38 rfl ?_
  refine V_icmp_ne (dJ5_newCapacity_0f7a4 25 rfl) 51 (by decide) 41 rfl ?_ ?_
  · refine V_iload (dJ5_newCapacity_0f7a4 31 rfl) 53 rfl 5 rfl ?_
    refine V_aload_n (dJ5_newCapacity_0f7a4 32 rfl) 54 rfl 0 rfl ?_
    refine V_get gf_A_22 0 rfl rfl (dJ5_newCapacity_0f7a4 33 rfl) 57 rfl ?_
    refine V_ishr (dJ5_newCapacity_0f7a4 34 rfl) 58 rfl ?_
    exact V_iret rfl (dJ5_newCapacity_0f7a4 35 rfl) ⟨rfl, rfl⟩
  · exact V_none)
set_option maxRecDepth 20000 in
theorem kJ7_copyOf_9075b {E : EX} {l : Launch} (hl : l.stackTraces = false) (q1 : Nat) (n3 : Nat) (f4 : Nat → Int32) (i2 : Int32) (c0 : Nat) : Ct E l (mJ7_copyOf_9075b c0) [.ref q1, .int i2] [(q1, .inl (E.2.2.1, n3, .inl f4))] (fJ7_copyOf_9075b n3 f4 i2 c0) (zJ7_copyOf_9075b E q1 n3 f4 i2) := Ct_of hl (mf_J7_copyOf_9075b c0).1 (Nat.le_of_ble_eq_true rfl) (fun K hs => by
  refine V_less 1 c0 (Nat.le_refl _) (Nat.le_refl _) ?_
  refine V_pick [0, 1] [(0, .ref q1), (1, .int i2)] rfl ?_
  unfold fJ7_copyOf_9075b
  refine V_iload_n (dJ7_copyOf_9075b 0 rfl) 1 rfl 1 rfl ?_
  refine V_aload_n (dJ7_copyOf_9075b 1 rfl) 2 rfl 0 rfl ?_
  refine V_alenB 0 rfl (Int32.ofNat n3) rfl (dJ7_copyOf_9075b 2 rfl) 3 rfl ?_
  refine V_icmp_ne (dJ7_copyOf_9075b 3 rfl) 14 (by decide) 6 rfl ?_ ?_
  · refine V_iload_n (dJ7_copyOf_9075b 8 rfl) 15 rfl 1 rfl ?_
    refine V_gd (fun hc => ?_)
    have hN : c0 ≤ 536870912 := by omega
    refine V_newb (N0 := c0) hN tw_239 (dJ7_copyOf_9075b 9 rfl) 17 rfl 0 0 (Nat.le_of_ble_eq_true rfl) (show 0 + c0 ≤ c0 by omega) (fun q5 => ?_)
    refine V_eqW (ws2 := [(q1, .inl (E.2.2.1, n3, .inl f4)), (q5, .inl (E.2.2.1, i2.toNatClampNeg, .inl (fun _ => 0)))]) rfl ?_
    refine V_astore_n (dJ7_copyOf_9075b 10 rfl) 18 rfl [(0, .ref q1), (1, .int i2), (2, .ref q5)] (Nat.le_of_ble_eq_true rfl) rfl ?_
    refine V_aload_n (dJ7_copyOf_9075b 11 rfl) 19 rfl 0 rfl ?_
    refine V_iconst (0 : Int32) (by decide) (dJ7_copyOf_9075b 12 rfl) 20 rfl ?_
    refine V_aload_n (dJ7_copyOf_9075b 13 rfl) 21 rfl 2 rfl ?_
    refine V_iconst (0 : Int32) (by decide) (dJ7_copyOf_9075b 14 rfl) 22 rfl ?_
    refine V_aload_n (dJ7_copyOf_9075b 15 rfl) 23 rfl 0 rfl ?_
    refine V_alenB 0 rfl (Int32.ofNat n3) rfl (dJ7_copyOf_9075b 16 rfl) 24 rfl ?_
    refine V_iload_n (dJ7_copyOf_9075b 17 rfl) 25 rfl 1 rfl ?_
    refine V_mmin tw_629 tw_341 tw_82 tw_342 (Nat.le_of_ble_eq_true rfl) (Nat.le_of_ble_eq_true rfl) (dJ7_copyOf_9075b 18 rfl) 28 rfl ?_
    refine V_copyB wc_Y_150 (Nat.le_of_ble_eq_true rfl) (Nat.le_of_ble_eq_true rfl) 0 1 rfl rfl (dJ7_copyOf_9075b 19 rfl) 31 rfl [(q1, .inl (E.2.2.1, n3, .inl f4)), (q5, .inl (E.2.2.1, i2.toNatClampNeg, .inl (va_cpy f4 (fun _ => 0) (0 : Int32).toNatClampNeg (0 : Int32).toNatClampNeg (if i2 < (Int32.ofNat n3) then i2 else (Int32.ofNat n3)).toNatClampNeg)))] rfl ?_
    refine V_aload_n (dJ7_copyOf_9075b 20 rfl) 32 rfl 2 rfl ?_
    exact V_aret rfl (Or.inr ⟨_, rfl⟩) (Or.inr ⟨_, rfl⟩) (dJ7_copyOf_9075b 21 rfl) ⟨q5, rfl, rfl⟩
  · exact V_none)
set_option maxRecDepth 20000 in
theorem kJ5_ensureCapacityInternal_d00df {E : EX} {l : Launch} (hl : l.stackTraces = false) (q1 q3 : Nat) (i4 i5 : Int32) (n6 : Nat) (f7 : Nat → Int32) (i2 : Int32) (c0 : Nat) : Ct E l (mJ5_ensureCapacityInternal_d00df c0 n6) [.ref q1, .int i2] [(q1, .inr (6, [.ref q3, .int cZ, .int i4, .int i5])), (q3, .inl (E.2.2.1, n6, .inl f7))] (fJ5_ensureCapacityInternal_d00df n6 f7 i2 c0) (zJ5_ensureCapacityInternal_d00df E q1 i4 i5 c0) := Ct_of hl (mf_J5_ensureCapacityInternal_d00df c0 n6).1 (Nat.le_of_ble_eq_true rfl) (fun K hs => by
  refine V_less ((c0 - n6) / 16) (2 * (c0 - n6)) (Nat.le_refl _) (Nat.le_refl _) ?_
  refine V_pick [0, 1] [(0, .ref q1), (1, .int i2)] rfl ?_
  unfold fJ5_ensureCapacityInternal_d00df
  refine V_aload_n (dJ5_ensureCapacityInternal_d00df 0 rfl) 1 rfl 0 rfl ?_
  refine V_get gf_A_15 0 rfl rfl (dJ5_ensureCapacityInternal_d00df 1 rfl) 4 rfl ?_
  refine V_alenB 1 rfl (Int32.ofNat n6) rfl (dJ5_ensureCapacityInternal_d00df 2 rfl) 5 rfl ?_
  refine V_aload_n (dJ5_ensureCapacityInternal_d00df 3 rfl) 6 rfl 0 rfl ?_
  refine V_get gf_A_22 0 rfl rfl (dJ5_ensureCapacityInternal_d00df 4 rfl) 9 rfl ?_
  refine V_ishr (dJ5_ensureCapacityInternal_d00df 5 rfl) 10 rfl ?_
  refine V_nmI (fun i8 => ?_)
  refine V_istore_n (dJ5_ensureCapacityInternal_d00df 6 rfl) 11 rfl [(0, .ref q1), (1, .int i2), (2, .int i8)] (Nat.le_of_ble_eq_true rfl) rfl ?_
  refine V_iload_n (dJ5_ensureCapacityInternal_d00df 7 rfl) 12 rfl 1 rfl ?_
  refine V_iload_n (dJ5_ensureCapacityInternal_d00df 8 rfl) 13 rfl 2 rfl ?_
  refine V_isub (dJ5_ensureCapacityInternal_d00df 9 rfl) 14 rfl ?_
  refine V_if_le (dJ5_ensureCapacityInternal_d00df 10 rfl) 38 (by decide) 17 rfl ?_ ?_
  · refine V_gd (fun he => ?_)
    subst he
    exact V_vret rfl (dJ5_ensureCapacityInternal_d00df 22 rfl) ⟨q3, rfl, rfl⟩
  · refine V_aload_n (dJ5_ensureCapacityInternal_d00df 11 rfl) 18 rfl 0 rfl ?_
    refine V_aload_n (dJ5_ensureCapacityInternal_d00df 12 rfl) 19 rfl 0 rfl ?_
    refine V_get gf_A_15 0 rfl rfl (dJ5_ensureCapacityInternal_d00df 13 rfl) 22 rfl ?_
    refine V_aload_n (dJ5_ensureCapacityInternal_d00df 14 rfl) 23 rfl 0 rfl ?_
    refine V_iload_n (dJ5_ensureCapacityInternal_d00df 15 rfl) 24 rfl 1 rfl ?_
    refine V_callU (M := (mJ5_ensureCapacityInternal_d00df c0 n6)) (wcs := [(q1, .inr (6, [.ref q3, .int cZ, .int i4, .int i5])), (q3, .inl (E.2.2.1, n6, .inl f7))]) (wr := []) mf_J5_newCapacity_0f7a4 tw_604 tw_1627 tw_606 tx_newCapacity ⟨Nat.le_of_ble_eq_true rfl, Nat.le_of_ble_eq_true rfl⟩ (dJ5_ensureCapacityInternal_d00df 16 rfl) 27 rfl (kJ5_newCapacity_0f7a4 hs q1 q3 i4 i5 n6 f7 i2) rfl [0, 1] [] (q0 := 0) rfl rfl rfl rfl rfl rfl rfl (by decide) rfl (Nat.le_of_ble_eq_true rfl) (((c0 - n6) / 16)) (2 * (c0 - n6)) (show (((c0 - n6) / 16)) + 0 ≤ (((c0 - n6) / 16)) by omega) (show (2 * (c0 - n6)) + 0 ≤ (2 * (c0 - n6)) by omega) (fun z9 v w hz => ?_)
    obtain ⟨rfl, rfl⟩ := hz
    show V E K (mJ5_ensureCapacityInternal_d00df c0 n6) (Qm E K (mJ5_ensureCapacityInternal_d00df c0 n6) (zJ5_ensureCapacityInternal_d00df E q1 i4 i5 c0)) (((c0 - n6) / 16)) (2 * (c0 - n6)) [(q1, .inr (6, [.ref q3, .int cZ, .int i4, .int i5])), (q3, .inl (E.2.2.1, n6, .inl f7))] 27 [(0, .ref q1), (1, .int i2), (2, .int i8)] [.int z9, .ref q3, .ref q1] _
    refine V_aload_n (dJ5_ensureCapacityInternal_d00df 17 rfl) 28 rfl 0 rfl ?_
    refine V_get gf_A_22 0 rfl rfl (dJ5_ensureCapacityInternal_d00df 18 rfl) 31 rfl ?_
    refine V_ishl (dJ5_ensureCapacityInternal_d00df 19 rfl) 32 rfl ?_
    refine V_gd (fun hg => ?_)
    refine V_callS (M := (mJ5_ensureCapacityInternal_d00df c0 n6)) (wcs := [(q3, .inl (E.2.2.1, n6, .inl f7))]) (wr := [(q1, .inr (6, [.ref q3, .int cZ, .int i4, .int i5]))]) (mf_J7_copyOf_9075b c0) tw_619 tw_620 ⟨Nat.le_of_ble_eq_true rfl, Nat.le_of_ble_eq_true rfl⟩ (dJ5_ensureCapacityInternal_d00df 20 rfl) 35 rfl (kJ7_copyOf_9075b hs q3 n6 f7 (z9 <<< (cZ &&& 31)) c0) rfl [1] [0] rfl rfl rfl rfl (by decide) rfl (Nat.le_of_ble_eq_true rfl) 0 0 (show 0 + 1 ≤ (((c0 - n6) / 16)) by omega) (show 0 + c0 ≤ (2 * (c0 - n6)) by omega) (fun z10 v w hz => ?_)
    obtain ⟨q11, rfl, rfl⟩ := hz
    show V E K (mJ5_ensureCapacityInternal_d00df c0 n6) (Qm E K (mJ5_ensureCapacityInternal_d00df c0 n6) (zJ5_ensureCapacityInternal_d00df E q1 i4 i5 c0)) 0 0 [(q1, .inr (6, [.ref q3, .int cZ, .int i4, .int i5])), (q3, .inl (E.2.2.1, n6, .inl f7)), (q11, .inl (E.2.2.1, ((z9 <<< (cZ &&& 31)).toNatClampNeg), .inl z10))] 35 [(0, .ref q1), (1, .int i2), (2, .int i8)] [.ref q11, .ref q1] _
    refine V_put pf_A_15 0 rfl rfl rfl (Nat.le_of_ble_eq_true rfl) (dJ5_ensureCapacityInternal_d00df 21 rfl) 38 rfl [(q1, .inr (6, [.ref q11, .int cZ, .int i4, .int i5])), (q3, .inl (E.2.2.1, n6, .inl f7)), (q11, .inl (E.2.2.1, ((z9 <<< (cZ &&& 31)).toNatClampNeg), .inl z10))] rfl ?_
    refine V_gd (fun he => ?_)
    refine V_world [0, 2] [(q1, .inr (6, [.ref q11, .int cZ, .int i4, .int i5])), (q11, .inl (E.2.2.1, ((z9 <<< (cZ &&& 31)).toNatClampNeg), .inl z10))] rfl rfl rfl ?_
    subst he
    exact V_vret rfl (dJ5_ensureCapacityInternal_d00df 22 rfl) ⟨q11, rfl, rfl⟩)
set_option maxRecDepth 20000 in
theorem kJ5_isLatin1_aae02 {E : EX} {l : Launch} (hl : l.stackTraces = false) (q1 : Nat) (v2 : Value) (i3 i4 : Int32) : Ct E l mJ5_isLatin1_aae02 [.ref q1] [(q1, .inr (6, [v2, .int cZ, .int i3, .int i4]))] (fJ5_isLatin1_aae02 ) (zJ5_isLatin1_aae02 E q1 v2 i3 i4) := Ct_of hl mf_J5_isLatin1_aae02.1 (Nat.le_of_ble_eq_true rfl) (fun K hs => by
  refine V_less 0 0 (Nat.le_refl _) (Nat.le_refl _) ?_
  refine V_pick [0] [(0, .ref q1)] rfl ?_
  unfold fJ5_isLatin1_aae02
  refine V_getsC tw_216 (dJ5_isLatin1_aae02 0 rfl) 3 rfl ?_
  refine V_if_eq (dJ5_isLatin1_aae02 1 rfl) 17 (by decide) 6 rfl ?_ ?_
  · exact V_none
  · refine V_aload_n (dJ5_isLatin1_aae02 2 rfl) 7 rfl 0 rfl ?_
    refine V_get gf_A_22 0 rfl rfl (dJ5_isLatin1_aae02 3 rfl) 10 rfl ?_
    refine V_if_ne (dJ5_isLatin1_aae02 4 rfl) 17 (by decide) 13 rfl ?_ ?_
    · exact V_none
    · refine V_iconst (1 : Int32) (by decide) (dJ5_isLatin1_aae02 5 rfl) 14 rfl ?_
      refine V_goto (dJ5_isLatin1_aae02 6 rfl) 18 (by decide) ?_
      exact V_zret rfl (by decide) (dJ5_isLatin1_aae02 8 rfl) ⟨rfl, rfl⟩)
set_option maxRecDepth 20000 in
theorem kJ1_canEncode_fc78d {E : EX} {l : Launch} (hl : l.stackTraces = false)  (i1 : Int32) : Ct E l mJ1_canEncode_fc78d [.int i1] [] (fJ1_canEncode_fc78d i1) (zJ1_canEncode_fc78d E) := Ct_of hl mf_J1_canEncode_fc78d.1 (Nat.le_of_ble_eq_true rfl) (fun K hs => by
  refine V_less 0 0 (Nat.le_refl _) (Nat.le_refl _) ?_
  refine V_pick [0] [(0, .int i1)] rfl ?_
  unfold fJ1_canEncode_fc78d
  refine V_iload_n (dJ1_canEncode_fc78d 0 rfl) 1 rfl 0 rfl ?_
  refine V_sipush (255 : Int32) (by decide) (dJ1_canEncode_fc78d 1 rfl) 4 rfl ?_
  refine V_icmp_gt (dJ1_canEncode_fc78d 2 rfl) 11 (by decide) 7 rfl ?_ ?_
  · refine V_iconst (0 : Int32) (by decide) (dJ1_canEncode_fc78d 5 rfl) 12 rfl ?_
    exact V_zret rfl (by decide) (dJ1_canEncode_fc78d 6 rfl) ⟨rfl, rfl⟩
  · refine V_iconst (1 : Int32) (by decide) (dJ1_canEncode_fc78d 3 rfl) 8 rfl ?_
    refine V_goto (dJ1_canEncode_fc78d 4 rfl) 12 (by decide) ?_
    exact V_zret rfl (by decide) (dJ1_canEncode_fc78d 6 rfl) ⟨rfl, rfl⟩)
set_option maxRecDepth 20000 in
theorem kJ5_append_3fe6f {E : EX} {l : Launch} (hl : l.stackTraces = false) (q1 q3 : Nat) (i4 i5 : Int32) (n6 : Nat) (f7 : Nat → Int32) (i2 : Int32) (c0 : Nat) : Ct E l (mJ5_append_3fe6f c0 n6) [.ref q1, .int i2] [(q1, .inr (6, [.ref q3, .int cZ, .int i4, .int i5])), (q3, .inl (E.2.2.1, n6, .inl f7))] (fJ5_append_3fe6f i5 n6 f7 i2 c0) (zJ5_append_3fe6f E q1 i4 c0) := Ct_of hl (mf_J5_append_3fe6f c0 n6).1 (Nat.le_of_ble_eq_true rfl) (fun K hs => by
  refine V_less ((c0 - n6) / 16) (2 * (c0 - n6)) (Nat.le_refl _) (Nat.le_refl _) ?_
  refine V_pick [0, 1] [(0, .ref q1), (1, .int i2)] rfl ?_
  unfold fJ5_append_3fe6f
  refine V_aload_n (dJ5_append_3fe6f 0 rfl) 1 rfl 0 rfl ?_
  refine V_aload_n (dJ5_append_3fe6f 1 rfl) 2 rfl 0 rfl ?_
  refine V_get gf_A_79 0 rfl rfl (dJ5_append_3fe6f 2 rfl) 5 rfl ?_
  refine V_iconst (1 : Int32) (by decide) (dJ5_append_3fe6f 3 rfl) 6 rfl ?_
  refine V_iadd (dJ5_append_3fe6f 4 rfl) 7 rfl ?_
  refine V_callU (M := (mJ5_append_3fe6f c0 n6)) (wcs := [(q1, .inr (6, [.ref q3, .int cZ, .int i4, .int i5])), (q3, .inl (E.2.2.1, n6, .inl f7))]) (wr := []) (mf_J5_ensureCapacityInternal_d00df c0 n6) tw_600 tw_1626 tw_602 tx_ensureCapacityInternal ⟨Nat.le_of_ble_eq_true rfl, Nat.le_of_ble_eq_true rfl⟩ (dJ5_append_3fe6f 5 rfl) 10 rfl (kJ5_ensureCapacityInternal_d00df hs q1 q3 i4 i5 n6 f7 (i5 + (1 : Int32)) c0) rfl [0, 1] [] (q0 := 0) rfl rfl rfl rfl rfl rfl rfl (by decide) rfl (Nat.le_of_ble_eq_true rfl) (((c0 - c0) / 16)) (2 * (c0 - c0)) (show (((c0 - c0) / 16)) + ((c0 - n6) / 16) ≤ (((c0 - n6) / 16)) by omega) (show (2 * (c0 - c0)) + 2 * (c0 - n6) ≤ (2 * (c0 - n6)) by omega) (fun z8 v w hz => ?_)
  obtain ⟨q9, rfl, rfl⟩ := hz
  show V E K (mJ5_append_3fe6f c0 n6) (Qm E K (mJ5_append_3fe6f c0 n6) (zJ5_append_3fe6f E q1 i4 c0)) (((c0 - c0) / 16)) (2 * (c0 - c0)) [(q1, .inr (6, [.ref q9, .int cZ, .int i4, .int i5])), (q9, .inl (E.2.2.1, c0, .inl z8))] 10 [(0, .ref q1), (1, .int i2)] [] _
  refine V_aload_n (dJ5_append_3fe6f 6 rfl) 11 rfl 0 rfl ?_
  refine V_callU (M := (mJ5_append_3fe6f c0 n6)) (wcs := [(q1, .inr (6, [.ref q9, .int cZ, .int i4, .int i5]))]) (wr := [(q9, .inl (E.2.2.1, c0, .inl z8))]) mf_J5_isLatin1_aae02 tw_633 tw_635 tw_634 tw_636 ⟨Nat.le_of_ble_eq_true rfl, Nat.le_of_ble_eq_true rfl⟩ (dJ5_append_3fe6f 7 rfl) 14 rfl (kJ5_isLatin1_aae02 hs q1 (.ref q9) i4 i5) rfl [0] [1] (q0 := 0) rfl rfl rfl rfl rfl rfl rfl (by decide) rfl (Nat.le_of_ble_eq_true rfl) (((c0 - c0) / 16)) (2 * (c0 - c0)) (show (((c0 - c0) / 16)) + 0 ≤ (((c0 - c0) / 16)) by omega) (show (2 * (c0 - c0)) + 0 ≤ (2 * (c0 - c0)) by omega) (fun z10 v w hz => ?_)
  obtain ⟨rfl, rfl⟩ := hz
  show V E K (mJ5_append_3fe6f c0 n6) (Qm E K (mJ5_append_3fe6f c0 n6) (zJ5_append_3fe6f E q1 i4 c0)) (((c0 - c0) / 16)) (2 * (c0 - c0)) [(q9, .inl (E.2.2.1, c0, .inl z8)), (q1, .inr (6, [.ref q9, .int cZ, .int i4, .int i5]))] 14 [(0, .ref q1), (1, .int i2)] [.int (1 : Int32)] _
  refine V_if_eq (dJ5_append_3fe6f 8 rfl) 45 (by decide) 17 rfl ?_ ?_
  · exact V_none
  · refine V_iload_n (dJ5_append_3fe6f 9 rfl) 18 rfl 1 rfl ?_
    refine V_callS (M := (mJ5_append_3fe6f c0 n6)) (wcs := []) (wr := [(q9, .inl (E.2.2.1, c0, .inl z8)), (q1, .inr (6, [.ref q9, .int cZ, .int i4, .int i5]))]) mf_J1_canEncode_fc78d tw_857 tw_858 ⟨Nat.le_of_ble_eq_true rfl, Nat.le_of_ble_eq_true rfl⟩ (dJ5_append_3fe6f 10 rfl) 21 rfl (kJ1_canEncode_fc78d hs i2) rfl [] [0, 1] rfl rfl rfl rfl (by decide) rfl (Nat.le_of_ble_eq_true rfl) (((c0 - c0) / 16)) (2 * (c0 - c0)) (show (((c0 - c0) / 16)) + 0 ≤ (((c0 - c0) / 16)) by omega) (show (2 * (c0 - c0)) + 0 ≤ (2 * (c0 - c0)) by omega) (fun z13 v w hz => ?_)
    obtain ⟨rfl, rfl⟩ := hz
    show V E K (mJ5_append_3fe6f c0 n6) (Qm E K (mJ5_append_3fe6f c0 n6) (zJ5_append_3fe6f E q1 i4 c0)) (((c0 - c0) / 16)) (2 * (c0 - c0)) [(q9, .inl (E.2.2.1, c0, .inl z8)), (q1, .inr (6, [.ref q9, .int cZ, .int i4, .int i5]))] 21 [(0, .ref q1), (1, .int i2)] [.int z13] _
    refine V_if_eq (dJ5_append_3fe6f 11 rfl) 45 (by decide) 24 rfl ?_ ?_
    · exact V_none
    · refine V_aload_n (dJ5_append_3fe6f 12 rfl) 25 rfl 0 rfl ?_
      refine V_get gf_A_15 1 rfl rfl (dJ5_append_3fe6f 13 rfl) 28 rfl ?_
      refine V_aload_n (dJ5_append_3fe6f 14 rfl) 29 rfl 0 rfl ?_
      refine V_dup rfl (dJ5_append_3fe6f 15 rfl) 30 rfl ?_
      refine V_get gf_A_79 1 rfl rfl (dJ5_append_3fe6f 16 rfl) 33 rfl ?_
      refine V_dup_x1 rfl rfl (dJ5_append_3fe6f 17 rfl) 34 rfl ?_
      refine V_iconst (1 : Int32) (by decide) (dJ5_append_3fe6f 18 rfl) 35 rfl ?_
      refine V_iadd (dJ5_append_3fe6f 19 rfl) 36 rfl ?_
      refine V_put pf_A_79 1 rfl rfl rfl (Nat.le_of_ble_eq_true rfl) (dJ5_append_3fe6f 20 rfl) 39 rfl [(q9, .inl (E.2.2.1, c0, .inl z8)), (q1, .inr (6, [.ref q9, .int cZ, .int i4, .int (i5 + (1 : Int32))]))] rfl ?_
      refine V_iload_n (dJ5_append_3fe6f 21 rfl) 40 rfl 1 rfl ?_
      refine V_i2b (dJ5_append_3fe6f 22 rfl) 41 rfl ?_
      refine V_bast 0 rfl (dJ5_append_3fe6f 23 rfl) 42 rfl [(q9, .inl (E.2.2.1, c0, .inl (upd z8 i5.toNatClampNeg (vp_nar .byte i2.toInt8.toInt32)))), (q1, .inr (6, [.ref q9, .int cZ, .int i4, .int (i5 + (1 : Int32))]))] rfl ?_
      refine V_goto (dJ5_append_3fe6f 24 rfl) 75 (by decide) ?_
      refine V_aload_n (dJ5_append_3fe6f 41 rfl) 76 rfl 0 rfl ?_
      refine V_world [1, 0] [(q1, .inr (6, [.ref q9, .int cZ, .int i4, .int (i5 + (1 : Int32))])), (q9, .inl (E.2.2.1, c0, .inl (upd z8 i5.toNatClampNeg (vp_nar .byte i2.toInt8.toInt32))))] rfl rfl rfl ?_
      exact V_aret rfl (Or.inl ⟨_, rfl⟩) (Or.inr ⟨_, rfl⟩) (dJ5_append_3fe6f 42 rfl) ⟨q9, rfl, rfl⟩)
set_option maxRecDepth 20000 in
theorem kJ4_append_cf468 {E : EX} {l : Launch} (hl : l.stackTraces = false) (q1 q3 : Nat) (i4 i5 : Int32) (n6 : Nat) (f7 : Nat → Int32) (i2 : Int32) (c0 : Nat) : Ct E l (mJ4_append_cf468 c0 n6) [.ref q1, .int i2] [(q1, .inr (6, [.ref q3, .int cZ, .int i4, .int i5])), (q3, .inl (E.2.2.1, n6, .inl f7))] (fJ4_append_cf468 i5 n6 f7 i2 c0) (zJ4_append_cf468 E q1 i4 c0) := Ct_of hl (mf_J4_append_cf468 c0 n6).1 (Nat.le_of_ble_eq_true rfl) (fun K hs => by
  refine V_less ((c0 - n6) / 16) (2 * (c0 - n6)) (Nat.le_refl _) (Nat.le_refl _) ?_
  refine V_pick [0, 1] [(0, .ref q1), (1, .int i2)] rfl ?_
  unfold fJ4_append_cf468
  refine V_aload_n (dJ4_append_cf468 0 rfl) 1 rfl 0 rfl ?_
  refine V_iload_n (dJ4_append_cf468 1 rfl) 2 rfl 1 rfl ?_
  refine V_callSU (M := (mJ4_append_cf468 c0 n6)) (wcs := [(q1, .inr (6, [.ref q3, .int cZ, .int i4, .int i5])), (q3, .inl (E.2.2.1, n6, .inl f7))]) (wr := []) (mf_J5_append_3fe6f c0 n6) tw_854 tw_1632 tw_238 tw_855 (show ("append" : String) ≠ "<init>" by decide) ⟨Nat.le_of_ble_eq_true rfl, Nat.le_of_ble_eq_true rfl⟩ (dJ4_append_cf468 2 rfl) 5 rfl (kJ5_append_3fe6f hs q1 q3 i4 i5 n6 f7 i2 c0) rfl [0, 1] [] (q0 := 0) rfl rfl rfl rfl rfl (by decide) rfl (Nat.le_of_ble_eq_true rfl) (((c0 - c0) / 16)) (2 * (c0 - c0)) (show (((c0 - c0) / 16)) + ((c0 - n6) / 16) ≤ (((c0 - n6) / 16)) by omega) (show (2 * (c0 - c0)) + 2 * (c0 - n6) ≤ (2 * (c0 - n6)) by omega) (fun z8 v w hz => ?_)
  obtain ⟨q9, rfl, rfl⟩ := hz
  show V E K (mJ4_append_cf468 c0 n6) (Qm E K (mJ4_append_cf468 c0 n6) (zJ4_append_cf468 E q1 i4 c0)) (((c0 - c0) / 16)) (2 * (c0 - c0)) [(q1, .inr (6, [.ref q9, .int cZ, .int i4, .int z8.1])), (q9, .inl (E.2.2.1, c0, .inl z8.2))] 5 [(0, .ref q1), (1, .int i2)] [.ref q1] _
  refine V_pop rfl (dJ4_append_cf468 3 rfl) 6 rfl ?_
  refine V_aload_n (dJ4_append_cf468 4 rfl) 7 rfl 0 rfl ?_
  exact V_aret rfl (Or.inl ⟨_, rfl⟩) (Or.inr ⟨_, rfl⟩) (dJ4_append_cf468 5 rfl) ⟨q9, rfl, rfl⟩)
set_option maxRecDepth 20000 in
theorem vBJ6_stringSize_0f7a4_L16 {E : EX} {K : KX} (hs : K.l.stackTraces = false)  (i5 i6 : Int32) (bc bs : Nat) (i12 i13 : Int32) {rec : Int32 → Int32 → Option (Int32)}  (hrec : ∀ (i12 i13 : Int32), V E K mJ6_stringSize_0f7a4 (Qm E K mJ6_stringSize_0f7a4 (zJ6_stringSize_0f7a4 E)) (bc) (bs) [] 16 [(0, .int i5), (1, .int i6), (2, .int i12), (3, .int i13)] [] (rec i12 i13))  : V E K mJ6_stringSize_0f7a4 (Qm E K mJ6_stringSize_0f7a4 (zJ6_stringSize_0f7a4 E)) (bc) (bs) [] 16 [(0, .int i5), (1, .int i6), (2, .int i12), (3, .int i13)] [] (BJ6_stringSize_0f7a4_L16  i5 i6 i12 i13 rec ) := by
  unfold BJ6_stringSize_0f7a4_L16
  refine V_iload_n (dJ6_stringSize_0f7a4 13 rfl) 17 rfl 3 rfl ?_
  refine V_bipush (10 : Int32) (by decide) (dJ6_stringSize_0f7a4 14 rfl) 19 rfl ?_
  refine V_icmp_ge (dJ6_stringSize_0f7a4 15 rfl) 42 (by decide) 22 rfl ?_ ?_
  · refine V_bipush (10 : Int32) (by decide) (dJ6_stringSize_0f7a4 29 rfl) 44 rfl ?_
    refine V_iload_n (dJ6_stringSize_0f7a4 30 rfl) 45 rfl 1 rfl ?_
    refine V_iadd (dJ6_stringSize_0f7a4 31 rfl) 46 rfl ?_
    exact V_iret rfl (dJ6_stringSize_0f7a4 32 rfl) ⟨rfl, rfl⟩
  · refine V_iload_n (dJ6_stringSize_0f7a4 16 rfl) 23 rfl 0 rfl ?_
    refine V_iload_n (dJ6_stringSize_0f7a4 17 rfl) 24 rfl 2 rfl ?_
    refine V_icmp_le (dJ6_stringSize_0f7a4 18 rfl) 31 (by decide) 27 rfl ?_ ?_
    · refine V_bipush (10 : Int32) (by decide) (dJ6_stringSize_0f7a4 23 rfl) 33 rfl ?_
      refine V_iload_n (dJ6_stringSize_0f7a4 24 rfl) 34 rfl 2 rfl ?_
      refine V_imul (dJ6_stringSize_0f7a4 25 rfl) 35 rfl ?_
      refine V_nmI (fun i14 => ?_)
      refine V_istore_n (dJ6_stringSize_0f7a4 26 rfl) 36 rfl [(0, .int i5), (1, .int i6), (2, .int i14), (3, .int i13)] (Nat.le_of_ble_eq_true rfl) rfl ?_
      refine V_iinc (dJ6_stringSize_0f7a4 27 rfl) 39 rfl 3 rfl (i13 + (1 : Int32)) rfl [(0, .int i5), (1, .int i6), (2, .int i14), (3, .int (i13 + (1 : Int32)))] (Nat.le_of_ble_eq_true rfl) rfl ?_
      refine V_goto (dJ6_stringSize_0f7a4 28 rfl) 16 (by decide) ?_
      exact hrec i14 (i13 + (1 : Int32))
    · refine V_iload_n (dJ6_stringSize_0f7a4 19 rfl) 28 rfl 3 rfl ?_
      refine V_iload_n (dJ6_stringSize_0f7a4 20 rfl) 29 rfl 1 rfl ?_
      refine V_iadd (dJ6_stringSize_0f7a4 21 rfl) 30 rfl ?_
      exact V_iret rfl (dJ6_stringSize_0f7a4 22 rfl) ⟨rfl, rfl⟩
set_option maxRecDepth 20000 in
theorem vLJ6_stringSize_0f7a4_L16 {E : EX} {K : KX} (hs : K.l.stackTraces = false)  (i5 i6 : Int32) (bc bs : Nat)   : ∀ (n : Nat) (i12 i13 : Int32), V E K mJ6_stringSize_0f7a4 (Qm E K mJ6_stringSize_0f7a4 (zJ6_stringSize_0f7a4 E)) (bc) (bs) [] 16 [(0, .int i5), (1, .int i6), (2, .int i12), (3, .int i13)] [] (LJ6_stringSize_0f7a4_L16  i5 i6 n i12 i13 )
  | 0, _, _ => V_none
  | n + 1, i12, i13 => vBJ6_stringSize_0f7a4_L16 hs i5 i6 bc bs i12 i13 (fun i12 i13 => vLJ6_stringSize_0f7a4_L16 hs i5 i6 bc bs  n i12 i13) 
set_option maxRecDepth 20000 in
theorem kJ6_stringSize_0f7a4 {E : EX} {l : Launch} (hl : l.stackTraces = false)  (i1 : Int32) : Ct E l mJ6_stringSize_0f7a4 [.int i1] [] (fJ6_stringSize_0f7a4 i1) (zJ6_stringSize_0f7a4 E) := Ct_of hl mf_J6_stringSize_0f7a4.1 (Nat.le_of_ble_eq_true rfl) (fun K hs => by
  refine V_less 0 0 (Nat.le_refl _) (Nat.le_refl _) ?_
  refine V_pick [0] [(0, .int i1)] rfl ?_
  unfold fJ6_stringSize_0f7a4
  refine V_iconst (1 : Int32) (by decide) (dJ6_stringSize_0f7a4 0 rfl) 1 rfl ?_
  refine V_istore_n (dJ6_stringSize_0f7a4 1 rfl) 2 rfl [(0, .int i1), (1, .int (1 : Int32))] (Nat.le_of_ble_eq_true rfl) rfl ?_
  refine V_iload_n (dJ6_stringSize_0f7a4 2 rfl) 3 rfl 0 rfl ?_
  refine V_jn (fun (k2 : Int32 → Int32 → Option (Int32)) => ∀ (i5 i6 : Int32), V E K mJ6_stringSize_0f7a4 (Qm E K mJ6_stringSize_0f7a4 (zJ6_stringSize_0f7a4 E)) 0 0 [] 11 [(0, .int i5), (1, .int i6)] [] (k2 i5 i6)) ?_ ?_
  · intro i5 i6
    show V E K mJ6_stringSize_0f7a4 (Qm E K mJ6_stringSize_0f7a4 (zJ6_stringSize_0f7a4 E)) 0 0 [] 11 [(0, .int i5), (1, .int i6)] [] _
    refine V_bipush (-10 : Int32) (by decide) (dJ6_stringSize_0f7a4 9 rfl) 13 rfl ?_
    refine V_istore_n (dJ6_stringSize_0f7a4 10 rfl) 14 rfl [(0, .int i5), (1, .int i6), (2, .int (-10 : Int32))] (Nat.le_of_ble_eq_true rfl) rfl ?_
    refine V_iconst (1 : Int32) (by decide) (dJ6_stringSize_0f7a4 11 rfl) 15 rfl ?_
    refine V_istore_n (dJ6_stringSize_0f7a4 12 rfl) 16 rfl [(0, .int i5), (1, .int i6), (2, .int (-10 : Int32)), (3, .int (1 : Int32))] (Nat.le_of_ble_eq_true rfl) rfl ?_
    refine vLJ6_stringSize_0f7a4_L16 hs  i5 i6 0 0  12 (-10 : Int32) (1 : Int32)
  · intro k2 hk3
    refine V_if_lt (dJ6_stringSize_0f7a4 3 rfl) 11 (by decide) 6 rfl ?_ ?_
    · exact hk3 i1 (1 : Int32)
    · refine V_iconst (0 : Int32) (by decide) (dJ6_stringSize_0f7a4 4 rfl) 7 rfl ?_
      refine V_istore_n (dJ6_stringSize_0f7a4 5 rfl) 8 rfl [(0, .int i1), (1, .int (0 : Int32))] (Nat.le_of_ble_eq_true rfl) rfl ?_
      refine V_iload_n (dJ6_stringSize_0f7a4 6 rfl) 9 rfl 0 rfl ?_
      refine V_ineg (dJ6_stringSize_0f7a4 7 rfl) 10 rfl ?_
      refine V_nmI (fun i4 => ?_)
      refine V_istore_n (dJ6_stringSize_0f7a4 8 rfl) 11 rfl [(0, .int i4), (1, .int (0 : Int32))] (Nat.le_of_ble_eq_true rfl) rfl ?_
      exact hk3 i4 (0 : Int32))
set_option maxRecDepth 20000 in
theorem vBJ6_getChars_ba4f3_L22 {E : EX} {K : KX} (hs : K.l.stackTraces = false) (q3 : Nat) (n4 : Nat) (i8 : Int32) (bc bs : Nat) (i16 i17 : Int32) (f18 : Nat → Int32) {rec : Int32 → Int32 → (Nat → Int32) → Option (Int32 × (Nat → Int32))} {k1 : Int32 → Int32 → (Nat → Int32) → Option (Int32 × (Nat → Int32))} (hrec : ∀ (i16 i17 : Int32) (f18 : Nat → Int32), V E K mJ6_getChars_ba4f3 (Qm E K mJ6_getChars_ba4f3 (zJ6_getChars_ba4f3 E q3 n4)) (bc) (bs) [(q3, .inl (E.2.2.1, n4, .inl f18))] 22 [(0, .int i16), (2, .ref q3), (5, .int i17), (6, .int i8)] [] (rec i16 i17 f18)) (hk1 : ∀ (i21 i22 : Int32) (f23 : Nat → Int32), V E K mJ6_getChars_ba4f3 (Qm E K mJ6_getChars_ba4f3 (zJ6_getChars_ba4f3 E q3 n4)) (bc) (bs) [(q3, .inl (E.2.2.1, n4, .inl f23))] 72 [(0, .int i21), (2, .ref q3), (5, .int i22), (6, .int i8)] [] (k1 i21 i22 f23)) : V E K mJ6_getChars_ba4f3 (Qm E K mJ6_getChars_ba4f3 (zJ6_getChars_ba4f3 E q3 n4)) (bc) (bs) [(q3, .inl (E.2.2.1, n4, .inl f18))] 22 [(0, .int i16), (2, .ref q3), (5, .int i17), (6, .int i8)] [] (BJ6_getChars_ba4f3_L22  n4 i16 i17 f18 rec k1) := by
  unfold BJ6_getChars_ba4f3_L22
  refine V_iload_n (dJ6_getChars_ba4f3_p0 13 rfl) 23 rfl 0 rfl ?_
  refine V_bipush (-100 : Int32) (by decide) (dJ6_getChars_ba4f3_p0 14 rfl) 25 rfl ?_
  refine V_icmp_gt (dJ6_getChars_ba4f3_p0 15 rfl) 72 (by decide) 28 rfl ?_ ?_
  · exact hk1 i16 i17 f18
  · refine V_iload_n (dJ6_getChars_ba4f3_p0 16 rfl) 29 rfl 0 rfl ?_
    refine V_bipush (100 : Int32) (by decide) (dJ6_getChars_ba4f3_p0 17 rfl) 31 rfl ?_
    refine V_idiv (by decide) (dJ6_getChars_ba4f3_p0 18 rfl) 32 rfl ?_
    refine V_nmI (fun i19 => ?_)
    refine V_istore_n (dJ6_getChars_ba4f3_p0 19 rfl) 33 rfl [(0, .int i16), (2, .ref q3), (3, .int i19), (5, .int i17), (6, .int i8)] (Nat.le_of_ble_eq_true rfl) rfl ?_
    refine V_iload_n (dJ6_getChars_ba4f3_p0 20 rfl) 34 rfl 2 rfl ?_
    refine V_bipush (100 : Int32) (by decide) (dJ6_getChars_ba4f3_p0 21 rfl) 36 rfl ?_
    refine V_imul (dJ6_getChars_ba4f3_p0 22 rfl) 37 rfl ?_
    refine V_iload_n (dJ6_getChars_ba4f3_p0 23 rfl) 38 rfl 0 rfl ?_
    refine V_isub (dJ6_getChars_ba4f3_p0 24 rfl) 39 rfl ?_
    refine V_nmI (fun i20 => ?_)
    refine V_istore (dJ6_getChars_ba4f3_p0 25 rfl) 41 rfl [(0, .int i16), (2, .ref q3), (3, .int i19), (4, .int i20), (5, .int i17), (6, .int i8)] (Nat.le_of_ble_eq_true rfl) rfl ?_
    refine V_iload_n (dJ6_getChars_ba4f3_p0 26 rfl) 42 rfl 2 rfl ?_
    refine V_istore_n (dJ6_getChars_ba4f3_p0 27 rfl) 43 rfl [(0, .int i19), (2, .ref q3), (3, .int i19), (4, .int i20), (5, .int i17), (6, .int i8)] (Nat.le_of_ble_eq_true rfl) rfl ?_
    refine V_aload_n (dJ6_getChars_ba4f3_p0 28 rfl) 44 rfl 1 rfl ?_
    refine V_iinc (dJ6_getChars_ba4f3_p0 29 rfl) 47 rfl 4 rfl (i17 + (-1 : Int32)) rfl [(0, .int i19), (2, .ref q3), (3, .int i19), (4, .int i20), (5, .int (i17 + (-1 : Int32))), (6, .int i8)] (Nat.le_of_ble_eq_true rfl) rfl ?_
    refine V_iload (dJ6_getChars_ba4f3_p0 30 rfl) 49 rfl 4 rfl ?_
    refine V_getsO tw_720 (dJ6_getChars_ba4f3_p0 31 rfl) 52 rfl ?_
    refine V_iload (dJ6_getChars_ba4f3_p0 32 rfl) 54 rfl 3 rfl ?_
    refine V_tbO (dJ6_getChars_ba4f3_p0 33 rfl) 55 rfl ?_
    refine V_bast 0 rfl (dJ6_getChars_ba4f3_p0 34 rfl) 56 rfl [(q3, .inl (E.2.2.1, n4, .inl (upd f18 (i17 + (-1 : Int32)).toNatClampNeg (vp_nar .byte (nI (48 + i20.toNatClampNeg % 10))))))] rfl ?_
    refine V_aload_n (dJ6_getChars_ba4f3_p0 35 rfl) 57 rfl 1 rfl ?_
    refine V_iinc (dJ6_getChars_ba4f3_p0 36 rfl) 60 rfl 4 rfl ((i17 + (-1 : Int32)) + (-1 : Int32)) rfl [(0, .int i19), (2, .ref q3), (3, .int i19), (4, .int i20), (5, .int ((i17 + (-1 : Int32)) + (-1 : Int32))), (6, .int i8)] (Nat.le_of_ble_eq_true rfl) rfl ?_
    refine V_iload (dJ6_getChars_ba4f3_p0 37 rfl) 62 rfl 4 rfl ?_
    refine V_getsT tw_722 (dJ6_getChars_ba4f3_p0 38 rfl) 65 rfl ?_
    refine V_iload (dJ6_getChars_ba4f3_p0 39 rfl) 67 rfl 3 rfl ?_
    refine V_tbT (dJ6_getChars_ba4f3_p0 40 rfl) 68 rfl ?_
    refine V_bast 0 rfl (dJ6_getChars_ba4f3_p0 41 rfl) 69 rfl [(q3, .inl (E.2.2.1, n4, .inl (upd (upd f18 (i17 + (-1 : Int32)).toNatClampNeg (vp_nar .byte (nI (48 + i20.toNatClampNeg % 10)))) ((i17 + (-1 : Int32)) + (-1 : Int32)).toNatClampNeg (vp_nar .byte (nI (48 + i20.toNatClampNeg / 10))))))] rfl ?_
    refine V_goto (dJ6_getChars_ba4f3_p0 42 rfl) 22 (by decide) ?_
    refine V_pick [0, 1, 4, 5] [(0, .int i19), (2, .ref q3), (5, .int ((i17 + (-1 : Int32)) + (-1 : Int32))), (6, .int i8)] rfl ?_
    exact hrec i19 ((i17 + (-1 : Int32)) + (-1 : Int32)) (upd (upd f18 (i17 + (-1 : Int32)).toNatClampNeg (vp_nar .byte (nI (48 + i20.toNatClampNeg % 10)))) ((i17 + (-1 : Int32)) + (-1 : Int32)).toNatClampNeg (vp_nar .byte (nI (48 + i20.toNatClampNeg / 10))))
set_option maxRecDepth 20000 in
theorem vLJ6_getChars_ba4f3_L22 {E : EX} {K : KX} (hs : K.l.stackTraces = false) (q3 : Nat) (n4 : Nat) (i8 : Int32) (bc bs : Nat) {k1 : Int32 → Int32 → (Nat → Int32) → Option (Int32 × (Nat → Int32))} (hk1 : ∀ (i21 i22 : Int32) (f23 : Nat → Int32), V E K mJ6_getChars_ba4f3 (Qm E K mJ6_getChars_ba4f3 (zJ6_getChars_ba4f3 E q3 n4)) (bc) (bs) [(q3, .inl (E.2.2.1, n4, .inl f23))] 72 [(0, .int i21), (2, .ref q3), (5, .int i22), (6, .int i8)] [] (k1 i21 i22 f23)) : ∀ (n : Nat) (i16 i17 : Int32) (f18 : Nat → Int32), V E K mJ6_getChars_ba4f3 (Qm E K mJ6_getChars_ba4f3 (zJ6_getChars_ba4f3 E q3 n4)) (bc) (bs) [(q3, .inl (E.2.2.1, n4, .inl f18))] 22 [(0, .int i16), (2, .ref q3), (5, .int i17), (6, .int i8)] [] (LJ6_getChars_ba4f3_L22  n4 n i16 i17 f18 k1)
  | 0, _, _, _ => V_none
  | n + 1, i16, i17, f18 => vBJ6_getChars_ba4f3_L22 hs q3 n4 i8 bc bs i16 i17 f18 (fun i16 i17 f18 => vLJ6_getChars_ba4f3_L22 hs q3 n4 i8 bc bs hk1 n i16 i17 f18) hk1
set_option maxRecDepth 20000 in
theorem vBJ6_getChars_ba4f3_L22_1 {E : EX} {K : KX} (hs : K.l.stackTraces = false) (q3 : Nat) (n4 : Nat) (i8 : Int32) (bc bs : Nat) (i36 i37 : Int32) (f38 : Nat → Int32) {rec : Int32 → Int32 → (Nat → Int32) → Option (Int32 × (Nat → Int32))} {k1 : Int32 → Int32 → (Nat → Int32) → Option (Int32 × (Nat → Int32))} (hrec : ∀ (i36 i37 : Int32) (f38 : Nat → Int32), V E K mJ6_getChars_ba4f3 (Qm E K mJ6_getChars_ba4f3 (zJ6_getChars_ba4f3 E q3 n4)) (bc) (bs) [(q3, .inl (E.2.2.1, n4, .inl f38))] 22 [(0, .int i36), (2, .ref q3), (5, .int i37), (6, .int i8)] [] (rec i36 i37 f38)) (hk1 : ∀ (i41 i42 : Int32) (f43 : Nat → Int32), V E K mJ6_getChars_ba4f3 (Qm E K mJ6_getChars_ba4f3 (zJ6_getChars_ba4f3 E q3 n4)) (bc) (bs) [(q3, .inl (E.2.2.1, n4, .inl f43))] 72 [(0, .int i41), (2, .ref q3), (5, .int i42), (6, .int i8)] [] (k1 i41 i42 f43)) : V E K mJ6_getChars_ba4f3 (Qm E K mJ6_getChars_ba4f3 (zJ6_getChars_ba4f3 E q3 n4)) (bc) (bs) [(q3, .inl (E.2.2.1, n4, .inl f38))] 22 [(0, .int i36), (2, .ref q3), (5, .int i37), (6, .int i8)] [] (BJ6_getChars_ba4f3_L22_1  n4 i36 i37 f38 rec k1) := by
  unfold BJ6_getChars_ba4f3_L22_1
  refine V_iload_n (dJ6_getChars_ba4f3_p0 13 rfl) 23 rfl 0 rfl ?_
  refine V_bipush (-100 : Int32) (by decide) (dJ6_getChars_ba4f3_p0 14 rfl) 25 rfl ?_
  refine V_icmp_gt (dJ6_getChars_ba4f3_p0 15 rfl) 72 (by decide) 28 rfl ?_ ?_
  · exact hk1 i36 i37 f38
  · refine V_iload_n (dJ6_getChars_ba4f3_p0 16 rfl) 29 rfl 0 rfl ?_
    refine V_bipush (100 : Int32) (by decide) (dJ6_getChars_ba4f3_p0 17 rfl) 31 rfl ?_
    refine V_idiv (by decide) (dJ6_getChars_ba4f3_p0 18 rfl) 32 rfl ?_
    refine V_nmI (fun i39 => ?_)
    refine V_istore_n (dJ6_getChars_ba4f3_p0 19 rfl) 33 rfl [(0, .int i36), (2, .ref q3), (3, .int i39), (5, .int i37), (6, .int i8)] (Nat.le_of_ble_eq_true rfl) rfl ?_
    refine V_iload_n (dJ6_getChars_ba4f3_p0 20 rfl) 34 rfl 2 rfl ?_
    refine V_bipush (100 : Int32) (by decide) (dJ6_getChars_ba4f3_p0 21 rfl) 36 rfl ?_
    refine V_imul (dJ6_getChars_ba4f3_p0 22 rfl) 37 rfl ?_
    refine V_iload_n (dJ6_getChars_ba4f3_p0 23 rfl) 38 rfl 0 rfl ?_
    refine V_isub (dJ6_getChars_ba4f3_p0 24 rfl) 39 rfl ?_
    refine V_nmI (fun i40 => ?_)
    refine V_istore (dJ6_getChars_ba4f3_p0 25 rfl) 41 rfl [(0, .int i36), (2, .ref q3), (3, .int i39), (4, .int i40), (5, .int i37), (6, .int i8)] (Nat.le_of_ble_eq_true rfl) rfl ?_
    refine V_iload_n (dJ6_getChars_ba4f3_p0 26 rfl) 42 rfl 2 rfl ?_
    refine V_istore_n (dJ6_getChars_ba4f3_p0 27 rfl) 43 rfl [(0, .int i39), (2, .ref q3), (3, .int i39), (4, .int i40), (5, .int i37), (6, .int i8)] (Nat.le_of_ble_eq_true rfl) rfl ?_
    refine V_aload_n (dJ6_getChars_ba4f3_p0 28 rfl) 44 rfl 1 rfl ?_
    refine V_iinc (dJ6_getChars_ba4f3_p0 29 rfl) 47 rfl 4 rfl (i37 + (-1 : Int32)) rfl [(0, .int i39), (2, .ref q3), (3, .int i39), (4, .int i40), (5, .int (i37 + (-1 : Int32))), (6, .int i8)] (Nat.le_of_ble_eq_true rfl) rfl ?_
    refine V_iload (dJ6_getChars_ba4f3_p0 30 rfl) 49 rfl 4 rfl ?_
    refine V_getsO tw_720 (dJ6_getChars_ba4f3_p0 31 rfl) 52 rfl ?_
    refine V_iload (dJ6_getChars_ba4f3_p0 32 rfl) 54 rfl 3 rfl ?_
    refine V_tbO (dJ6_getChars_ba4f3_p0 33 rfl) 55 rfl ?_
    refine V_bast 0 rfl (dJ6_getChars_ba4f3_p0 34 rfl) 56 rfl [(q3, .inl (E.2.2.1, n4, .inl (upd f38 (i37 + (-1 : Int32)).toNatClampNeg (vp_nar .byte (nI (48 + i40.toNatClampNeg % 10))))))] rfl ?_
    refine V_aload_n (dJ6_getChars_ba4f3_p0 35 rfl) 57 rfl 1 rfl ?_
    refine V_iinc (dJ6_getChars_ba4f3_p0 36 rfl) 60 rfl 4 rfl ((i37 + (-1 : Int32)) + (-1 : Int32)) rfl [(0, .int i39), (2, .ref q3), (3, .int i39), (4, .int i40), (5, .int ((i37 + (-1 : Int32)) + (-1 : Int32))), (6, .int i8)] (Nat.le_of_ble_eq_true rfl) rfl ?_
    refine V_iload (dJ6_getChars_ba4f3_p0 37 rfl) 62 rfl 4 rfl ?_
    refine V_getsT tw_722 (dJ6_getChars_ba4f3_p0 38 rfl) 65 rfl ?_
    refine V_iload (dJ6_getChars_ba4f3_p0 39 rfl) 67 rfl 3 rfl ?_
    refine V_tbT (dJ6_getChars_ba4f3_p0 40 rfl) 68 rfl ?_
    refine V_bast 0 rfl (dJ6_getChars_ba4f3_p0 41 rfl) 69 rfl [(q3, .inl (E.2.2.1, n4, .inl (upd (upd f38 (i37 + (-1 : Int32)).toNatClampNeg (vp_nar .byte (nI (48 + i40.toNatClampNeg % 10)))) ((i37 + (-1 : Int32)) + (-1 : Int32)).toNatClampNeg (vp_nar .byte (nI (48 + i40.toNatClampNeg / 10))))))] rfl ?_
    refine V_goto (dJ6_getChars_ba4f3_p0 42 rfl) 22 (by decide) ?_
    refine V_pick [0, 1, 4, 5] [(0, .int i39), (2, .ref q3), (5, .int ((i37 + (-1 : Int32)) + (-1 : Int32))), (6, .int i8)] rfl ?_
    exact hrec i39 ((i37 + (-1 : Int32)) + (-1 : Int32)) (upd (upd f38 (i37 + (-1 : Int32)).toNatClampNeg (vp_nar .byte (nI (48 + i40.toNatClampNeg % 10)))) ((i37 + (-1 : Int32)) + (-1 : Int32)).toNatClampNeg (vp_nar .byte (nI (48 + i40.toNatClampNeg / 10))))
set_option maxRecDepth 20000 in
theorem vLJ6_getChars_ba4f3_L22_1 {E : EX} {K : KX} (hs : K.l.stackTraces = false) (q3 : Nat) (n4 : Nat) (i8 : Int32) (bc bs : Nat) {k1 : Int32 → Int32 → (Nat → Int32) → Option (Int32 × (Nat → Int32))} (hk1 : ∀ (i41 i42 : Int32) (f43 : Nat → Int32), V E K mJ6_getChars_ba4f3 (Qm E K mJ6_getChars_ba4f3 (zJ6_getChars_ba4f3 E q3 n4)) (bc) (bs) [(q3, .inl (E.2.2.1, n4, .inl f43))] 72 [(0, .int i41), (2, .ref q3), (5, .int i42), (6, .int i8)] [] (k1 i41 i42 f43)) : ∀ (n : Nat) (i36 i37 : Int32) (f38 : Nat → Int32), V E K mJ6_getChars_ba4f3 (Qm E K mJ6_getChars_ba4f3 (zJ6_getChars_ba4f3 E q3 n4)) (bc) (bs) [(q3, .inl (E.2.2.1, n4, .inl f38))] 22 [(0, .int i36), (2, .ref q3), (5, .int i37), (6, .int i8)] [] (LJ6_getChars_ba4f3_L22_1  n4 n i36 i37 f38 k1)
  | 0, _, _, _ => V_none
  | n + 1, i36, i37, f38 => vBJ6_getChars_ba4f3_L22_1 hs q3 n4 i8 bc bs i36 i37 f38 (fun i36 i37 f38 => vLJ6_getChars_ba4f3_L22_1 hs q3 n4 i8 bc bs hk1 n i36 i37 f38) hk1
set_option maxRecDepth 20000 in
theorem kJ6_getChars_ba4f3 {E : EX} {l : Launch} (hl : l.stackTraces = false) (q3 : Nat) (n4 : Nat) (f5 : Nat → Int32) (i1 i2 : Int32) : Ct E l mJ6_getChars_ba4f3 [.int i1, .int i2, .ref q3] [(q3, .inl (E.2.2.1, n4, .inl f5))] (fJ6_getChars_ba4f3 n4 f5 i1 i2) (zJ6_getChars_ba4f3 E q3 n4) := Ct_of hl mf_J6_getChars_ba4f3.1 (Nat.le_of_ble_eq_true rfl) (fun K hs => by
  refine V_less 0 0 (Nat.le_refl _) (Nat.le_refl _) ?_
  refine V_pick [0, 1, 2] [(0, .int i1), (1, .int i2), (2, .ref q3)] rfl ?_
  unfold fJ6_getChars_ba4f3
  refine V_iload_n (dJ6_getChars_ba4f3_p0 0 rfl) 1 rfl 1 rfl ?_
  refine V_istore (dJ6_getChars_ba4f3_p0 1 rfl) 3 rfl [(0, .int i1), (1, .int i2), (2, .ref q3), (5, .int i2)] (Nat.le_of_ble_eq_true rfl) rfl ?_
  refine V_iload_n (dJ6_getChars_ba4f3_p0 2 rfl) 4 rfl 0 rfl ?_
  refine V_jn (fun (k6 : Int32 → Option (Int32 × (Nat → Int32))) => ∀ (i8 : Int32), V E K mJ6_getChars_ba4f3 (Qm E K mJ6_getChars_ba4f3 (zJ6_getChars_ba4f3 E q3 n4)) 0 0 [(q3, .inl (E.2.2.1, n4, .inl f5))] 12 [(0, .int i1), (2, .ref q3), (5, .int i2)] [.int i8] (k6 i8)) ?_ ?_
  · intro i8
    show V E K mJ6_getChars_ba4f3 (Qm E K mJ6_getChars_ba4f3 (zJ6_getChars_ba4f3 E q3 n4)) 0 0 [(q3, .inl (E.2.2.1, n4, .inl f5))] 12 [(0, .int i1), (2, .ref q3), (5, .int i2)] [.int i8] _
    refine V_istore (dJ6_getChars_ba4f3_p0 7 rfl) 14 rfl [(0, .int i1), (2, .ref q3), (5, .int i2), (6, .int i8)] (Nat.le_of_ble_eq_true rfl) rfl ?_
    refine V_iload (dJ6_getChars_ba4f3_p0 8 rfl) 16 rfl 3 rfl ?_
    refine V_if_ne (dJ6_getChars_ba4f3_p0 9 rfl) 22 (by decide) 19 rfl ?_ ?_
    · refine vLJ6_getChars_ba4f3_L22 hs q3 n4 i8 0 0 ?_ 12 i1 i2 f5
      intro i21 i22 f23
      show V E K mJ6_getChars_ba4f3 (Qm E K mJ6_getChars_ba4f3 (zJ6_getChars_ba4f3 E q3 n4)) 0 0 [(q3, .inl (E.2.2.1, n4, .inl f23))] 72 [(0, .int i21), (2, .ref q3), (5, .int i22), (6, .int i8)] [] _
      refine V_aload_n (dJ6_getChars_ba4f3_p0 43 rfl) 73 rfl 1 rfl ?_
      refine V_iinc (dJ6_getChars_ba4f3_p0 44 rfl) 76 rfl 2 rfl (i22 + (-1 : Int32)) rfl [(0, .int i21), (2, .ref q3), (5, .int (i22 + (-1 : Int32))), (6, .int i8)] (Nat.le_of_ble_eq_true rfl) rfl ?_
      refine V_iload (dJ6_getChars_ba4f3_p0 45 rfl) 78 rfl 2 rfl ?_
      refine V_getsO tw_720 (dJ6_getChars_ba4f3_p0 46 rfl) 81 rfl ?_
      refine V_iload_n (dJ6_getChars_ba4f3_p0 47 rfl) 82 rfl 0 rfl ?_
      refine V_ineg (dJ6_getChars_ba4f3_p0 48 rfl) 83 rfl ?_
      refine V_tbO (dJ6_getChars_ba4f3_p0 49 rfl) 84 rfl ?_
      refine V_bast 0 rfl (dJ6_getChars_ba4f3_p0 50 rfl) 85 rfl [(q3, .inl (E.2.2.1, n4, .inl (upd f23 (i22 + (-1 : Int32)).toNatClampNeg (vp_nar .byte (nI (48 + (-i21).toNatClampNeg % 10))))))] rfl ?_
      refine V_iload_n (dJ6_getChars_ba4f3_p0 51 rfl) 86 rfl 0 rfl ?_
      refine V_bipush (-9 : Int32) (by decide) (dJ6_getChars_ba4f3_p0 52 rfl) 88 rfl ?_
      refine V_jn (fun (k24 : Int32 → (Nat → Int32) → Option (Int32 × (Nat → Int32))) => ∀ (i26 : Int32) (f27 : Nat → Int32), V E K mJ6_getChars_ba4f3 (Qm E K mJ6_getChars_ba4f3 (zJ6_getChars_ba4f3 E q3 n4)) 0 0 [(q3, .inl (E.2.2.1, n4, .inl f27))] 104 [(2, .ref q3), (5, .int i26), (6, .int i8)] [] (k24 i26 f27)) ?_ ?_
      · intro i26 f27
        show V E K mJ6_getChars_ba4f3 (Qm E K mJ6_getChars_ba4f3 (zJ6_getChars_ba4f3 E q3 n4)) 0 0 [(q3, .inl (E.2.2.1, n4, .inl f27))] 104 [(2, .ref q3), (5, .int i26), (6, .int i8)] [] _
        refine V_iload (dJ6_getChars_ba4f3_p0 62 rfl) 106 rfl 2 rfl ?_
        refine V_if_eq (dJ6_getChars_ba4f3_p0 63 rfl) 118 (by decide) 109 rfl ?_ ?_
        · refine V_iload (dJ6_getChars_ba4f3_p0 69 rfl) 120 rfl 1 rfl ?_
          exact V_iret rfl (dJ6_getChars_ba4f3_p1 0 rfl) ⟨rfl, rfl⟩
        · refine V_aload_n (dJ6_getChars_ba4f3_p0 64 rfl) 110 rfl 0 rfl ?_
          refine V_iinc (dJ6_getChars_ba4f3_p0 65 rfl) 113 rfl 1 rfl (i26 + (-1 : Int32)) rfl [(2, .ref q3), (5, .int (i26 + (-1 : Int32))), (6, .int i8)] (Nat.le_of_ble_eq_true rfl) rfl ?_
          refine V_iload (dJ6_getChars_ba4f3_p0 66 rfl) 115 rfl 1 rfl ?_
          refine V_bipush (45 : Int32) (by decide) (dJ6_getChars_ba4f3_p0 67 rfl) 117 rfl ?_
          refine V_bast 0 rfl (dJ6_getChars_ba4f3_p0 68 rfl) 118 rfl [(q3, .inl (E.2.2.1, n4, .inl (upd f27 (i26 + (-1 : Int32)).toNatClampNeg (vp_nar .byte (45 : Int32)))))] rfl ?_
          refine V_iload (dJ6_getChars_ba4f3_p0 69 rfl) 120 rfl 1 rfl ?_
          exact V_iret rfl (dJ6_getChars_ba4f3_p1 0 rfl) ⟨rfl, rfl⟩
      · intro k24 hk25
        refine V_icmp_ge (dJ6_getChars_ba4f3_p0 53 rfl) 104 (by decide) 91 rfl ?_ ?_
        · refine V_pick [1, 2, 3] [(2, .ref q3), (5, .int (i22 + (-1 : Int32))), (6, .int i8)] rfl ?_
          exact hk25 (i22 + (-1 : Int32)) (upd f23 (i22 + (-1 : Int32)).toNatClampNeg (vp_nar .byte (nI (48 + (-i21).toNatClampNeg % 10))))
        · refine V_aload_n (dJ6_getChars_ba4f3_p0 54 rfl) 92 rfl 1 rfl ?_
          refine V_iinc (dJ6_getChars_ba4f3_p0 55 rfl) 95 rfl 2 rfl ((i22 + (-1 : Int32)) + (-1 : Int32)) rfl [(0, .int i21), (2, .ref q3), (5, .int ((i22 + (-1 : Int32)) + (-1 : Int32))), (6, .int i8)] (Nat.le_of_ble_eq_true rfl) rfl ?_
          refine V_iload (dJ6_getChars_ba4f3_p0 56 rfl) 97 rfl 2 rfl ?_
          refine V_getsT tw_722 (dJ6_getChars_ba4f3_p0 57 rfl) 100 rfl ?_
          refine V_iload_n (dJ6_getChars_ba4f3_p0 58 rfl) 101 rfl 0 rfl ?_
          refine V_ineg (dJ6_getChars_ba4f3_p0 59 rfl) 102 rfl ?_
          refine V_tbT (dJ6_getChars_ba4f3_p0 60 rfl) 103 rfl ?_
          refine V_bast 0 rfl (dJ6_getChars_ba4f3_p0 61 rfl) 104 rfl [(q3, .inl (E.2.2.1, n4, .inl (upd (upd f23 (i22 + (-1 : Int32)).toNatClampNeg (vp_nar .byte (nI (48 + (-i21).toNatClampNeg % 10)))) ((i22 + (-1 : Int32)) + (-1 : Int32)).toNatClampNeg (vp_nar .byte (nI (48 + (-i21).toNatClampNeg / 10))))))] rfl ?_
          refine V_pick [1, 2, 3] [(2, .ref q3), (5, .int ((i22 + (-1 : Int32)) + (-1 : Int32))), (6, .int i8)] rfl ?_
          exact hk25 ((i22 + (-1 : Int32)) + (-1 : Int32)) (upd (upd f23 (i22 + (-1 : Int32)).toNatClampNeg (vp_nar .byte (nI (48 + (-i21).toNatClampNeg % 10)))) ((i22 + (-1 : Int32)) + (-1 : Int32)).toNatClampNeg (vp_nar .byte (nI (48 + (-i21).toNatClampNeg / 10))))
    · refine V_iload_n (dJ6_getChars_ba4f3_p0 10 rfl) 20 rfl 0 rfl ?_
      refine V_ineg (dJ6_getChars_ba4f3_p0 11 rfl) 21 rfl ?_
      refine V_nmI (fun i28 => ?_)
      refine V_istore_n (dJ6_getChars_ba4f3_p0 12 rfl) 22 rfl [(0, .int i28), (2, .ref q3), (5, .int i2), (6, .int i8)] (Nat.le_of_ble_eq_true rfl) rfl ?_
      refine vLJ6_getChars_ba4f3_L22_1 hs q3 n4 i8 0 0 ?_ 12 i28 i2 f5
      intro i41 i42 f43
      show V E K mJ6_getChars_ba4f3 (Qm E K mJ6_getChars_ba4f3 (zJ6_getChars_ba4f3 E q3 n4)) 0 0 [(q3, .inl (E.2.2.1, n4, .inl f43))] 72 [(0, .int i41), (2, .ref q3), (5, .int i42), (6, .int i8)] [] _
      refine V_aload_n (dJ6_getChars_ba4f3_p0 43 rfl) 73 rfl 1 rfl ?_
      refine V_iinc (dJ6_getChars_ba4f3_p0 44 rfl) 76 rfl 2 rfl (i42 + (-1 : Int32)) rfl [(0, .int i41), (2, .ref q3), (5, .int (i42 + (-1 : Int32))), (6, .int i8)] (Nat.le_of_ble_eq_true rfl) rfl ?_
      refine V_iload (dJ6_getChars_ba4f3_p0 45 rfl) 78 rfl 2 rfl ?_
      refine V_getsO tw_720 (dJ6_getChars_ba4f3_p0 46 rfl) 81 rfl ?_
      refine V_iload_n (dJ6_getChars_ba4f3_p0 47 rfl) 82 rfl 0 rfl ?_
      refine V_ineg (dJ6_getChars_ba4f3_p0 48 rfl) 83 rfl ?_
      refine V_tbO (dJ6_getChars_ba4f3_p0 49 rfl) 84 rfl ?_
      refine V_bast 0 rfl (dJ6_getChars_ba4f3_p0 50 rfl) 85 rfl [(q3, .inl (E.2.2.1, n4, .inl (upd f43 (i42 + (-1 : Int32)).toNatClampNeg (vp_nar .byte (nI (48 + (-i41).toNatClampNeg % 10))))))] rfl ?_
      refine V_iload_n (dJ6_getChars_ba4f3_p0 51 rfl) 86 rfl 0 rfl ?_
      refine V_bipush (-9 : Int32) (by decide) (dJ6_getChars_ba4f3_p0 52 rfl) 88 rfl ?_
      refine V_jn (fun (k44 : Int32 → (Nat → Int32) → Option (Int32 × (Nat → Int32))) => ∀ (i46 : Int32) (f47 : Nat → Int32), V E K mJ6_getChars_ba4f3 (Qm E K mJ6_getChars_ba4f3 (zJ6_getChars_ba4f3 E q3 n4)) 0 0 [(q3, .inl (E.2.2.1, n4, .inl f47))] 104 [(2, .ref q3), (5, .int i46), (6, .int i8)] [] (k44 i46 f47)) ?_ ?_
      · intro i46 f47
        show V E K mJ6_getChars_ba4f3 (Qm E K mJ6_getChars_ba4f3 (zJ6_getChars_ba4f3 E q3 n4)) 0 0 [(q3, .inl (E.2.2.1, n4, .inl f47))] 104 [(2, .ref q3), (5, .int i46), (6, .int i8)] [] _
        refine V_iload (dJ6_getChars_ba4f3_p0 62 rfl) 106 rfl 2 rfl ?_
        refine V_if_eq (dJ6_getChars_ba4f3_p0 63 rfl) 118 (by decide) 109 rfl ?_ ?_
        · refine V_iload (dJ6_getChars_ba4f3_p0 69 rfl) 120 rfl 1 rfl ?_
          exact V_iret rfl (dJ6_getChars_ba4f3_p1 0 rfl) ⟨rfl, rfl⟩
        · refine V_aload_n (dJ6_getChars_ba4f3_p0 64 rfl) 110 rfl 0 rfl ?_
          refine V_iinc (dJ6_getChars_ba4f3_p0 65 rfl) 113 rfl 1 rfl (i46 + (-1 : Int32)) rfl [(2, .ref q3), (5, .int (i46 + (-1 : Int32))), (6, .int i8)] (Nat.le_of_ble_eq_true rfl) rfl ?_
          refine V_iload (dJ6_getChars_ba4f3_p0 66 rfl) 115 rfl 1 rfl ?_
          refine V_bipush (45 : Int32) (by decide) (dJ6_getChars_ba4f3_p0 67 rfl) 117 rfl ?_
          refine V_bast 0 rfl (dJ6_getChars_ba4f3_p0 68 rfl) 118 rfl [(q3, .inl (E.2.2.1, n4, .inl (upd f47 (i46 + (-1 : Int32)).toNatClampNeg (vp_nar .byte (45 : Int32)))))] rfl ?_
          refine V_iload (dJ6_getChars_ba4f3_p0 69 rfl) 120 rfl 1 rfl ?_
          exact V_iret rfl (dJ6_getChars_ba4f3_p1 0 rfl) ⟨rfl, rfl⟩
      · intro k44 hk45
        refine V_icmp_ge (dJ6_getChars_ba4f3_p0 53 rfl) 104 (by decide) 91 rfl ?_ ?_
        · refine V_pick [1, 2, 3] [(2, .ref q3), (5, .int (i42 + (-1 : Int32))), (6, .int i8)] rfl ?_
          exact hk45 (i42 + (-1 : Int32)) (upd f43 (i42 + (-1 : Int32)).toNatClampNeg (vp_nar .byte (nI (48 + (-i41).toNatClampNeg % 10))))
        · refine V_aload_n (dJ6_getChars_ba4f3_p0 54 rfl) 92 rfl 1 rfl ?_
          refine V_iinc (dJ6_getChars_ba4f3_p0 55 rfl) 95 rfl 2 rfl ((i42 + (-1 : Int32)) + (-1 : Int32)) rfl [(0, .int i41), (2, .ref q3), (5, .int ((i42 + (-1 : Int32)) + (-1 : Int32))), (6, .int i8)] (Nat.le_of_ble_eq_true rfl) rfl ?_
          refine V_iload (dJ6_getChars_ba4f3_p0 56 rfl) 97 rfl 2 rfl ?_
          refine V_getsT tw_722 (dJ6_getChars_ba4f3_p0 57 rfl) 100 rfl ?_
          refine V_iload_n (dJ6_getChars_ba4f3_p0 58 rfl) 101 rfl 0 rfl ?_
          refine V_ineg (dJ6_getChars_ba4f3_p0 59 rfl) 102 rfl ?_
          refine V_tbT (dJ6_getChars_ba4f3_p0 60 rfl) 103 rfl ?_
          refine V_bast 0 rfl (dJ6_getChars_ba4f3_p0 61 rfl) 104 rfl [(q3, .inl (E.2.2.1, n4, .inl (upd (upd f43 (i42 + (-1 : Int32)).toNatClampNeg (vp_nar .byte (nI (48 + (-i41).toNatClampNeg % 10)))) ((i42 + (-1 : Int32)) + (-1 : Int32)).toNatClampNeg (vp_nar .byte (nI (48 + (-i41).toNatClampNeg / 10))))))] rfl ?_
          refine V_pick [1, 2, 3] [(2, .ref q3), (5, .int ((i42 + (-1 : Int32)) + (-1 : Int32))), (6, .int i8)] rfl ?_
          exact hk45 ((i42 + (-1 : Int32)) + (-1 : Int32)) (upd (upd f43 (i42 + (-1 : Int32)).toNatClampNeg (vp_nar .byte (nI (48 + (-i41).toNatClampNeg % 10)))) ((i42 + (-1 : Int32)) + (-1 : Int32)).toNatClampNeg (vp_nar .byte (nI (48 + (-i41).toNatClampNeg / 10))))
  · intro k6 hk7
    refine V_if_ge (dJ6_getChars_ba4f3_p0 3 rfl) 11 (by decide) 7 rfl ?_ ?_
    · refine V_iconst (0 : Int32) (by decide) (dJ6_getChars_ba4f3_p0 6 rfl) 12 rfl ?_
      refine V_pick [0, 2, 3] [(0, .int i1), (2, .ref q3), (5, .int i2)] rfl ?_
      exact hk7 (0 : Int32)
    · refine V_iconst (1 : Int32) (by decide) (dJ6_getChars_ba4f3_p0 4 rfl) 8 rfl ?_
      refine V_goto (dJ6_getChars_ba4f3_p0 5 rfl) 12 (by decide) ?_
      refine V_pick [0, 2, 3] [(0, .int i1), (2, .ref q3), (5, .int i2)] rfl ?_
      exact hk7 (1 : Int32))
set_option maxRecDepth 20000 in
theorem kJ5_append_c97b9 {E : EX} {l : Launch} (hl : l.stackTraces = false) (q1 q3 : Nat) (i4 i5 : Int32) (n6 : Nat) (f7 : Nat → Int32) (i2 : Int32) (c0 : Nat) : Ct E l (mJ5_append_c97b9 c0 n6) [.ref q1, .int i2] [(q1, .inr (6, [.ref q3, .int cZ, .int i4, .int i5])), (q3, .inl (E.2.2.1, n6, .inl f7))] (fJ5_append_c97b9 i5 n6 f7 i2 c0) (zJ5_append_c97b9 E q1 i4 c0) := Ct_of hl (mf_J5_append_c97b9 c0 n6).1 (Nat.le_of_ble_eq_true rfl) (fun K hs => by
  refine V_less ((c0 - n6) / 16) (2 * (c0 - n6)) (Nat.le_refl _) (Nat.le_refl _) ?_
  refine V_pick [0, 1] [(0, .ref q1), (1, .int i2)] rfl ?_
  unfold fJ5_append_c97b9
  refine V_aload_n (dJ5_append_c97b9 0 rfl) 1 rfl 0 rfl ?_
  refine V_get gf_A_79 0 rfl rfl (dJ5_append_c97b9 1 rfl) 4 rfl ?_
  refine V_istore_n (dJ5_append_c97b9 2 rfl) 5 rfl [(0, .ref q1), (1, .int i2), (2, .int i5)] (Nat.le_of_ble_eq_true rfl) rfl ?_
  refine V_iload_n (dJ5_append_c97b9 3 rfl) 6 rfl 2 rfl ?_
  refine V_iload_n (dJ5_append_c97b9 4 rfl) 7 rfl 1 rfl ?_
  refine V_callS (M := (mJ5_append_c97b9 c0 n6)) (wcs := []) (wr := [(q1, .inr (6, [.ref q3, .int cZ, .int i4, .int i5])), (q3, .inl (E.2.2.1, n6, .inl f7))]) mf_J6_stringSize_0f7a4 tw_714 tw_715 ⟨Nat.le_of_ble_eq_true rfl, Nat.le_of_ble_eq_true rfl⟩ (dJ5_append_c97b9 5 rfl) 10 rfl (kJ6_stringSize_0f7a4 hs i2) rfl [] [0, 1] rfl rfl rfl rfl (by decide) rfl (Nat.le_of_ble_eq_true rfl) (((c0 - n6) / 16)) (2 * (c0 - n6)) (show (((c0 - n6) / 16)) + 0 ≤ (((c0 - n6) / 16)) by omega) (show (2 * (c0 - n6)) + 0 ≤ (2 * (c0 - n6)) by omega) (fun z8 v w hz => ?_)
  obtain ⟨rfl, rfl⟩ := hz
  show V E K (mJ5_append_c97b9 c0 n6) (Qm E K (mJ5_append_c97b9 c0 n6) (zJ5_append_c97b9 E q1 i4 c0)) (((c0 - n6) / 16)) (2 * (c0 - n6)) [(q1, .inr (6, [.ref q3, .int cZ, .int i4, .int i5])), (q3, .inl (E.2.2.1, n6, .inl f7))] 10 [(0, .ref q1), (1, .int i2), (2, .int i5)] [.int z8, .int i5] _
  refine V_iadd (dJ5_append_c97b9 6 rfl) 11 rfl ?_
  refine V_nmI (fun i9 => ?_)
  refine V_istore_n (dJ5_append_c97b9 7 rfl) 12 rfl [(0, .ref q1), (1, .int i2), (2, .int i5), (3, .int i9)] (Nat.le_of_ble_eq_true rfl) rfl ?_
  refine V_aload_n (dJ5_append_c97b9 8 rfl) 13 rfl 0 rfl ?_
  refine V_iload_n (dJ5_append_c97b9 9 rfl) 14 rfl 3 rfl ?_
  refine V_callU (M := (mJ5_append_c97b9 c0 n6)) (wcs := [(q1, .inr (6, [.ref q3, .int cZ, .int i4, .int i5])), (q3, .inl (E.2.2.1, n6, .inl f7))]) (wr := []) (mf_J5_ensureCapacityInternal_d00df c0 n6) tw_600 tw_1626 tw_602 tx_ensureCapacityInternal ⟨Nat.le_of_ble_eq_true rfl, Nat.le_of_ble_eq_true rfl⟩ (dJ5_append_c97b9 10 rfl) 17 rfl (kJ5_ensureCapacityInternal_d00df hs q1 q3 i4 i5 n6 f7 i9 c0) rfl [0, 1] [] (q0 := 0) rfl rfl rfl rfl rfl rfl rfl (by decide) rfl (Nat.le_of_ble_eq_true rfl) (((c0 - c0) / 16)) (2 * (c0 - c0)) (show (((c0 - c0) / 16)) + ((c0 - n6) / 16) ≤ (((c0 - n6) / 16)) by omega) (show (2 * (c0 - c0)) + 2 * (c0 - n6) ≤ (2 * (c0 - n6)) by omega) (fun z10 v w hz => ?_)
  obtain ⟨q11, rfl, rfl⟩ := hz
  show V E K (mJ5_append_c97b9 c0 n6) (Qm E K (mJ5_append_c97b9 c0 n6) (zJ5_append_c97b9 E q1 i4 c0)) (((c0 - c0) / 16)) (2 * (c0 - c0)) [(q1, .inr (6, [.ref q11, .int cZ, .int i4, .int i5])), (q11, .inl (E.2.2.1, c0, .inl z10))] 17 [(0, .ref q1), (1, .int i2), (2, .int i5), (3, .int i9)] [] _
  refine V_aload_n (dJ5_append_c97b9 11 rfl) 18 rfl 0 rfl ?_
  refine V_callU (M := (mJ5_append_c97b9 c0 n6)) (wcs := [(q1, .inr (6, [.ref q11, .int cZ, .int i4, .int i5]))]) (wr := [(q11, .inl (E.2.2.1, c0, .inl z10))]) mf_J5_isLatin1_aae02 tw_633 tw_635 tw_634 tw_636 ⟨Nat.le_of_ble_eq_true rfl, Nat.le_of_ble_eq_true rfl⟩ (dJ5_append_c97b9 12 rfl) 21 rfl (kJ5_isLatin1_aae02 hs q1 (.ref q11) i4 i5) rfl [0] [1] (q0 := 0) rfl rfl rfl rfl rfl rfl rfl (by decide) rfl (Nat.le_of_ble_eq_true rfl) (((c0 - c0) / 16)) (2 * (c0 - c0)) (show (((c0 - c0) / 16)) + 0 ≤ (((c0 - c0) / 16)) by omega) (show (2 * (c0 - c0)) + 0 ≤ (2 * (c0 - c0)) by omega) (fun z12 v w hz => ?_)
  obtain ⟨rfl, rfl⟩ := hz
  show V E K (mJ5_append_c97b9 c0 n6) (Qm E K (mJ5_append_c97b9 c0 n6) (zJ5_append_c97b9 E q1 i4 c0)) (((c0 - c0) / 16)) (2 * (c0 - c0)) [(q11, .inl (E.2.2.1, c0, .inl z10)), (q1, .inr (6, [.ref q11, .int cZ, .int i4, .int i5]))] 21 [(0, .ref q1), (1, .int i2), (2, .int i5), (3, .int i9)] [.int (1 : Int32)] _
  refine V_if_eq (dJ5_append_c97b9 13 rfl) 37 (by decide) 24 rfl ?_ ?_
  · exact V_none
  · refine V_iload_n (dJ5_append_c97b9 14 rfl) 25 rfl 1 rfl ?_
    refine V_iload_n (dJ5_append_c97b9 15 rfl) 26 rfl 3 rfl ?_
    refine V_aload_n (dJ5_append_c97b9 16 rfl) 27 rfl 0 rfl ?_
    refine V_get gf_A_15 1 rfl rfl (dJ5_append_c97b9 17 rfl) 30 rfl ?_
    refine V_callS (M := (mJ5_append_c97b9 c0 n6)) (wcs := [(q11, .inl (E.2.2.1, c0, .inl z10))]) (wr := [(q1, .inr (6, [.ref q11, .int cZ, .int i4, .int i5]))]) mf_J6_getChars_ba4f3 tw_717 tw_718 ⟨Nat.le_of_ble_eq_true rfl, Nat.le_of_ble_eq_true rfl⟩ (dJ5_append_c97b9 18 rfl) 33 rfl (kJ6_getChars_ba4f3 hs q11 c0 z10 i2 i9) rfl [0] [1] rfl rfl rfl rfl (by decide) rfl (Nat.le_of_ble_eq_true rfl) (((c0 - c0) / 16)) (2 * (c0 - c0)) (show (((c0 - c0) / 16)) + 0 ≤ (((c0 - c0) / 16)) by omega) (show (2 * (c0 - c0)) + 0 ≤ (2 * (c0 - c0)) by omega) (fun z13 v w hz => ?_)
    obtain ⟨rfl, rfl⟩ := hz
    show V E K (mJ5_append_c97b9 c0 n6) (Qm E K (mJ5_append_c97b9 c0 n6) (zJ5_append_c97b9 E q1 i4 c0)) (((c0 - c0) / 16)) (2 * (c0 - c0)) [(q1, .inr (6, [.ref q11, .int cZ, .int i4, .int i5])), (q11, .inl (E.2.2.1, c0, .inl z13.2))] 33 [(0, .ref q1), (1, .int i2), (2, .int i5), (3, .int i9)] [.int z13.1] _
    refine V_pop rfl (dJ5_append_c97b9 19 rfl) 34 rfl ?_
    refine V_goto (dJ5_append_c97b9 20 rfl) 48 (by decide) ?_
    refine V_aload_n (dJ5_append_c97b9 28 rfl) 49 rfl 0 rfl ?_
    refine V_iload_n (dJ5_append_c97b9 29 rfl) 50 rfl 3 rfl ?_
    refine V_put pf_A_79 0 rfl rfl rfl (Nat.le_of_ble_eq_true rfl) (dJ5_append_c97b9 30 rfl) 53 rfl [(q1, .inr (6, [.ref q11, .int cZ, .int i4, .int i9])), (q11, .inl (E.2.2.1, c0, .inl z13.2))] rfl ?_
    refine V_aload_n (dJ5_append_c97b9 31 rfl) 54 rfl 0 rfl ?_
    exact V_aret rfl (Or.inl ⟨_, rfl⟩) (Or.inr ⟨_, rfl⟩) (dJ5_append_c97b9 32 rfl) ⟨q11, rfl, rfl⟩)
set_option maxRecDepth 20000 in
theorem kJ4_append_bf812 {E : EX} {l : Launch} (hl : l.stackTraces = false) (q1 q3 : Nat) (i4 i5 : Int32) (n6 : Nat) (f7 : Nat → Int32) (i2 : Int32) (c0 : Nat) : Ct E l (mJ4_append_bf812 c0 n6) [.ref q1, .int i2] [(q1, .inr (6, [.ref q3, .int cZ, .int i4, .int i5])), (q3, .inl (E.2.2.1, n6, .inl f7))] (fJ4_append_bf812 i5 n6 f7 i2 c0) (zJ4_append_bf812 E q1 i4 c0) := Ct_of hl (mf_J4_append_bf812 c0 n6).1 (Nat.le_of_ble_eq_true rfl) (fun K hs => by
  refine V_less ((c0 - n6) / 16) (2 * (c0 - n6)) (Nat.le_refl _) (Nat.le_refl _) ?_
  refine V_pick [0, 1] [(0, .ref q1), (1, .int i2)] rfl ?_
  unfold fJ4_append_bf812
  refine V_aload_n (dJ4_append_bf812 0 rfl) 1 rfl 0 rfl ?_
  refine V_iload_n (dJ4_append_bf812 1 rfl) 2 rfl 1 rfl ?_
  refine V_callSU (M := (mJ4_append_bf812 c0 n6)) (wcs := [(q1, .inr (6, [.ref q3, .int cZ, .int i4, .int i5])), (q3, .inl (E.2.2.1, n6, .inl f7))]) (wr := []) (mf_J5_append_c97b9 c0 n6) tw_711 tw_1631 tw_238 tw_712 (show ("append" : String) ≠ "<init>" by decide) ⟨Nat.le_of_ble_eq_true rfl, Nat.le_of_ble_eq_true rfl⟩ (dJ4_append_bf812 2 rfl) 5 rfl (kJ5_append_c97b9 hs q1 q3 i4 i5 n6 f7 i2 c0) rfl [0, 1] [] (q0 := 0) rfl rfl rfl rfl rfl (by decide) rfl (Nat.le_of_ble_eq_true rfl) (((c0 - c0) / 16)) (2 * (c0 - c0)) (show (((c0 - c0) / 16)) + ((c0 - n6) / 16) ≤ (((c0 - n6) / 16)) by omega) (show (2 * (c0 - c0)) + 2 * (c0 - n6) ≤ (2 * (c0 - n6)) by omega) (fun z8 v w hz => ?_)
  obtain ⟨q9, rfl, rfl⟩ := hz
  show V E K (mJ4_append_bf812 c0 n6) (Qm E K (mJ4_append_bf812 c0 n6) (zJ4_append_bf812 E q1 i4 c0)) (((c0 - c0) / 16)) (2 * (c0 - c0)) [(q1, .inr (6, [.ref q9, .int cZ, .int i4, .int z8.1])), (q9, .inl (E.2.2.1, c0, .inl z8.2))] 5 [(0, .ref q1), (1, .int i2)] [.ref q1] _
  refine V_pop rfl (dJ4_append_bf812 3 rfl) 6 rfl ?_
  refine V_aload_n (dJ4_append_bf812 4 rfl) 7 rfl 0 rfl ?_
  exact V_aret rfl (Or.inl ⟨_, rfl⟩) (Or.inr ⟨_, rfl⟩) (dJ4_append_bf812 5 rfl) ⟨q9, rfl, rfl⟩)
set_option maxRecDepth 20000 in
theorem kJ0_coder_7d493 {E : EX} {l : Launch} (hl : l.stackTraces = false) (k0 : Nat) (hi : k0 < 7)   : Ct E l mJ0_coder_7d493 [.ref (E.2.2.2.1 k0)] [] (fJ0_coder_7d493 ) (zJ0_coder_7d493 E) := Ct_of hl mf_J0_coder_7d493.1 (Nat.le_of_ble_eq_true rfl) (fun K hs => by
  refine V_less 0 0 (Nat.le_refl _) (Nat.le_refl _) ?_
  refine V_pick [0] [(0, .ref (E.2.2.2.1 k0))] rfl ?_
  unfold fJ0_coder_7d493
  refine V_getsC tw_672 (dJ0_coder_7d493 0 rfl) 3 rfl ?_
  refine V_if_eq (dJ0_coder_7d493 1 rfl) 13 (by decide) 6 rfl ?_ ?_
  · exact V_none
  · refine V_aload_n (dJ0_coder_7d493 2 rfl) 7 rfl 0 rfl ?_
    refine V_getKc hi tw_790 (dJ0_coder_7d493 3 rfl) 10 rfl ?_
    refine V_goto (dJ0_coder_7d493 4 rfl) 14 (by decide) ?_
    exact V_zret rfl (by decide) (dJ0_coder_7d493 6 rfl) ⟨rfl, rfl⟩)
set_option maxRecDepth 20000 in
theorem kJ0_length_8abf5 {E : EX} {l : Launch} (hl : l.stackTraces = false) (k0 : Nat) (hi : k0 < 7)   : Ct E l mJ0_length_8abf5 [.ref (E.2.2.2.1 k0)] [] (fJ0_length_8abf5 k0) (zJ0_length_8abf5 E) := Ct_of hl mf_J0_length_8abf5.1 (Nat.le_of_ble_eq_true rfl) (fun K hs => by
  refine V_less 0 0 (Nat.le_refl _) (Nat.le_refl _) ?_
  refine V_pick [0] [(0, .ref (E.2.2.2.1 k0))] rfl ?_
  unfold fJ0_length_8abf5
  refine V_aload_n (dJ0_length_8abf5 0 rfl) 1 rfl 0 rfl ?_
  refine V_getKv hi tw_789 (dJ0_length_8abf5 1 rfl) 4 rfl ?_
  refine V_alenK hi (dJ0_length_8abf5 2 rfl) 5 rfl ?_
  refine V_aload_n (dJ0_length_8abf5 3 rfl) 6 rfl 0 rfl ?_
  refine V_callVK (M := mJ0_length_8abf5) (wcs := []) (wr := []) hi mf_J0_coder_7d493 rfl tw_668 tw_669 tw_670 ⟨Nat.le_of_ble_eq_true rfl, Nat.le_of_ble_eq_true rfl⟩ (dJ0_length_8abf5 4 rfl) 9 rfl (kJ0_coder_7d493 hs k0 hi) rfl [] [] rfl rfl rfl rfl (by decide) rfl (Nat.le_of_ble_eq_true rfl) 0 0 (show 0 + 0 ≤ 0 from Nat.le_of_ble_eq_true rfl) (show 0 + 0 ≤ 0 from Nat.le_of_ble_eq_true rfl) (fun z1 v w hz => ?_)
  obtain ⟨rfl, rfl⟩ := hz
  show V E K mJ0_length_8abf5 (Qm E K mJ0_length_8abf5 (zJ0_length_8abf5 E)) 0 0 [] 9 [(0, .ref (E.2.2.2.1 k0))] [.int (0 : Int32), .int (Int32.ofNat (strL.getD k0 0))] _
  refine V_ishr (dJ0_length_8abf5 5 rfl) 10 rfl ?_
  exact V_iret rfl (dJ0_length_8abf5 6 rfl) ⟨rfl, rfl⟩)
set_option maxRecDepth 20000 in
theorem kJ5_inflateIfNeededFor_a7421 {E : EX} {l : Launch} (hl : l.stackTraces = false) (k0 : Nat) (hi : k0 < 7) (q1 : Nat) (v2 : Value) (i3 i4 : Int32) : Ct E l mJ5_inflateIfNeededFor_a7421 [.ref q1, .ref (E.2.2.2.1 k0)] [(q1, .inr (6, [v2, .int cZ, .int i3, .int i4]))] (fJ5_inflateIfNeededFor_a7421 ) (zJ5_inflateIfNeededFor_a7421 E q1 v2 i3 i4) := Ct_of hl mf_J5_inflateIfNeededFor_a7421.1 (Nat.le_of_ble_eq_true rfl) (fun K hs => by
  refine V_less 0 0 (Nat.le_refl _) (Nat.le_refl _) ?_
  refine V_pick [0, 1] [(0, .ref q1), (1, .ref (E.2.2.2.1 k0))] rfl ?_
  unfold fJ5_inflateIfNeededFor_a7421
  refine V_getsC tw_216 (dJ5_inflateIfNeededFor_a7421 0 rfl) 3 rfl ?_
  refine V_if_eq (dJ5_inflateIfNeededFor_a7421 1 rfl) 21 (by decide) 6 rfl ?_ ?_
  · exact V_none
  · refine V_aload_n (dJ5_inflateIfNeededFor_a7421 2 rfl) 7 rfl 0 rfl ?_
    refine V_get gf_A_22 0 rfl rfl (dJ5_inflateIfNeededFor_a7421 3 rfl) 10 rfl ?_
    refine V_aload_n (dJ5_inflateIfNeededFor_a7421 4 rfl) 11 rfl 1 rfl ?_
    refine V_callVK (M := mJ5_inflateIfNeededFor_a7421) (wcs := []) (wr := [(q1, .inr (6, [v2, .int cZ, .int i3, .int i4]))]) hi mf_J0_coder_7d493 rfl tw_681 tw_669 tw_670 ⟨Nat.le_of_ble_eq_true rfl, Nat.le_of_ble_eq_true rfl⟩ (dJ5_inflateIfNeededFor_a7421 5 rfl) 14 rfl (kJ0_coder_7d493 hs k0 hi) rfl [] [0] rfl rfl rfl rfl (by decide) rfl (Nat.le_of_ble_eq_true rfl) 0 0 (show 0 + 0 ≤ 0 from Nat.le_of_ble_eq_true rfl) (show 0 + 0 ≤ 0 from Nat.le_of_ble_eq_true rfl) (fun z5 v w hz => ?_)
    obtain ⟨rfl, rfl⟩ := hz
    show V E K mJ5_inflateIfNeededFor_a7421 (Qm E K mJ5_inflateIfNeededFor_a7421 (zJ5_inflateIfNeededFor_a7421 E q1 v2 i3 i4)) 0 0 [(q1, .inr (6, [v2, .int cZ, .int i3, .int i4]))] 14 [(0, .ref q1), (1, .ref (E.2.2.2.1 k0))] [.int (0 : Int32), .int cZ] _
    refine V_icmp_eq (dJ5_inflateIfNeededFor_a7421 6 rfl) 21 (by decide) 17 rfl ?_ ?_
    · exact V_vret rfl (dJ5_inflateIfNeededFor_a7421 9 rfl) ⟨rfl, rfl⟩
    · exact V_none)
set_option maxRecDepth 20000 in
theorem kJ0_getBytes_840e7 {E : EX} {l : Launch} (hl : l.stackTraces = false) (k0 : Nat) (hi : k0 < 7) (q1 : Nat) (n4 : Nat) (f5 : Nat → Int32) (i2 i3 : Int32) : Ct E l mJ0_getBytes_840e7 [.ref (E.2.2.2.1 k0), .ref q1, .int i2, .int i3] [(q1, .inl (E.2.2.1, n4, .inl f5))] (fJ0_getBytes_840e7 k0 n4 f5 i2 i3) (zJ0_getBytes_840e7 E q1 n4) := Ct_of hl mf_J0_getBytes_840e7.1 (Nat.le_of_ble_eq_true rfl) (fun K hs => by
  refine V_less 0 0 (Nat.le_refl _) (Nat.le_refl _) ?_
  refine V_pick [0, 1, 2, 3] [(0, .ref (E.2.2.2.1 k0)), (1, .ref q1), (2, .int i2), (3, .int i3)] rfl ?_
  unfold fJ0_getBytes_840e7
  refine V_aload_n (dJ0_getBytes_840e7 0 rfl) 1 rfl 0 rfl ?_
  refine V_callVK (M := mJ0_getBytes_840e7) (wcs := []) (wr := [(q1, .inl (E.2.2.1, n4, .inl f5))]) hi mf_J0_coder_7d493 rfl tw_668 tw_669 tw_670 ⟨Nat.le_of_ble_eq_true rfl, Nat.le_of_ble_eq_true rfl⟩ (dJ0_getBytes_840e7 1 rfl) 4 rfl (kJ0_coder_7d493 hs k0 hi) rfl [] [0] rfl rfl rfl rfl (by decide) rfl (Nat.le_of_ble_eq_true rfl) 0 0 (show 0 + 0 ≤ 0 from Nat.le_of_ble_eq_true rfl) (show 0 + 0 ≤ 0 from Nat.le_of_ble_eq_true rfl) (fun z6 v w hz => ?_)
  obtain ⟨rfl, rfl⟩ := hz
  show V E K mJ0_getBytes_840e7 (Qm E K mJ0_getBytes_840e7 (zJ0_getBytes_840e7 E q1 n4)) 0 0 [(q1, .inl (E.2.2.1, n4, .inl f5))] 4 [(0, .ref (E.2.2.2.1 k0)), (1, .ref q1), (2, .int i2), (3, .int i3)] [.int (0 : Int32)] _
  refine V_iload_n (dJ0_getBytes_840e7 2 rfl) 5 rfl 3 rfl ?_
  refine V_icmp_ne (dJ0_getBytes_840e7 3 rfl) 28 (by decide) 8 rfl ?_ ?_
  · exact V_none
  · refine V_aload_n (dJ0_getBytes_840e7 4 rfl) 9 rfl 0 rfl ?_
    refine V_getKv hi tw_789 (dJ0_getBytes_840e7 5 rfl) 12 rfl ?_
    refine V_iconst (0 : Int32) (by decide) (dJ0_getBytes_840e7 6 rfl) 13 rfl ?_
    refine V_aload_n (dJ0_getBytes_840e7 7 rfl) 14 rfl 1 rfl ?_
    refine V_iload_n (dJ0_getBytes_840e7 8 rfl) 15 rfl 2 rfl ?_
    refine V_iload_n (dJ0_getBytes_840e7 9 rfl) 16 rfl 3 rfl ?_
    refine V_ishl (dJ0_getBytes_840e7 10 rfl) 17 rfl ?_
    refine V_aload_n (dJ0_getBytes_840e7 11 rfl) 18 rfl 0 rfl ?_
    refine V_getKv hi tw_789 (dJ0_getBytes_840e7 12 rfl) 21 rfl ?_
    refine V_alenK hi (dJ0_getBytes_840e7 13 rfl) 22 rfl ?_
    refine V_copyK hi wc_Z_212 (Nat.le_of_ble_eq_true rfl) (Nat.le_of_ble_eq_true rfl) 0 rfl (dJ0_getBytes_840e7 14 rfl) 25 rfl [(q1, .inl (E.2.2.1, n4, .inl (va_cpy (strF k0) f5 (0 : Int32).toNatClampNeg (i2 <<< (i3 &&& 31)).toNatClampNeg (Int32.ofNat (strL.getD k0 0)).toNatClampNeg)))] rfl ?_
    refine V_goto (dJ0_getBytes_840e7 15 rfl) 43 (by decide) ?_
    exact V_vret rfl (dJ0_getBytes_840e7 25 rfl) ⟨rfl, rfl⟩)
set_option maxRecDepth 20000 in
theorem kJ5_putStringAt_47b60 {E : EX} {l : Launch} (hl : l.stackTraces = false) (k0 : Nat) (hi : k0 < 7) (q1 q3 : Nat) (i4 i5 : Int32) (n6 : Nat) (f7 : Nat → Int32) (i2 : Int32) : Ct E l mJ5_putStringAt_47b60 [.ref q1, .int i2, .ref (E.2.2.2.1 k0)] [(q1, .inr (6, [.ref q3, .int cZ, .int i4, .int i5])), (q3, .inl (E.2.2.1, n6, .inl f7))] (fJ5_putStringAt_47b60 k0 n6 f7 i2) (zJ5_putStringAt_47b60 E q1 q3 i4 i5 n6) := Ct_of hl mf_J5_putStringAt_47b60.1 (Nat.le_of_ble_eq_true rfl) (fun K hs => by
  refine V_less 0 0 (Nat.le_refl _) (Nat.le_refl _) ?_
  refine V_pick [0, 1, 2] [(0, .ref q1), (1, .int i2), (2, .ref (E.2.2.2.1 k0))] rfl ?_
  unfold fJ5_putStringAt_47b60
  refine V_aload_n (dJ5_putStringAt_47b60 0 rfl) 1 rfl 0 rfl ?_
  refine V_aload_n (dJ5_putStringAt_47b60 1 rfl) 2 rfl 2 rfl ?_
  refine V_callU (M := mJ5_putStringAt_47b60) (wcs := [(q1, .inr (6, [.ref q3, .int cZ, .int i4, .int i5]))]) (wr := [(q3, .inl (E.2.2.1, n6, .inl f7))]) mf_J5_inflateIfNeededFor_a7421 tw_677 tw_1629 tw_679 tx_inflateIfNeededFor ⟨Nat.le_of_ble_eq_true rfl, Nat.le_of_ble_eq_true rfl⟩ (dJ5_putStringAt_47b60 2 rfl) 5 rfl (kJ5_inflateIfNeededFor_a7421 hs k0 hi q1 (.ref q3) i4 i5) rfl [0] [1] (q0 := 0) rfl rfl rfl rfl rfl rfl rfl (by decide) rfl (Nat.le_of_ble_eq_true rfl) 0 0 (show 0 + 0 ≤ 0 from Nat.le_of_ble_eq_true rfl) (show 0 + 0 ≤ 0 from Nat.le_of_ble_eq_true rfl) (fun z8 v w hz => ?_)
  obtain ⟨rfl, rfl⟩ := hz
  show V E K mJ5_putStringAt_47b60 (Qm E K mJ5_putStringAt_47b60 (zJ5_putStringAt_47b60 E q1 q3 i4 i5 n6)) 0 0 [(q3, .inl (E.2.2.1, n6, .inl f7)), (q1, .inr (6, [.ref q3, .int cZ, .int i4, .int i5]))] 5 [(0, .ref q1), (1, .int i2), (2, .ref (E.2.2.2.1 k0))] [] _
  refine V_aload_n (dJ5_putStringAt_47b60 3 rfl) 6 rfl 2 rfl ?_
  refine V_aload_n (dJ5_putStringAt_47b60 4 rfl) 7 rfl 0 rfl ?_
  refine V_get gf_A_15 1 rfl rfl (dJ5_putStringAt_47b60 5 rfl) 10 rfl ?_
  refine V_iload_n (dJ5_putStringAt_47b60 6 rfl) 11 rfl 1 rfl ?_
  refine V_aload_n (dJ5_putStringAt_47b60 7 rfl) 12 rfl 0 rfl ?_
  refine V_get gf_A_22 1 rfl rfl (dJ5_putStringAt_47b60 8 rfl) 15 rfl ?_
  refine V_callVK (M := mJ5_putStringAt_47b60) (wcs := [(q3, .inl (E.2.2.1, n6, .inl f7))]) (wr := [(q1, .inr (6, [.ref q3, .int cZ, .int i4, .int i5]))]) hi mf_J0_getBytes_840e7 rfl tw_701 tw_702 tw_703 ⟨Nat.le_of_ble_eq_true rfl, Nat.le_of_ble_eq_true rfl⟩ (dJ5_putStringAt_47b60 9 rfl) 18 rfl (kJ0_getBytes_840e7 hs k0 hi q3 n6 f7 i2 cZ) rfl [0] [1] rfl rfl rfl rfl (by decide) rfl (Nat.le_of_ble_eq_true rfl) 0 0 (show 0 + 0 ≤ 0 from Nat.le_of_ble_eq_true rfl) (show 0 + 0 ≤ 0 from Nat.le_of_ble_eq_true rfl) (fun z9 v w hz => ?_)
  obtain ⟨rfl, rfl⟩ := hz
  show V E K mJ5_putStringAt_47b60 (Qm E K mJ5_putStringAt_47b60 (zJ5_putStringAt_47b60 E q1 q3 i4 i5 n6)) 0 0 [(q1, .inr (6, [.ref q3, .int cZ, .int i4, .int i5])), (q3, .inl (E.2.2.1, n6, .inl z9))] 18 [(0, .ref q1), (1, .int i2), (2, .ref (E.2.2.2.1 k0))] [] _
  exact V_vret rfl (dJ5_putStringAt_47b60 10 rfl) ⟨rfl, rfl⟩)
set_option maxRecDepth 20000 in
theorem kJ5_append_cf1ce {E : EX} {l : Launch} (hl : l.stackTraces = false) (k0 : Nat) (hi : k0 < 7) (q1 q2 : Nat) (i3 i4 : Int32) (n5 : Nat) (f6 : Nat → Int32) (c0 : Nat) : Ct E l (mJ5_append_cf1ce c0 n5) [.ref q1, .ref (E.2.2.2.1 k0)] [(q1, .inr (6, [.ref q2, .int cZ, .int i3, .int i4])), (q2, .inl (E.2.2.1, n5, .inl f6))] (fJ5_append_cf1ce k0 i4 n5 f6 c0) (zJ5_append_cf1ce E q1 i3 c0) := Ct_of hl (mf_J5_append_cf1ce c0 n5).1 (Nat.le_of_ble_eq_true rfl) (fun K hs => by
  refine V_less ((c0 - n5) / 16) (2 * (c0 - n5)) (Nat.le_refl _) (Nat.le_refl _) ?_
  refine V_pick [0, 1] [(0, .ref q1), (1, .ref (E.2.2.2.1 k0))] rfl ?_
  unfold fJ5_append_cf1ce
  refine V_aload_n (dJ5_append_cf1ce 0 rfl) 1 rfl 1 rfl ?_
  refine V_ifnonnull (dJ5_append_cf1ce 1 rfl) 9 (by decide) ?_
  refine V_aload_n (dJ5_append_cf1ce 5 rfl) 10 rfl 1 rfl ?_
  refine V_callVK (M := (mJ5_append_cf1ce c0 n5)) (wcs := []) (wr := [(q1, .inr (6, [.ref q2, .int cZ, .int i3, .int i4])), (q2, .inl (E.2.2.1, n5, .inl f6))]) hi mf_J0_length_8abf5 rfl tw_664 tw_665 tw_666 ⟨Nat.le_of_ble_eq_true rfl, Nat.le_of_ble_eq_true rfl⟩ (dJ5_append_cf1ce 6 rfl) 13 rfl (kJ0_length_8abf5 hs k0 hi) rfl [] [0, 1] rfl rfl rfl rfl (by decide) rfl (Nat.le_of_ble_eq_true rfl) (((c0 - n5) / 16)) (2 * (c0 - n5)) (show (((c0 - n5) / 16)) + 0 ≤ (((c0 - n5) / 16)) by omega) (show (2 * (c0 - n5)) + 0 ≤ (2 * (c0 - n5)) by omega) (fun z7 v w hz => ?_)
  obtain ⟨rfl, rfl⟩ := hz
  show V E K (mJ5_append_cf1ce c0 n5) (Qm E K (mJ5_append_cf1ce c0 n5) (zJ5_append_cf1ce E q1 i3 c0)) (((c0 - n5) / 16)) (2 * (c0 - n5)) [(q1, .inr (6, [.ref q2, .int cZ, .int i3, .int i4])), (q2, .inl (E.2.2.1, n5, .inl f6))] 13 [(0, .ref q1), (1, .ref (E.2.2.2.1 k0))] [.int z7] _
  refine V_istore_n (dJ5_append_cf1ce 7 rfl) 14 rfl [(0, .ref q1), (1, .ref (E.2.2.2.1 k0)), (2, .int z7)] (Nat.le_of_ble_eq_true rfl) rfl ?_
  refine V_aload_n (dJ5_append_cf1ce 8 rfl) 15 rfl 0 rfl ?_
  refine V_aload_n (dJ5_append_cf1ce 9 rfl) 16 rfl 0 rfl ?_
  refine V_get gf_A_79 0 rfl rfl (dJ5_append_cf1ce 10 rfl) 19 rfl ?_
  refine V_iload_n (dJ5_append_cf1ce 11 rfl) 20 rfl 2 rfl ?_
  refine V_iadd (dJ5_append_cf1ce 12 rfl) 21 rfl ?_
  refine V_callU (M := (mJ5_append_cf1ce c0 n5)) (wcs := [(q1, .inr (6, [.ref q2, .int cZ, .int i3, .int i4])), (q2, .inl (E.2.2.1, n5, .inl f6))]) (wr := []) (mf_J5_ensureCapacityInternal_d00df c0 n5) tw_600 tw_1626 tw_602 tx_ensureCapacityInternal ⟨Nat.le_of_ble_eq_true rfl, Nat.le_of_ble_eq_true rfl⟩ (dJ5_append_cf1ce 13 rfl) 24 rfl (kJ5_ensureCapacityInternal_d00df hs q1 q2 i3 i4 n5 f6 (i4 + z7) c0) rfl [0, 1] [] (q0 := 0) rfl rfl rfl rfl rfl rfl rfl (by decide) rfl (Nat.le_of_ble_eq_true rfl) (((c0 - c0) / 16)) (2 * (c0 - c0)) (show (((c0 - c0) / 16)) + ((c0 - n5) / 16) ≤ (((c0 - n5) / 16)) by omega) (show (2 * (c0 - c0)) + 2 * (c0 - n5) ≤ (2 * (c0 - n5)) by omega) (fun z8 v w hz => ?_)
  obtain ⟨q9, rfl, rfl⟩ := hz
  show V E K (mJ5_append_cf1ce c0 n5) (Qm E K (mJ5_append_cf1ce c0 n5) (zJ5_append_cf1ce E q1 i3 c0)) (((c0 - c0) / 16)) (2 * (c0 - c0)) [(q1, .inr (6, [.ref q9, .int cZ, .int i3, .int i4])), (q9, .inl (E.2.2.1, c0, .inl z8))] 24 [(0, .ref q1), (1, .ref (E.2.2.2.1 k0)), (2, .int z7)] [] _
  refine V_aload_n (dJ5_append_cf1ce 14 rfl) 25 rfl 0 rfl ?_
  refine V_aload_n (dJ5_append_cf1ce 15 rfl) 26 rfl 0 rfl ?_
  refine V_get gf_A_79 0 rfl rfl (dJ5_append_cf1ce 16 rfl) 29 rfl ?_
  refine V_aload_n (dJ5_append_cf1ce 17 rfl) 30 rfl 1 rfl ?_
  refine V_callU (M := (mJ5_append_cf1ce c0 n5)) (wcs := [(q1, .inr (6, [.ref q9, .int cZ, .int i3, .int i4])), (q9, .inl (E.2.2.1, c0, .inl z8))]) (wr := []) mf_J5_putStringAt_47b60 tw_673 tw_1628 tw_675 tx_putStringAt ⟨Nat.le_of_ble_eq_true rfl, Nat.le_of_ble_eq_true rfl⟩ (dJ5_append_cf1ce 18 rfl) 33 rfl (kJ5_putStringAt_47b60 hs k0 hi q1 q9 i3 i4 c0 z8 i4) rfl [0, 1] [] (q0 := 0) rfl rfl rfl rfl rfl rfl rfl (by decide) rfl (Nat.le_of_ble_eq_true rfl) (((c0 - c0) / 16)) (2 * (c0 - c0)) (show (((c0 - c0) / 16)) + 0 ≤ (((c0 - c0) / 16)) by omega) (show (2 * (c0 - c0)) + 0 ≤ (2 * (c0 - c0)) by omega) (fun z10 v w hz => ?_)
  obtain ⟨rfl, rfl⟩ := hz
  show V E K (mJ5_append_cf1ce c0 n5) (Qm E K (mJ5_append_cf1ce c0 n5) (zJ5_append_cf1ce E q1 i3 c0)) (((c0 - c0) / 16)) (2 * (c0 - c0)) [(q1, .inr (6, [.ref q9, .int cZ, .int i3, .int i4])), (q9, .inl (E.2.2.1, c0, .inl z10))] 33 [(0, .ref q1), (1, .ref (E.2.2.2.1 k0)), (2, .int z7)] [] _
  refine V_aload_n (dJ5_append_cf1ce 19 rfl) 34 rfl 0 rfl ?_
  refine V_dup rfl (dJ5_append_cf1ce 20 rfl) 35 rfl ?_
  refine V_get gf_A_79 0 rfl rfl (dJ5_append_cf1ce 21 rfl) 38 rfl ?_
  refine V_iload_n (dJ5_append_cf1ce 22 rfl) 39 rfl 2 rfl ?_
  refine V_iadd (dJ5_append_cf1ce 23 rfl) 40 rfl ?_
  refine V_put pf_A_79 0 rfl rfl rfl (Nat.le_of_ble_eq_true rfl) (dJ5_append_cf1ce 24 rfl) 43 rfl [(q1, .inr (6, [.ref q9, .int cZ, .int i3, .int (i4 + z7)])), (q9, .inl (E.2.2.1, c0, .inl z10))] rfl ?_
  refine V_aload_n (dJ5_append_cf1ce 25 rfl) 44 rfl 0 rfl ?_
  exact V_aret rfl (Or.inl ⟨_, rfl⟩) (Or.inr ⟨_, rfl⟩) (dJ5_append_cf1ce 26 rfl) ⟨q9, rfl, rfl⟩)
set_option maxRecDepth 20000 in
theorem kJ4_append_15ec4 {E : EX} {l : Launch} (hl : l.stackTraces = false) (k0 : Nat) (hi : k0 < 7) (q1 q2 : Nat) (i3 i4 : Int32) (n5 : Nat) (f6 : Nat → Int32) (c0 : Nat) : Ct E l (mJ4_append_15ec4 c0 n5) [.ref q1, .ref (E.2.2.2.1 k0)] [(q1, .inr (6, [.ref q2, .int cZ, .int i3, .int i4])), (q2, .inl (E.2.2.1, n5, .inl f6))] (fJ4_append_15ec4 k0 i4 n5 f6 c0) (zJ4_append_15ec4 E q1 i3 c0) := Ct_of hl (mf_J4_append_15ec4 c0 n5).1 (Nat.le_of_ble_eq_true rfl) (fun K hs => by
  refine V_less ((c0 - n5) / 16) (2 * (c0 - n5)) (Nat.le_refl _) (Nat.le_refl _) ?_
  refine V_pick [0, 1] [(0, .ref q1), (1, .ref (E.2.2.2.1 k0))] rfl ?_
  unfold fJ4_append_15ec4
  refine V_aload_n (dJ4_append_15ec4 0 rfl) 1 rfl 0 rfl ?_
  refine V_aload_n (dJ4_append_15ec4 1 rfl) 2 rfl 1 rfl ?_
  refine V_callSU (M := (mJ4_append_15ec4 c0 n5)) (wcs := [(q1, .inr (6, [.ref q2, .int cZ, .int i3, .int i4])), (q2, .inl (E.2.2.1, n5, .inl f6))]) (wr := []) (mf_J5_append_cf1ce c0 n5) tw_593 tw_1624 tw_238 tw_594 (show ("append" : String) ≠ "<init>" by decide) ⟨Nat.le_of_ble_eq_true rfl, Nat.le_of_ble_eq_true rfl⟩ (dJ4_append_15ec4 2 rfl) 5 rfl (kJ5_append_cf1ce hs k0 hi q1 q2 i3 i4 n5 f6 c0) rfl [0, 1] [] (q0 := 0) rfl rfl rfl rfl rfl (by decide) rfl (Nat.le_of_ble_eq_true rfl) (((c0 - c0) / 16)) (2 * (c0 - c0)) (show (((c0 - c0) / 16)) + ((c0 - n5) / 16) ≤ (((c0 - n5) / 16)) by omega) (show (2 * (c0 - c0)) + 2 * (c0 - n5) ≤ (2 * (c0 - n5)) by omega) (fun z7 v w hz => ?_)
  obtain ⟨q8, rfl, rfl⟩ := hz
  show V E K (mJ4_append_15ec4 c0 n5) (Qm E K (mJ4_append_15ec4 c0 n5) (zJ4_append_15ec4 E q1 i3 c0)) (((c0 - c0) / 16)) (2 * (c0 - c0)) [(q1, .inr (6, [.ref q8, .int cZ, .int i3, .int z7.1])), (q8, .inl (E.2.2.1, c0, .inl z7.2))] 5 [(0, .ref q1), (1, .ref (E.2.2.2.1 k0))] [.ref q1] _
  refine V_pop rfl (dJ4_append_15ec4 3 rfl) 6 rfl ?_
  refine V_aload_n (dJ4_append_15ec4 4 rfl) 7 rfl 0 rfl ?_
  exact V_aret rfl (Or.inl ⟨_, rfl⟩) (Or.inr ⟨_, rfl⟩) (dJ4_append_15ec4 5 rfl) ⟨q8, rfl, rfl⟩)
set_option maxRecDepth 20000 in
theorem kJ5_getValue_6d5f1 {E : EX} {l : Launch} (hl : l.stackTraces = false) (q1 q2 : Nat) (i3 i4 : Int32) (n5 : Nat) (f6 : Nat → Int32) : Ct E l mJ5_getValue_6d5f1 [.ref q1] [(q1, .inr (6, [.ref q2, .int cZ, .int i3, .int i4])), (q2, .inl (E.2.2.1, n5, .inl f6))] (fJ5_getValue_6d5f1 ) (zJ5_getValue_6d5f1 E q1 q2 i3 i4 n5 f6) := Ct_of hl mf_J5_getValue_6d5f1.1 (Nat.le_of_ble_eq_true rfl) (fun K hs => by
  refine V_less 0 0 (Nat.le_refl _) (Nat.le_refl _) ?_
  refine V_pick [0] [(0, .ref q1)] rfl ?_
  unfold fJ5_getValue_6d5f1
  refine V_aload_n (dJ5_getValue_6d5f1 0 rfl) 1 rfl 0 rfl ?_
  refine V_get gf_A_15 0 rfl rfl (dJ5_getValue_6d5f1 1 rfl) 4 rfl ?_
  exact V_aret rfl (Or.inr ⟨_, rfl⟩) (Or.inr ⟨_, rfl⟩) (dJ5_getValue_6d5f1 2 rfl) ⟨rfl, rfl⟩)
set_option maxRecDepth 20000 in
theorem kJ5_length_8abf5 {E : EX} {l : Launch} (hl : l.stackTraces = false) (q1 : Nat) (v2 : Value) (i3 i4 : Int32) : Ct E l mJ5_length_8abf5 [.ref q1] [(q1, .inr (6, [v2, .int cZ, .int i3, .int i4]))] (fJ5_length_8abf5 i4) (zJ5_length_8abf5 E q1 v2 i3 i4) := Ct_of hl mf_J5_length_8abf5.1 (Nat.le_of_ble_eq_true rfl) (fun K hs => by
  refine V_less 0 0 (Nat.le_refl _) (Nat.le_refl _) ?_
  refine V_pick [0] [(0, .ref q1)] rfl ?_
  unfold fJ5_length_8abf5
  refine V_aload_n (dJ5_length_8abf5 0 rfl) 1 rfl 0 rfl ?_
  refine V_get gf_A_79 0 rfl rfl (dJ5_length_8abf5 1 rfl) 4 rfl ?_
  exact V_iret rfl (dJ5_length_8abf5 2 rfl) ⟨rfl, rfl⟩)
set_option maxRecDepth 20000 in
theorem kJ4_length_8abf5 {E : EX} {l : Launch} (hl : l.stackTraces = false) (q1 : Nat) (v2 : Value) (i3 i4 : Int32) : Ct E l mJ4_length_8abf5 [.ref q1] [(q1, .inr (6, [v2, .int cZ, .int i3, .int i4]))] (fJ4_length_8abf5 i4) (zJ4_length_8abf5 E q1 v2 i3 i4) := Ct_of hl mf_J4_length_8abf5.1 (Nat.le_of_ble_eq_true rfl) (fun K hs => by
  refine V_less 0 0 (Nat.le_refl _) (Nat.le_refl _) ?_
  refine V_pick [0] [(0, .ref q1)] rfl ?_
  unfold fJ4_length_8abf5
  refine V_aload_n (dJ4_length_8abf5 0 rfl) 1 rfl 0 rfl ?_
  refine V_callSU (M := mJ4_length_8abf5) (wcs := [(q1, .inr (6, [v2, .int cZ, .int i3, .int i4]))]) (wr := []) mf_J5_length_8abf5 tw_756 tw_752 tw_238 tw_751 (show ("length" : String) ≠ "<init>" by decide) ⟨Nat.le_of_ble_eq_true rfl, Nat.le_of_ble_eq_true rfl⟩ (dJ4_length_8abf5 1 rfl) 4 rfl (kJ5_length_8abf5 hs q1 v2 i3 i4) rfl [0] [] (q0 := 0) rfl rfl rfl rfl rfl (by decide) rfl (Nat.le_of_ble_eq_true rfl) 0 0 (show 0 + 0 ≤ 0 from Nat.le_of_ble_eq_true rfl) (show 0 + 0 ≤ 0 from Nat.le_of_ble_eq_true rfl) (fun z5 v w hz => ?_)
  obtain ⟨rfl, rfl⟩ := hz
  show V E K mJ4_length_8abf5 (Qm E K mJ4_length_8abf5 (zJ4_length_8abf5 E q1 v2 i3 i4)) 0 0 [(q1, .inr (6, [v2, .int cZ, .int i3, .int i4]))] 4 [(0, .ref q1)] [.int z5] _
  exact V_iret rfl (dJ4_length_8abf5 2 rfl) ⟨rfl, rfl⟩)
set_option maxRecDepth 20000 in
theorem kJ7_checkLength_df160 {E : EX} {l : Launch} (hl : l.stackTraces = false)  (i1 i2 : Int32) : Ct E l mJ7_checkLength_df160 [.int i1, .int i2] [] (fJ7_checkLength_df160 i1 i2) (zJ7_checkLength_df160 E) := Ct_of hl mf_J7_checkLength_df160.1 (Nat.le_of_ble_eq_true rfl) (fun K hs => by
  refine V_less 0 0 (Nat.le_refl _) (Nat.le_refl _) ?_
  refine V_pick [0, 1] [(0, .int i1), (1, .int i2)] rfl ?_
  unfold fJ7_checkLength_df160
  refine V_iload_n (dJ7_checkLength_df160 0 rfl) 1 rfl 1 rfl ?_
  refine V_iload_n (dJ7_checkLength_df160 1 rfl) 2 rfl 0 rfl ?_
  refine V_icmp_ge (dJ7_checkLength_df160 2 rfl) 37 (by decide) 5 rfl ?_ ?_
  · exact V_vret rfl (dJ7_checkLength_df160 17 rfl) ⟨rfl, rfl⟩
  · exact V_none)
set_option maxRecDepth 20000 in
theorem kJ7_copyOfRangeByte_39247 {E : EX} {l : Launch} (hl : l.stackTraces = false) (q1 : Nat) (n4 : Nat) (f5 : Nat → Int32) (i2 i3 : Int32) : Ct E l mJ7_copyOfRangeByte_39247 [.ref q1, .int i2, .int i3] [(q1, .inl (E.2.2.1, n4, .inl f5))] (fJ7_copyOfRangeByte_39247 n4 f5 i2 i3) (zJ7_copyOfRangeByte_39247 E q1 n4 f5) := Ct_of hl mf_J7_copyOfRangeByte_39247.1 (Nat.le_of_ble_eq_true rfl) (fun K hs => by
  refine V_less 1 13400 (Nat.le_refl _) (Nat.le_refl _) ?_
  refine V_pick [0, 1, 2] [(0, .ref q1), (1, .int i2), (2, .int i3)] rfl ?_
  unfold fJ7_copyOfRangeByte_39247
  refine V_iload_n (dJ7_copyOfRangeByte_39247 0 rfl) 1 rfl 1 rfl ?_
  refine V_iload_n (dJ7_copyOfRangeByte_39247 1 rfl) 2 rfl 2 rfl ?_
  refine V_callS (M := mJ7_copyOfRangeByte_39247) (wcs := []) (wr := [(q1, .inl (E.2.2.1, n4, .inl f5))]) mf_J7_checkLength_df160 tw_765 tw_766 ⟨Nat.le_of_ble_eq_true rfl, Nat.le_of_ble_eq_true rfl⟩ (dJ7_copyOfRangeByte_39247 2 rfl) 5 rfl (kJ7_checkLength_df160 hs i2 i3) rfl [] [0] rfl rfl rfl rfl (by decide) rfl (Nat.le_of_ble_eq_true rfl) 1 13400 (show 1 + 0 ≤ 1 from Nat.le_of_ble_eq_true rfl) (show 13400 + 0 ≤ 13400 from Nat.le_of_ble_eq_true rfl) (fun z6 v w hz => ?_)
  obtain ⟨rfl, rfl⟩ := hz
  show V E K mJ7_copyOfRangeByte_39247 (Qm E K mJ7_copyOfRangeByte_39247 (zJ7_copyOfRangeByte_39247 E q1 n4 f5)) 1 13400 [(q1, .inl (E.2.2.1, n4, .inl f5))] 5 [(0, .ref q1), (1, .int i2), (2, .int i3)] [] _
  refine V_iload_n (dJ7_copyOfRangeByte_39247 3 rfl) 6 rfl 2 rfl ?_
  refine V_iload_n (dJ7_copyOfRangeByte_39247 4 rfl) 7 rfl 1 rfl ?_
  refine V_isub (dJ7_copyOfRangeByte_39247 5 rfl) 8 rfl ?_
  refine V_nmI (fun i7 => ?_)
  refine V_istore_n (dJ7_copyOfRangeByte_39247 6 rfl) 9 rfl [(0, .ref q1), (1, .int i2), (2, .int i3), (3, .int i7)] (Nat.le_of_ble_eq_true rfl) rfl ?_
  refine V_iload_n (dJ7_copyOfRangeByte_39247 7 rfl) 10 rfl 3 rfl ?_
  refine V_newb (by decide) tw_239 (dJ7_copyOfRangeByte_39247 8 rfl) 12 rfl 0 0 (show 0 + 1 ≤ 1 from Nat.le_of_ble_eq_true rfl) (show 0 + 13400 ≤ 13400 from Nat.le_of_ble_eq_true rfl) (fun q8 => ?_)
  refine V_eqW (ws2 := [(q1, .inl (E.2.2.1, n4, .inl f5)), (q8, .inl (E.2.2.1, i7.toNatClampNeg, .inl (fun _ => 0)))]) rfl ?_
  refine V_astore (dJ7_copyOfRangeByte_39247 9 rfl) 14 rfl [(0, .ref q1), (1, .int i2), (2, .int i3), (3, .int i7), (4, .ref q8)] (Nat.le_of_ble_eq_true rfl) rfl ?_
  refine V_aload_n (dJ7_copyOfRangeByte_39247 10 rfl) 15 rfl 0 rfl ?_
  refine V_iload_n (dJ7_copyOfRangeByte_39247 11 rfl) 16 rfl 1 rfl ?_
  refine V_aload (dJ7_copyOfRangeByte_39247 12 rfl) 18 rfl 4 rfl ?_
  refine V_iconst (0 : Int32) (by decide) (dJ7_copyOfRangeByte_39247 13 rfl) 19 rfl ?_
  refine V_aload_n (dJ7_copyOfRangeByte_39247 14 rfl) 20 rfl 0 rfl ?_
  refine V_alenB 0 rfl (Int32.ofNat n4) rfl (dJ7_copyOfRangeByte_39247 15 rfl) 21 rfl ?_
  refine V_iload_n (dJ7_copyOfRangeByte_39247 16 rfl) 22 rfl 1 rfl ?_
  refine V_isub (dJ7_copyOfRangeByte_39247 17 rfl) 23 rfl ?_
  refine V_iload_n (dJ7_copyOfRangeByte_39247 18 rfl) 24 rfl 3 rfl ?_
  refine V_mmin tw_629 tw_341 tw_82 tw_342 (Nat.le_of_ble_eq_true rfl) (Nat.le_of_ble_eq_true rfl) (dJ7_copyOfRangeByte_39247 19 rfl) 27 rfl ?_
  refine V_copyB wc_Y_150 (Nat.le_of_ble_eq_true rfl) (Nat.le_of_ble_eq_true rfl) 0 1 rfl rfl (dJ7_copyOfRangeByte_39247 20 rfl) 30 rfl [(q1, .inl (E.2.2.1, n4, .inl f5)), (q8, .inl (E.2.2.1, i7.toNatClampNeg, .inl (va_cpy f5 (fun _ => 0) i2.toNatClampNeg (0 : Int32).toNatClampNeg (if i7 < ((Int32.ofNat n4) - i2) then i7 else ((Int32.ofNat n4) - i2)).toNatClampNeg)))] rfl ?_
  refine V_aload (dJ7_copyOfRangeByte_39247 21 rfl) 32 rfl 4 rfl ?_
  exact V_aret rfl (Or.inr ⟨_, rfl⟩) (Or.inr ⟨_, rfl⟩) (dJ7_copyOfRangeByte_39247 22 rfl) ⟨q8, rfl, rfl⟩)
set_option maxRecDepth 20000 in
theorem kJ7_copyOfRange_39247 {E : EX} {l : Launch} (hl : l.stackTraces = false) (q1 : Nat) (n4 : Nat) (f5 : Nat → Int32) (i2 i3 : Int32) : Ct E l mJ7_copyOfRange_39247 [.ref q1, .int i2, .int i3] [(q1, .inl (E.2.2.1, n4, .inl f5))] (fJ7_copyOfRange_39247 n4 f5 i2 i3) (zJ7_copyOfRange_39247 E q1 n4 f5) := Ct_of hl mf_J7_copyOfRange_39247.1 (Nat.le_of_ble_eq_true rfl) (fun K hs => by
  refine V_less 1 13400 (Nat.le_refl _) (Nat.le_refl _) ?_
  refine V_pick [0, 1, 2] [(0, .ref q1), (1, .int i2), (2, .int i3)] rfl ?_
  unfold fJ7_copyOfRange_39247
  refine V_iload_n (dJ7_copyOfRange_39247 0 rfl) 1 rfl 1 rfl ?_
  refine V_jn (fun (k6 : Unit → Option (Nat × (Nat → Int32))) => ∀ (_ : Unit), V E K mJ7_copyOfRange_39247 (Qm E K mJ7_copyOfRange_39247 (zJ7_copyOfRange_39247 E q1 n4 f5)) 1 13400 [(q1, .inl (E.2.2.1, n4, .inl f5))] 10 [(0, .ref q1), (1, .int i2), (2, .int i3)] [] (k6 ())) ?_ ?_
  · intro _
    show V E K mJ7_copyOfRange_39247 (Qm E K mJ7_copyOfRange_39247 (zJ7_copyOfRange_39247 E q1 n4 f5)) 1 13400 [(q1, .inl (E.2.2.1, n4, .inl f5))] 10 [(0, .ref q1), (1, .int i2), (2, .int i3)] [] _
    refine V_aload_n (dJ7_copyOfRange_39247 6 rfl) 11 rfl 0 rfl ?_
    refine V_iload_n (dJ7_copyOfRange_39247 7 rfl) 12 rfl 1 rfl ?_
    refine V_iload_n (dJ7_copyOfRange_39247 8 rfl) 13 rfl 2 rfl ?_
    refine V_callS (M := mJ7_copyOfRange_39247) (wcs := [(q1, .inl (E.2.2.1, n4, .inl f5))]) (wr := []) mf_J7_copyOfRangeByte_39247 tw_762 tw_763 ⟨Nat.le_of_ble_eq_true rfl, Nat.le_of_ble_eq_true rfl⟩ (dJ7_copyOfRange_39247 9 rfl) 16 rfl (kJ7_copyOfRangeByte_39247 hs q1 n4 f5 i2 i3) rfl [0] [] rfl rfl rfl rfl (by decide) rfl (Nat.le_of_ble_eq_true rfl) 0 0 (show 0 + 1 ≤ 1 from Nat.le_of_ble_eq_true rfl) (show 0 + 13400 ≤ 13400 from Nat.le_of_ble_eq_true rfl) (fun z9 v w hz => ?_)
    obtain ⟨q10, rfl, rfl⟩ := hz
    show V E K mJ7_copyOfRange_39247 (Qm E K mJ7_copyOfRange_39247 (zJ7_copyOfRange_39247 E q1 n4 f5)) 0 0 [(q1, .inl (E.2.2.1, n4, .inl f5)), (q10, .inl (E.2.2.1, z9.1, .inl z9.2))] 16 [(0, .ref q1), (1, .int i2), (2, .int i3)] [.ref q10] _
    exact V_aret rfl (Or.inr ⟨_, rfl⟩) (Or.inr ⟨_, rfl⟩) (dJ7_copyOfRange_39247 10 rfl) ⟨q10, rfl, rfl⟩
  · intro k6 hk7
    refine V_if_ne (dJ7_copyOfRange_39247 1 rfl) 10 (by decide) 4 rfl ?_ ?_
    · exact hk7 ()
    · refine V_iload_n (dJ7_copyOfRange_39247 2 rfl) 5 rfl 2 rfl ?_
      refine V_aload_n (dJ7_copyOfRange_39247 3 rfl) 6 rfl 0 rfl ?_
      refine V_alenB 0 rfl (Int32.ofNat n4) rfl (dJ7_copyOfRange_39247 4 rfl) 7 rfl ?_
      refine V_icmp_eq (dJ7_copyOfRange_39247 5 rfl) 17 (by decide) 10 rfl ?_ ?_
      · refine V_aload_n (dJ7_copyOfRange_39247 11 rfl) 18 rfl 0 rfl ?_
        refine V_clone (M := mJ7_copyOfRange_39247) tw_622 tw_623 tw_624 tw_625 tw_626 (by decide +kernel) (Nat.le_of_ble_eq_true rfl) (Nat.le_of_ble_eq_true rfl) 0 rfl (dJ7_copyOfRange_39247 12 rfl) 21 rfl 0 0 (show 0 + 1 ≤ 1 from Nat.le_of_ble_eq_true rfl) (show 0 + 13400 ≤ 13400 from Nat.le_of_ble_eq_true rfl) (fun q8 => ?_)
        refine V_eqW (ws2 := [(q1, .inl (E.2.2.1, n4, .inl f5)), (q8, .inl (E.2.2.1, n4, .inl f5))]) rfl ?_
        refine V_castB (M := mJ7_copyOfRange_39247) tw_628 1 rfl (dJ7_copyOfRange_39247 13 rfl) 24 rfl ?_
        exact V_aret rfl (Or.inr ⟨_, rfl⟩) (Or.inr ⟨_, rfl⟩) (dJ7_copyOfRange_39247 14 rfl) ⟨q8, rfl, rfl⟩
      · exact hk7 ())
set_option maxRecDepth 20000 in
theorem kJ0_init_db425 {E : EX} {l : Launch} (hl : l.stackTraces = false) (q1 q2 q6 : Nat) (v3 : Value) (i4 i5 i7 i8 : Int32) (n9 : Nat) (f10 : Nat → Int32) : Ct E l mJ0_init_db425 [.ref q1, .ref q2, .null] [(q1, .inr (7, [v3, .int cZ, .int i4, .int i5])), (q2, .inr (6, [.ref q6, .int cZ, .int i7, .int i8])), (q6, .inl (E.2.2.1, n9, .inl f10))] (fJ0_init_db425 i8 n9 f10) (zJ0_init_db425 E q1 q2 q6 i4 i5 i7 i8 n9 f10) := Ct_of hl mf_J0_init_db425.1 (Nat.le_of_ble_eq_true rfl) (fun K hs => by
  refine V_less 1 13400 (Nat.le_refl _) (Nat.le_refl _) ?_
  refine V_pick [0, 1, 2] [(0, .ref q1), (1, .ref q2), (2, .null)] rfl ?_
  unfold fJ0_init_db425
  refine V_aload_n (dJ0_init_db425 0 rfl) 1 rfl 0 rfl ?_
  refine V_objinit tw_744 tw_98 tw_99 (Nat.le_of_ble_eq_true rfl) (Nat.le_of_ble_eq_true rfl) (dJ0_init_db425 1 rfl) 4 rfl ?_
  refine V_aload_n (dJ0_init_db425 2 rfl) 5 rfl 1 rfl ?_
  refine V_callU (M := mJ0_init_db425) (wcs := [(q2, .inr (6, [.ref q6, .int cZ, .int i7, .int i8])), (q6, .inl (E.2.2.1, n9, .inl f10))]) (wr := [(q1, .inr (7, [v3, .int cZ, .int i4, .int i5]))]) mf_J5_getValue_6d5f1 tw_745 tw_747 tw_746 tw_748 ⟨Nat.le_of_ble_eq_true rfl, Nat.le_of_ble_eq_true rfl⟩ (dJ0_init_db425 3 rfl) 8 rfl (kJ5_getValue_6d5f1 hs q2 q6 i7 i8 n9 f10) rfl [1, 2] [0] (q0 := 0) rfl rfl rfl rfl rfl rfl rfl (by decide) rfl (Nat.le_of_ble_eq_true rfl) 1 13400 (show 1 + 0 ≤ 1 from Nat.le_of_ble_eq_true rfl) (show 13400 + 0 ≤ 13400 from Nat.le_of_ble_eq_true rfl) (fun z11 v w hz => ?_)
  obtain ⟨rfl, rfl⟩ := hz
  show V E K mJ0_init_db425 (Qm E K mJ0_init_db425 (zJ0_init_db425 E q1 q2 q6 i4 i5 i7 i8 n9 f10)) 1 13400 [(q1, .inr (7, [v3, .int cZ, .int i4, .int i5])), (q2, .inr (6, [.ref q6, .int cZ, .int i7, .int i8])), (q6, .inl (E.2.2.1, n9, .inl f10))] 8 [(0, .ref q1), (1, .ref q2), (2, .null)] [.ref q6] _
  refine V_astore_n (dJ0_init_db425 4 rfl) 9 rfl [(0, .ref q1), (1, .ref q2), (2, .null), (3, .ref q6)] (Nat.le_of_ble_eq_true rfl) rfl ?_
  refine V_aload_n (dJ0_init_db425 5 rfl) 10 rfl 1 rfl ?_
  refine V_callO (M := mJ0_init_db425) (wcs := [(q2, .inr (6, [.ref q6, .int cZ, .int i7, .int i8]))]) (wr := [(q1, .inr (7, [v3, .int cZ, .int i4, .int i5])), (q6, .inl (E.2.2.1, n9, .inl f10))]) mf_J4_length_8abf5 tw_750 tw_752 tw_751 tw_754 tw_753 tw_757 ⟨⟨by decide, by decide⟩, by decide +kernel⟩ ⟨Nat.le_of_ble_eq_true rfl, Nat.le_of_ble_eq_true rfl⟩ (dJ0_init_db425 6 rfl) 13 rfl (kJ4_length_8abf5 hs q2 (.ref q6) i7 i8) rfl [1] [0, 2] (q0 := 0) rfl rfl rfl rfl rfl rfl rfl (by decide) rfl (Nat.le_of_ble_eq_true rfl) 1 13400 (show 1 + 0 ≤ 1 from Nat.le_of_ble_eq_true rfl) (show 13400 + 0 ≤ 13400 from Nat.le_of_ble_eq_true rfl) (fun z12 v w hz => ?_)
  obtain ⟨rfl, rfl⟩ := hz
  show V E K mJ0_init_db425 (Qm E K mJ0_init_db425 (zJ0_init_db425 E q1 q2 q6 i4 i5 i7 i8 n9 f10)) 1 13400 [(q1, .inr (7, [v3, .int cZ, .int i4, .int i5])), (q6, .inl (E.2.2.1, n9, .inl f10)), (q2, .inr (6, [.ref q6, .int cZ, .int i7, .int i8]))] 13 [(0, .ref q1), (1, .ref q2), (2, .null), (3, .ref q6)] [.int z12] _
  refine V_istore (dJ0_init_db425 7 rfl) 15 rfl [(0, .ref q1), (1, .ref q2), (2, .null), (3, .ref q6), (4, .int z12)] (Nat.le_of_ble_eq_true rfl) rfl ?_
  refine V_aload_n (dJ0_init_db425 8 rfl) 16 rfl 1 rfl ?_
  refine V_callU (M := mJ0_init_db425) (wcs := [(q2, .inr (6, [.ref q6, .int cZ, .int i7, .int i8]))]) (wr := [(q1, .inr (7, [v3, .int cZ, .int i4, .int i5])), (q6, .inl (E.2.2.1, n9, .inl f10))]) mf_J5_isLatin1_aae02 tw_758 tw_635 tw_634 tw_636 ⟨Nat.le_of_ble_eq_true rfl, Nat.le_of_ble_eq_true rfl⟩ (dJ0_init_db425 9 rfl) 19 rfl (kJ5_isLatin1_aae02 hs q2 (.ref q6) i7 i8) rfl [2] [0, 1] (q0 := 0) rfl rfl rfl rfl rfl rfl rfl (by decide) rfl (Nat.le_of_ble_eq_true rfl) 1 13400 (show 1 + 0 ≤ 1 from Nat.le_of_ble_eq_true rfl) (show 13400 + 0 ≤ 13400 from Nat.le_of_ble_eq_true rfl) (fun z13 v w hz => ?_)
  obtain ⟨rfl, rfl⟩ := hz
  show V E K mJ0_init_db425 (Qm E K mJ0_init_db425 (zJ0_init_db425 E q1 q2 q6 i4 i5 i7 i8 n9 f10)) 1 13400 [(q1, .inr (7, [v3, .int cZ, .int i4, .int i5])), (q6, .inl (E.2.2.1, n9, .inl f10)), (q2, .inr (6, [.ref q6, .int cZ, .int i7, .int i8]))] 19 [(0, .ref q1), (1, .ref q2), (2, .null), (3, .ref q6), (4, .int z12)] [.int (1 : Int32)] _
  refine V_if_eq (dJ0_init_db425 10 rfl) 41 (by decide) 22 rfl ?_ ?_
  · exact V_none
  · refine V_aload_n (dJ0_init_db425 11 rfl) 23 rfl 0 rfl ?_
    refine V_iconst (0 : Int32) (by decide) (dJ0_init_db425 12 rfl) 24 rfl ?_
    refine V_putF pf_Z_15 rfl 0 rfl rfl rfl (Nat.le_of_ble_eq_true rfl) (dJ0_init_db425 13 rfl) 27 rfl [(q1, .inr (7, [v3, .int cZ, .int i4, .int i5])), (q6, .inl (E.2.2.1, n9, .inl f10)), (q2, .inr (6, [.ref q6, .int cZ, .int i7, .int i8]))] rfl ?_
    refine V_aload_n (dJ0_init_db425 14 rfl) 28 rfl 0 rfl ?_
    refine V_aload_n (dJ0_init_db425 15 rfl) 29 rfl 3 rfl ?_
    refine V_iconst (0 : Int32) (by decide) (dJ0_init_db425 16 rfl) 30 rfl ?_
    refine V_iload (dJ0_init_db425 17 rfl) 32 rfl 4 rfl ?_
    refine V_callS (M := mJ0_init_db425) (wcs := [(q6, .inl (E.2.2.1, n9, .inl f10))]) (wr := [(q1, .inr (7, [v3, .int cZ, .int i4, .int i5])), (q2, .inr (6, [.ref q6, .int cZ, .int i7, .int i8]))]) mf_J7_copyOfRange_39247 tw_759 tw_760 ⟨Nat.le_of_ble_eq_true rfl, Nat.le_of_ble_eq_true rfl⟩ (dJ0_init_db425 18 rfl) 35 rfl (kJ7_copyOfRange_39247 hs q6 n9 f10 (0 : Int32) z12) rfl [1] [0, 2] rfl rfl rfl rfl (by decide) rfl (Nat.le_of_ble_eq_true rfl) 0 0 (show 0 + 1 ≤ 1 from Nat.le_of_ble_eq_true rfl) (show 0 + 13400 ≤ 13400 from Nat.le_of_ble_eq_true rfl) (fun z14 v w hz => ?_)
    obtain ⟨q15, rfl, rfl⟩ := hz
    show V E K mJ0_init_db425 (Qm E K mJ0_init_db425 (zJ0_init_db425 E q1 q2 q6 i4 i5 i7 i8 n9 f10)) 0 0 [(q1, .inr (7, [v3, .int cZ, .int i4, .int i5])), (q2, .inr (6, [.ref q6, .int cZ, .int i7, .int i8])), (q6, .inl (E.2.2.1, n9, .inl f10)), (q15, .inl (E.2.2.1, z14.1, .inl z14.2))] 35 [(0, .ref q1), (1, .ref q2), (2, .null), (3, .ref q6), (4, .int z12)] [.ref q15, .ref q1] _
    refine V_putF pf_Z_9 rfl 0 rfl rfl rfl (Nat.le_of_ble_eq_true rfl) (dJ0_init_db425 19 rfl) 38 rfl [(q1, .inr (7, [.ref q15, .int cZ, .int i4, .int i5])), (q2, .inr (6, [.ref q6, .int cZ, .int i7, .int i8])), (q6, .inl (E.2.2.1, n9, .inl f10)), (q15, .inl (E.2.2.1, z14.1, .inl z14.2))] rfl ?_
    refine V_goto (dJ0_init_db425 20 rfl) 97 (by decide) ?_
    refine V_world [0, 3, 1, 2] [(q1, .inr (7, [.ref q15, .int cZ, .int i4, .int i5])), (q15, .inl (E.2.2.1, z14.1, .inl z14.2)), (q2, .inr (6, [.ref q6, .int cZ, .int i7, .int i8])), (q6, .inl (E.2.2.1, n9, .inl f10))] rfl rfl rfl ?_
    exact V_vret rfl (dJ0_init_db425 50 rfl) ⟨q15, rfl, rfl⟩)
set_option maxRecDepth 20000 in
theorem kJ0_init_81219 {E : EX} {l : Launch} (hl : l.stackTraces = false) (q1 q2 q6 : Nat) (v3 : Value) (i4 i5 i7 i8 : Int32) (n9 : Nat) (f10 : Nat → Int32) : Ct E l mJ0_init_81219 [.ref q1, .ref q2] [(q1, .inr (7, [v3, .int cZ, .int i4, .int i5])), (q2, .inr (6, [.ref q6, .int cZ, .int i7, .int i8])), (q6, .inl (E.2.2.1, n9, .inl f10))] (fJ0_init_81219 i8 n9 f10) (zJ0_init_81219 E q1 q2 q6 i4 i5 i7 i8 n9 f10) := Ct_of hl mf_J0_init_81219.1 (Nat.le_of_ble_eq_true rfl) (fun K hs => by
  refine V_less 1 13400 (Nat.le_refl _) (Nat.le_refl _) ?_
  refine V_pick [0, 1] [(0, .ref q1), (1, .ref q2)] rfl ?_
  unfold fJ0_init_81219
  refine V_aload_n (dJ0_init_81219 0 rfl) 1 rfl 0 rfl ?_
  refine V_aload_n (dJ0_init_81219 1 rfl) 2 rfl 1 rfl ?_
  refine V_null (dJ0_init_81219 2 rfl) 3 rfl ?_
  refine V_callI (M := mJ0_init_81219) (wcs := [(q1, .inr (7, [v3, .int cZ, .int i4, .int i5])), (q2, .inr (6, [.ref q6, .int cZ, .int i7, .int i8])), (q6, .inl (E.2.2.1, n9, .inl f10))]) (wr := []) mf_J0_init_db425 rfl rfl tw_741 tw_742 ⟨Nat.le_of_ble_eq_true rfl, Nat.le_of_ble_eq_true rfl⟩ (dJ0_init_81219 3 rfl) 6 rfl (kJ0_init_db425 hs q1 q2 q6 v3 i4 i5 i7 i8 n9 f10) rfl [0, 1, 2] [] rfl rfl rfl rfl (by decide) rfl (Nat.le_of_ble_eq_true rfl) 0 0 (show 0 + 1 ≤ 1 from Nat.le_of_ble_eq_true rfl) (show 0 + 13400 ≤ 13400 from Nat.le_of_ble_eq_true rfl) (fun z11 v w hz => ?_)
  obtain ⟨q12, rfl, rfl⟩ := hz
  show V E K mJ0_init_81219 (Qm E K mJ0_init_81219 (zJ0_init_81219 E q1 q2 q6 i4 i5 i7 i8 n9 f10)) 0 0 [(q1, .inr (7, [.ref q12, .int cZ, .int i4, .int i5])), (q12, .inl (E.2.2.1, z11.1, .inl z11.2)), (q2, .inr (6, [.ref q6, .int cZ, .int i7, .int i8])), (q6, .inl (E.2.2.1, n9, .inl f10))] 6 [(0, .ref q1), (1, .ref q2)] [] _
  exact V_vret rfl (dJ0_init_81219 4 rfl) ⟨q12, rfl, rfl⟩)
set_option maxRecDepth 20000 in
theorem kJ4_toString_0e30d {E : EX} {l : Launch} (hl : l.stackTraces = false) (q1 q2 : Nat) (i3 i4 : Int32) (n5 : Nat) (f6 : Nat → Int32) : Ct E l mJ4_toString_0e30d [.ref q1] [(q1, .inr (6, [.ref q2, .int cZ, .int i3, .int i4])), (q2, .inl (E.2.2.1, n5, .inl f6))] (fJ4_toString_0e30d i4 n5 f6) (zJ4_toString_0e30d E q1 q2 i3 i4 n5 f6) := Ct_of hl mf_J4_toString_0e30d.1 (Nat.le_of_ble_eq_true rfl) (fun K hs => by
  refine V_less 2 13404 (Nat.le_refl _) (Nat.le_refl _) ?_
  refine V_pick [0] [(0, .ref q1)] rfl ?_
  unfold fJ4_toString_0e30d
  refine V_new nf_S_18 (dJ4_toString_0e30d 0 rfl) 3 rfl 1 13400 (show 1 + 1 ≤ 2 from Nat.le_of_ble_eq_true rfl) (show 13400 + 4 ≤ 13404 from Nat.le_of_ble_eq_true rfl) (fun q7 => ?_)
  refine V_eqW (ws2 := [(q1, .inr (6, [.ref q2, .int cZ, .int i3, .int i4])), (q2, .inl (E.2.2.1, n5, .inl f6)), (q7, .inr (7, [.null, .int cZ, .int (0 : Int32), .int (0 : Int32)]))]) rfl ?_
  refine V_dup rfl (dJ4_toString_0e30d 1 rfl) 4 rfl ?_
  refine V_aload_n (dJ4_toString_0e30d 2 rfl) 5 rfl 0 rfl ?_
  refine V_callI (M := mJ4_toString_0e30d) (wcs := [(q7, .inr (7, [.null, .int cZ, .int (0 : Int32), .int (0 : Int32)])), (q1, .inr (6, [.ref q2, .int cZ, .int i3, .int i4])), (q2, .inl (E.2.2.1, n5, .inl f6))]) (wr := []) mf_J0_init_81219 rfl rfl tw_738 tw_739 ⟨Nat.le_of_ble_eq_true rfl, Nat.le_of_ble_eq_true rfl⟩ (dJ4_toString_0e30d 3 rfl) 8 rfl (kJ0_init_81219 hs q7 q1 q2 .null (0 : Int32) (0 : Int32) i3 i4 n5 f6) rfl [2, 0, 1] [] rfl rfl rfl rfl (by decide) rfl (Nat.le_of_ble_eq_true rfl) 0 0 (show 0 + 1 ≤ 1 from Nat.le_of_ble_eq_true rfl) (show 0 + 13400 ≤ 13400 from Nat.le_of_ble_eq_true rfl) (fun z8 v w hz => ?_)
  obtain ⟨q9, rfl, rfl⟩ := hz
  show V E K mJ4_toString_0e30d (Qm E K mJ4_toString_0e30d (zJ4_toString_0e30d E q1 q2 i3 i4 n5 f6)) 0 0 [(q7, .inr (7, [.ref q9, .int cZ, .int (0 : Int32), .int (0 : Int32)])), (q9, .inl (E.2.2.1, z8.1, .inl z8.2)), (q1, .inr (6, [.ref q2, .int cZ, .int i3, .int i4])), (q2, .inl (E.2.2.1, n5, .inl f6))] 8 [(0, .ref q1)] [.ref q7] _
  refine V_world [2, 3, 0, 1] [(q1, .inr (6, [.ref q2, .int cZ, .int i3, .int i4])), (q2, .inl (E.2.2.1, n5, .inl f6)), (q7, .inr (7, [.ref q9, .int cZ, .int (0 : Int32), .int (0 : Int32)])), (q9, .inl (E.2.2.1, z8.1, .inl z8.2))] rfl rfl rfl ?_
  exact V_aret rfl (Or.inl ⟨_, rfl⟩) (Or.inr ⟨_, rfl⟩) (dJ4_toString_0e30d 4 rfl) ⟨q7, q9, rfl, rfl⟩)
set_option maxRecDepth 20000 in
theorem kJ0_coderO {E : EX} {l : Launch} (hl : l.stackTraces = false) (q1 : Nat) (v2 : Value) (i3 i4 : Int32) : Ct E l mJ0_coderO [.ref q1] [(q1, .inr (7, [v2, .int cZ, .int i3, .int i4]))] (fJ0_coderO ) (zJ0_coderO E q1 v2 i3 i4) := Ct_of hl mf_J0_coderO.1 (Nat.le_of_ble_eq_true rfl) (fun K hs => by
  refine V_less 0 0 (Nat.le_refl _) (Nat.le_refl _) ?_
  refine V_pick [0] [(0, .ref q1)] rfl ?_
  unfold fJ0_coderO
  refine V_getsC tw_672 (dJ0_coder_7d493 0 rfl) 3 rfl ?_
  refine V_if_eq (dJ0_coder_7d493 1 rfl) 13 (by decide) 6 rfl ?_ ?_
  · exact V_none
  · refine V_aload_n (dJ0_coder_7d493 2 rfl) 7 rfl 0 rfl ?_
    refine V_get gf_Z_15 0 rfl rfl (dJ0_coder_7d493 3 rfl) 10 rfl ?_
    refine V_goto (dJ0_coder_7d493 4 rfl) 14 (by decide) ?_
    refine V_bz (fun hb => ?_)
    exact V_zret rfl (bz_n hb) (dJ0_coder_7d493 6 rfl) ⟨rfl, rfl⟩)
set_option maxRecDepth 20000 in
theorem kJ0_lengthO {E : EX} {l : Launch} (hl : l.stackTraces = false) (q1 q2 : Nat) (i3 i4 : Int32) (n5 : Nat) (f6 : Nat → Int32) : Ct E l mJ0_lengthO [.ref q1] [(q1, .inr (7, [.ref q2, .int cZ, .int i3, .int i4])), (q2, .inl (E.2.2.1, n5, .inl f6))] (fJ0_lengthO n5) (zJ0_lengthO E q1 q2 i3 i4 n5 f6) := Ct_of hl mf_J0_lengthO.1 (Nat.le_of_ble_eq_true rfl) (fun K hs => by
  refine V_less 0 0 (Nat.le_refl _) (Nat.le_refl _) ?_
  refine V_pick [0] [(0, .ref q1)] rfl ?_
  unfold fJ0_lengthO
  refine V_aload_n (dJ0_length_8abf5 0 rfl) 1 rfl 0 rfl ?_
  refine V_get gf_Z_9 0 rfl rfl (dJ0_length_8abf5 1 rfl) 4 rfl ?_
  refine V_alenB 1 rfl (Int32.ofNat n5) rfl (dJ0_length_8abf5 2 rfl) 5 rfl ?_
  refine V_aload_n (dJ0_length_8abf5 3 rfl) 6 rfl 0 rfl ?_
  refine V_callV (M := mJ0_lengthO) (wcs := [(q1, .inr (7, [.ref q2, .int cZ, .int i3, .int i4]))]) (wr := [(q2, .inl (E.2.2.1, n5, .inl f6))]) mf_J0_coderO tw_668 tw_669 tw_670 ⟨Nat.le_of_ble_eq_true rfl, Nat.le_of_ble_eq_true rfl⟩ (dJ0_length_8abf5 4 rfl) 9 rfl (kJ0_coderO hs q1 (.ref q2) i3 i4) rfl [0] [1] (q0 := 0) rfl rfl rfl rfl (by decide) rfl rfl rfl rfl (Nat.le_of_ble_eq_true rfl) 0 0 (show 0 + 0 ≤ 0 from Nat.le_of_ble_eq_true rfl) (show 0 + 0 ≤ 0 from Nat.le_of_ble_eq_true rfl) (fun z7 v w hz => ?_)
  obtain ⟨rfl, rfl⟩ := hz
  show V E K mJ0_lengthO (Qm E K mJ0_lengthO (zJ0_lengthO E q1 q2 i3 i4 n5 f6)) 0 0 [(q2, .inl (E.2.2.1, n5, .inl f6)), (q1, .inr (7, [.ref q2, .int cZ, .int i3, .int i4]))] 9 [(0, .ref q1)] [.int cZ, .int (Int32.ofNat n5)] _
  refine V_ishr (dJ0_length_8abf5 5 rfl) 10 rfl ?_
  refine V_world [1, 0] [(q1, .inr (7, [.ref q2, .int cZ, .int i3, .int i4])), (q2, .inl (E.2.2.1, n5, .inl f6))] rfl rfl rfl ?_
  exact V_iret rfl (dJ0_length_8abf5 6 rfl) ⟨rfl, rfl⟩)
set_option maxRecDepth 20000 in
theorem kJ5_setLength_d00df {E : EX} {l : Launch} (hl : l.stackTraces = false) (q1 q3 : Nat) (i4 i5 : Int32) (n6 : Nat) (f7 : Nat → Int32) (i2 : Int32) (c0 : Nat) : Ct E l (mJ5_setLength_d00df c0 n6) [.ref q1, .int i2] [(q1, .inr (6, [.ref q3, .int cZ, .int i4, .int i5])), (q3, .inl (E.2.2.1, n6, .inl f7))] (fJ5_setLength_d00df i4 i5 n6 f7 i2 c0) (zJ5_setLength_d00df E q1 i2 c0) := Ct_of hl (mf_J5_setLength_d00df c0 n6).1 (Nat.le_of_ble_eq_true rfl) (fun K hs => by
  refine V_less ((c0 - n6) / 16) (2 * (c0 - n6)) (Nat.le_refl _) (Nat.le_refl _) ?_
  refine V_pick [0, 1] [(0, .ref q1), (1, .int i2)] rfl ?_
  unfold fJ5_setLength_d00df
  refine V_iload_n (dJ5_setLength_d00df 0 rfl) 1 rfl 1 rfl ?_
  refine V_if_ge (dJ5_setLength_d00df 1 rfl) 13 (by decide) 4 rfl ?_ ?_
  · refine V_aload_n (dJ5_setLength_d00df 7 rfl) 14 rfl 0 rfl ?_
    refine V_iload_n (dJ5_setLength_d00df 8 rfl) 15 rfl 1 rfl ?_
    refine V_callU (M := (mJ5_setLength_d00df c0 n6)) (wcs := [(q1, .inr (6, [.ref q3, .int cZ, .int i4, .int i5])), (q3, .inl (E.2.2.1, n6, .inl f7))]) (wr := []) (mf_J5_ensureCapacityInternal_d00df c0 n6) tw_600 tw_1626 tw_602 tx_ensureCapacityInternal ⟨Nat.le_of_ble_eq_true rfl, Nat.le_of_ble_eq_true rfl⟩ (dJ5_setLength_d00df 9 rfl) 18 rfl (kJ5_ensureCapacityInternal_d00df hs q1 q3 i4 i5 n6 f7 i2 c0) rfl [0, 1] [] (q0 := 0) rfl rfl rfl rfl rfl rfl rfl (by decide) rfl (Nat.le_of_ble_eq_true rfl) (((c0 - c0) / 16)) (2 * (c0 - c0)) (show (((c0 - c0) / 16)) + ((c0 - n6) / 16) ≤ (((c0 - n6) / 16)) by omega) (show (2 * (c0 - c0)) + 2 * (c0 - n6) ≤ (2 * (c0 - n6)) by omega) (fun z8 v w hz => ?_)
    obtain ⟨q9, rfl, rfl⟩ := hz
    show V E K (mJ5_setLength_d00df c0 n6) (Qm E K (mJ5_setLength_d00df c0 n6) (zJ5_setLength_d00df E q1 i2 c0)) (((c0 - c0) / 16)) (2 * (c0 - c0)) [(q1, .inr (6, [.ref q9, .int cZ, .int i4, .int i5])), (q9, .inl (E.2.2.1, c0, .inl z8))] 18 [(0, .ref q1), (1, .int i2)] [] _
    refine V_aload_n (dJ5_setLength_d00df 10 rfl) 19 rfl 0 rfl ?_
    refine V_get gf_A_79 0 rfl rfl (dJ5_setLength_d00df 11 rfl) 22 rfl ?_
    refine V_iload_n (dJ5_setLength_d00df 12 rfl) 23 rfl 1 rfl ?_
    refine V_icmp_ge (dJ5_setLength_d00df 13 rfl) 63 (by decide) 26 rfl ?_ ?_
    · refine V_aload_n (dJ5_setLength_d00df 31 rfl) 64 rfl 0 rfl ?_
      refine V_get gf_A_79 0 rfl rfl (dJ5_setLength_d00df 32 rfl) 67 rfl ?_
      refine V_iload_n (dJ5_setLength_d00df 33 rfl) 68 rfl 1 rfl ?_
      refine V_icmp_le (dJ5_setLength_d00df 34 rfl) 76 (by decide) 71 rfl ?_ ?_
      · refine V_aload_n (dJ5_setLength_d00df 38 rfl) 77 rfl 0 rfl ?_
        refine V_iload_n (dJ5_setLength_d00df 39 rfl) 78 rfl 1 rfl ?_
        refine V_put pf_A_79 0 rfl rfl rfl (Nat.le_of_ble_eq_true rfl) (dJ5_setLength_d00df 40 rfl) 81 rfl [(q1, .inr (6, [.ref q9, .int cZ, .int i4, .int i2])), (q9, .inl (E.2.2.1, c0, .inl z8))] rfl ?_
        exact V_vret rfl (dJ5_setLength_d00df 41 rfl) ⟨q9, rfl, rfl⟩
      · refine V_aload_n (dJ5_setLength_d00df 35 rfl) 72 rfl 0 rfl ?_
        refine V_iconst (1 : Int32) (by decide) (dJ5_setLength_d00df 36 rfl) 73 rfl ?_
        refine V_put pf_A_73 0 rfl rfl rfl (Nat.le_of_ble_eq_true rfl) (dJ5_setLength_d00df 37 rfl) 76 rfl [(q1, .inr (6, [.ref q9, .int cZ, .int (1 : Int32), .int i5])), (q9, .inl (E.2.2.1, c0, .inl z8))] rfl ?_
        refine V_aload_n (dJ5_setLength_d00df 38 rfl) 77 rfl 0 rfl ?_
        refine V_iload_n (dJ5_setLength_d00df 39 rfl) 78 rfl 1 rfl ?_
        refine V_put pf_A_79 0 rfl rfl rfl (Nat.le_of_ble_eq_true rfl) (dJ5_setLength_d00df 40 rfl) 81 rfl [(q1, .inr (6, [.ref q9, .int cZ, .int (1 : Int32), .int i2])), (q9, .inl (E.2.2.1, c0, .inl z8))] rfl ?_
        exact V_vret rfl (dJ5_setLength_d00df 41 rfl) ⟨q9, rfl, rfl⟩
    · exact V_none
  · exact V_none)
set_option maxRecDepth 20000 in
theorem kJ4_setLength_d00df {E : EX} {l : Launch} (hl : l.stackTraces = false) (q1 q3 : Nat) (i4 i5 : Int32) (n6 : Nat) (f7 : Nat → Int32) (i2 : Int32) (c0 : Nat) : Ct E l (mJ4_setLength_d00df c0 n6) [.ref q1, .int i2] [(q1, .inr (6, [.ref q3, .int cZ, .int i4, .int i5])), (q3, .inl (E.2.2.1, n6, .inl f7))] (fJ4_setLength_d00df i4 i5 n6 f7 i2 c0) (zJ4_setLength_d00df E q1 i2 c0) := Ct_of hl (mf_J4_setLength_d00df c0 n6).1 (Nat.le_of_ble_eq_true rfl) (fun K hs => by
  refine V_less ((c0 - n6) / 16) (2 * (c0 - n6)) (Nat.le_refl _) (Nat.le_refl _) ?_
  refine V_pick [0, 1] [(0, .ref q1), (1, .int i2)] rfl ?_
  unfold fJ4_setLength_d00df
  refine V_aload_n (dJ4_setLength_d00df 0 rfl) 1 rfl 0 rfl ?_
  refine V_iload_n (dJ4_setLength_d00df 1 rfl) 2 rfl 1 rfl ?_
  refine V_callSU (M := (mJ4_setLength_d00df c0 n6)) (wcs := [(q1, .inr (6, [.ref q3, .int cZ, .int i4, .int i5])), (q3, .inl (E.2.2.1, n6, .inl f7))]) (wr := []) (mf_J5_setLength_d00df c0 n6) tw_578 tw_1623 tw_238 tw_579 (show ("setLength" : String) ≠ "<init>" by decide) ⟨Nat.le_of_ble_eq_true rfl, Nat.le_of_ble_eq_true rfl⟩ (dJ4_setLength_d00df 2 rfl) 5 rfl (kJ5_setLength_d00df hs q1 q3 i4 i5 n6 f7 i2 c0) rfl [0, 1] [] (q0 := 0) rfl rfl rfl rfl rfl (by decide) rfl (Nat.le_of_ble_eq_true rfl) (((c0 - c0) / 16)) (2 * (c0 - c0)) (show (((c0 - c0) / 16)) + ((c0 - n6) / 16) ≤ (((c0 - n6) / 16)) by omega) (show (2 * (c0 - c0)) + 2 * (c0 - n6) ≤ (2 * (c0 - n6)) by omega) (fun z8 v w hz => ?_)
  obtain ⟨q9, rfl, rfl⟩ := hz
  show V E K (mJ4_setLength_d00df c0 n6) (Qm E K (mJ4_setLength_d00df c0 n6) (zJ4_setLength_d00df E q1 i2 c0)) (((c0 - c0) / 16)) (2 * (c0 - c0)) [(q1, .inr (6, [.ref q9, .int cZ, .int z8.1, .int i2])), (q9, .inl (E.2.2.1, c0, .inl z8.2))] 5 [(0, .ref q1), (1, .int i2)] [] _
  exact V_vret rfl (dJ4_setLength_d00df 3 rfl) ⟨q9, rfl, rfl⟩)
