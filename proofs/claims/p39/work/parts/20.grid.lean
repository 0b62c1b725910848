/-! by program: 20.grid -/
theorem cf_0 : cfact 0 RX6 TX6 8 tyX6 := ⟨rfl, by decide +kernel, tyX6_ok, nmX6⟩
theorem cf_1 : cfact 1 RX2 TX2 5 tyX2 := ⟨rfl, by decide +kernel, tyX2_ok, nmX2⟩
theorem cf_2 : cfact 2 RX1 TX1 1 tyX1 := ⟨rfl, by decide +kernel, tyX1_ok, nmX1⟩
theorem cf_3 : cfact 3 RX5 TX5 3 tyX5 := ⟨rfl, by decide +kernel, tyX5_ok, nmX5⟩
theorem cf_4 : cfact 4 RX4 TX4 2 tyX4 := ⟨rfl, by decide +kernel, tyX4_ok, nmX4⟩
theorem cf_5 : cfact 5 RX3 TX3 3 tyX3 := ⟨rfl, by decide +kernel, tyX3_ok, nmX3⟩
theorem cf_6 : cfact 6 RJ4 TJ4 4 tyJ4 := ⟨rfl, by decide +kernel, tyJ4_ok, nmJ4⟩
theorem cf_7 : cfact 7 RJ0 TJ0 4 tyJ0 := ⟨rfl, by decide +kernel, tyJ0_ok, nmJ0⟩
theorem cf_8 : cfact 8 RX7 TX7 2 tyX7 := ⟨rfl, by decide +kernel, tyX7_ok, nmX7⟩
theorem cf_9 : cfact 9 RX8 TX8 9 tyX8 := ⟨rfl, by decide +kernel, tyX8_ok, nmX8⟩
abbrev mX1_init : MX := (yX1_init, cX1_init, 1, (Option.none : Option FieldType), { frames := 1, cells := 1, slots := 81, locals := 24 })
abbrev zX1_init (E : EX) (q1 : Nat) : (Unit) → Option Value → va_W → Prop := fun z v w => ∃ q4 : Nat, v = none ∧ w = [(q1, .inr (2, [.ref q4])), (q4, .inl (E.2.1, 81, .inl (fun _ => 0)))]
abbrev mX1_at : MX := (yX1_at, cX1_at, 3, (some FieldType.int), { frames := 0, cells := 0, slots := 0, locals := 0 })
abbrev zX1_at (E : EX) (q1 : Nat) (q4 : Nat) (f5 : Nat → Int32) : (Int32) → Option Value → va_W → Prop := fun z v w => v = some (.int z) ∧ w = [(q1, .inr (2, [.ref q4])), (q4, .inl (E.2.1, 81, .inl f5))]
abbrev mX1_put : MX := (yX1_put, cX1_put, 4, (Option.none : Option FieldType), { frames := 0, cells := 0, slots := 0, locals := 0 })
abbrev zX1_put (E : EX) (q1 : Nat) (q5 : Nat) : ((Nat → Int32)) → Option Value → va_W → Prop := fun z v w => v = none ∧ w = [(q1, .inr (2, [.ref q5])), (q5, .inl (E.2.1, 81, .inl z))]
abbrev mX1_clear : MX := (yX1_clear, cX1_clear, 2, (Option.none : Option FieldType), { frames := 0, cells := 0, slots := 0, locals := 0 })
abbrev zX1_clear (E : EX) (q1 : Nat) (q2 : Nat) : ((Nat → Int32)) → Option Value → va_W → Prop := fun z v w => v = none ∧ w = [(q1, .inr (2, [.ref q2])), (q2, .inl (E.2.1, 81, .inl z))]
abbrev mX1_become : MX := (yX1_become, cX1_become, 3, (Option.none : Option FieldType), { frames := 0, cells := 0, slots := 0, locals := 0 })
abbrev zX1_become (E : EX) (q1 : Nat) (q3 : Nat) (q2 : Nat) (q5 : Nat) (f6 : Nat → Int32) : ((Nat → Int32)) → Option Value → va_W → Prop := fun z v w => v = none ∧ w = [(q1, .inr (2, [.ref q3])), (q3, .inl (E.2.1, 81, .inl z)), (q2, .inr (2, [.ref q5])), (q5, .inl (E.2.1, 81, .inl f6))]
abbrev mX1_sumFrom : MX := (yX1_sumFrom, cX1_sumFrom, 5, (some FieldType.int), { frames := 1, cells := 0, slots := 0, locals := 22 })
abbrev zX1_sumFrom (E : EX) (q1 : Nat) (q4 : Nat) (f5 : Nat → Int32) : (Int32) → Option Value → va_W → Prop := fun z v w => v = some (.int z) ∧ w = [(q1, .inr (2, [.ref q4])), (q4, .inl (E.2.1, 81, .inl f5))]
abbrev mX1_sumAboveZeroFrom : MX := (yX1_sumAboveZeroFrom, cX1_sumAboveZeroFrom, 5, (some FieldType.int), { frames := 1, cells := 0, slots := 0, locals := 24 })
abbrev zX1_sumAboveZeroFrom (E : EX) (q1 : Nat) (q4 : Nat) (f5 : Nat → Int32) : (Int32) → Option Value → va_W → Prop := fun z v w => v = some (.int z) ∧ w = [(q1, .inr (2, [.ref q4])), (q4, .inl (E.2.1, 81, .inl f5))]
abbrev mX1_sumTo : MX := (yX1_sumTo, cX1_sumTo, 5, (some FieldType.int), { frames := 1, cells := 0, slots := 0, locals := 22 })
abbrev zX1_sumTo (E : EX) (q1 : Nat) (q4 : Nat) (f5 : Nat → Int32) : (Int32) → Option Value → va_W → Prop := fun z v w => v = some (.int z) ∧ w = [(q1, .inr (2, [.ref q4])), (q4, .inl (E.2.1, 81, .inl f5))]
abbrev mX1_countAboveZero : MX := (yX1_countAboveZero, cX1_countAboveZero, 5, (some FieldType.int), { frames := 1, cells := 0, slots := 0, locals := 22 })
abbrev zX1_countAboveZero (E : EX) (q1 : Nat) (q3 : Nat) (f4 : Nat → Int32) : (Int32) → Option Value → va_W → Prop := fun z v w => v = some (.int z) ∧ w = [(q1, .inr (2, [.ref q3])), (q3, .inl (E.2.1, 81, .inl f4))]
abbrev mX1_exchangeCells : MX := (yX1_exchangeCells, cX1_exchangeCells, 6, (Option.none : Option FieldType), { frames := 1, cells := 0, slots := 0, locals := 23 })
abbrev zX1_exchangeCells (E : EX) (q1 : Nat) (q6 : Nat) : ((Nat → Int32)) → Option Value → va_W → Prop := fun z v w => v = none ∧ w = [(q1, .inr (2, [.ref q6])), (q6, .inl (E.2.1, 81, .inl z))]
abbrev mX1_turn : MX := (yX1_turn, cX1_turn, 4, (Option.none : Option FieldType), { frames := 2, cells := 0, slots := 0, locals := 48 })
abbrev zX1_turn (E : EX) (q1 : Nat) (q3 : Nat) : ((Nat → Int32)) → Option Value → va_W → Prop := fun z v w => v = none ∧ w = [(q1, .inr (2, [.ref q3])), (q3, .inl (E.2.1, 81, .inl z))]
abbrev mX1_exchangePlaces : MX := (yX1_exchangePlaces, cX1_exchangePlaces, 5, (Option.none : Option FieldType), { frames := 2, cells := 0, slots := 0, locals := 48 })
abbrev zX1_exchangePlaces (E : EX) (q1 : Nat) (q5 : Nat) : ((Nat → Int32)) → Option Value → va_W → Prop := fun z v w => v = none ∧ w = [(q1, .inr (2, [.ref q5])), (q5, .inl (E.2.1, 81, .inl z))]
noncomputable def fX1_init   : Option (Unit) :=
  some ()
noncomputable def fX1_at  (f5 : Nat → Int32) (i2 : Int32) (i3 : Int32) : Option (Int32) :=
  if i2 < (0 : Int32) then (some (0 : Int32)) else (if (9 : Int32) ≤ i2 then (some (0 : Int32)) else (if i3 < (0 : Int32) then (some (0 : Int32)) else (if i3 < (9 : Int32) then (inB ((i2 * (9 : Int32)) + i3) 81 (some (f5 ((i2 * (9 : Int32)) + i3).toNatClampNeg))) else (some (0 : Int32)))))
noncomputable def fX1_put  (f6 : Nat → Int32) (i2 : Int32) (i3 : Int32) (i4 : Int32) : Option ((Nat → Int32)) :=
  if i2 < (0 : Int32) then (some f6) else (if (9 : Int32) ≤ i2 then (some f6) else (if i3 < (0 : Int32) then (some f6) else (if (9 : Int32) ≤ i3 then (some f6) else (inB ((i2 * (9 : Int32)) + i3) 81 (some (upd f6 ((i2 * (9 : Int32)) + i3).toNatClampNeg i4))))))
noncomputable def BX1_clear_L2   (i7 : Int32) (f8 : Nat → Int32) (rec : Int32 → (Nat → Int32) → Option ((Nat → Int32)))  : Option ((Nat → Int32)) :=
  if (81 : Int32) ≤ i7 then (some f8) else (inB i7 81 (rec (i7 + (1 : Int32)) (upd f8 i7.toNatClampNeg (0 : Int32))))
noncomputable def LX1_clear_L2   : Nat → Int32 → (Nat → Int32) → Option ((Nat → Int32))
  | 0, _, _ => none
  | n + 1, i7, f8 => BX1_clear_L2   i7 f8 (fun i7 f8 => LX1_clear_L2   n i7 f8 ) 
noncomputable def fX1_clear  (f3 : Nat → Int32) : Option ((Nat → Int32)) :=
  LX1_clear_L2   90 (0 : Int32) f3 
noncomputable def BX1_become_L2  (f6 : Nat → Int32) (i12 : Int32) (f13 : Nat → Int32) (rec : Int32 → (Nat → Int32) → Option ((Nat → Int32)))  : Option ((Nat → Int32)) :=
  if (81 : Int32) ≤ i12 then (some f13) else (if (81 : Int32) ≤ i12 then (some f13) else (inB i12 81 (inB i12 81 (rec (i12 + (1 : Int32)) (upd f13 i12.toNatClampNeg (f6 i12.toNatClampNeg))))))
noncomputable def LX1_become_L2  (f6 : Nat → Int32) : Nat → Int32 → (Nat → Int32) → Option ((Nat → Int32))
  | 0, _, _ => none
  | n + 1, i12, f13 => BX1_become_L2  f6 i12 f13 (fun i12 f13 => LX1_become_L2  f6 n i12 f13 ) 
noncomputable def fX1_become  (f4 : Nat → Int32) (f6 : Nat → Int32) : Option ((Nat → Int32)) :=
  LX1_become_L2  f6 90 (0 : Int32) f4 
noncomputable def BX1_sumFrom_L5  (f5 : Nat → Int32) (i2 : Int32) (i3 : Int32) (i14 : Int32) (i15 : Int32) (rec : Int32 → Int32 → Option (Int32))  : Option (Int32) :=
  if i3 ≤ i15 then (some i14) else ((fX1_at f5 i2 i15).bind (fun z16 => nm (i14 + z16) (fun (i17 : Int32) => rec i17 (i15 + (1 : Int32)))))
noncomputable def LX1_sumFrom_L5  (f5 : Nat → Int32) (i2 : Int32) (i3 : Int32) : Nat → Int32 → Int32 → Option (Int32)
  | 0, _, _ => none
  | n + 1, i14, i15 => BX1_sumFrom_L5  f5 i2 i3 i14 i15 (fun i14 i15 => LX1_sumFrom_L5  f5 i2 i3 n i14 i15 ) 
noncomputable def fX1_sumFrom  (f5 : Nat → Int32) (i2 : Int32) (i3 : Int32) : Option (Int32) :=
  LX1_sumFrom_L5  f5 i2 i3 12 (0 : Int32) (0 : Int32) 
noncomputable def BX1_sumAboveZeroFrom_L5  (f5 : Nat → Int32) (i2 : Int32) (i3 : Int32) (i14 : Int32) (i15 : Int32) (rec : Int32 → Int32 → Option (Int32))  : Option (Int32) :=
  if i3 ≤ i15 then (some i14) else ((fX1_at f5 i2 i15).bind (fun z16 => nm (i14 + (if (0 : Int32) < z16 then z16 else (0 : Int32))) (fun (i17 : Int32) => rec i17 (i15 + (1 : Int32)))))
noncomputable def LX1_sumAboveZeroFrom_L5  (f5 : Nat → Int32) (i2 : Int32) (i3 : Int32) : Nat → Int32 → Int32 → Option (Int32)
  | 0, _, _ => none
  | n + 1, i14, i15 => BX1_sumAboveZeroFrom_L5  f5 i2 i3 i14 i15 (fun i14 i15 => LX1_sumAboveZeroFrom_L5  f5 i2 i3 n i14 i15 ) 
noncomputable def fX1_sumAboveZeroFrom  (f5 : Nat → Int32) (i2 : Int32) (i3 : Int32) : Option (Int32) :=
  LX1_sumAboveZeroFrom_L5  f5 i2 i3 12 (0 : Int32) (0 : Int32) 
noncomputable def BX1_sumTo_L5  (f5 : Nat → Int32) (i2 : Int32) (i3 : Int32) (i14 : Int32) (i15 : Int32) (rec : Int32 → Int32 → Option (Int32))  : Option (Int32) :=
  if i3 ≤ i15 then (some i14) else ((fX1_at f5 i15 i2).bind (fun z16 => nm (i14 + z16) (fun (i17 : Int32) => rec i17 (i15 + (1 : Int32)))))
noncomputable def LX1_sumTo_L5  (f5 : Nat → Int32) (i2 : Int32) (i3 : Int32) : Nat → Int32 → Int32 → Option (Int32)
  | 0, _, _ => none
  | n + 1, i14, i15 => BX1_sumTo_L5  f5 i2 i3 i14 i15 (fun i14 i15 => LX1_sumTo_L5  f5 i2 i3 n i14 i15 ) 
noncomputable def fX1_sumTo  (f5 : Nat → Int32) (i2 : Int32) (i3 : Int32) : Option (Int32) :=
  LX1_sumTo_L5  f5 i2 i3 12 (0 : Int32) (0 : Int32) 
noncomputable def BX1_countAboveZero_L12  (f4 : Nat → Int32) (i2 : Int32) (i28 : Int32) (i39 : Int32) (i40 : Int32) (rec : Int32 → Int32 → Option (Int32)) (k1 : Int32 → Option (Int32)) : Option (Int32) :=
  if i2 ≤ i40 then (k1 i39) else ((fX1_at f4 i28 i40).bind (fun z41 => jn (fun (i44 : Int32) => rec i44 (i40 + (1 : Int32))) (fun (k42 : Int32 → Option (Int32)) => if z41 ≤ (0 : Int32) then (k42 i39) else (k42 (i39 + (1 : Int32))))))
noncomputable def LX1_countAboveZero_L12  (f4 : Nat → Int32) (i2 : Int32) (i28 : Int32) : Nat → Int32 → Int32 → (Int32 → Option (Int32)) → Option (Int32)
  | 0, _, _, _ => none
  | n + 1, i39, i40, k1 => BX1_countAboveZero_L12  f4 i2 i28 i39 i40 (fun i39 i40 => LX1_countAboveZero_L12  f4 i2 i28 n i39 i40 k1) k1
noncomputable def BX1_countAboveZero_L4  (f4 : Nat → Int32) (i2 : Int32) (i27 : Int32) (i28 : Int32) (rec : Int32 → Int32 → Option (Int32))  : Option (Int32) :=
  if i2 ≤ i28 then (some i27) else (LX1_countAboveZero_L12  f4 i2 i28 12 i27 (0 : Int32) (fun (i45 : Int32) => rec i45 (i28 + (1 : Int32))))
noncomputable def LX1_countAboveZero_L4  (f4 : Nat → Int32) (i2 : Int32) : Nat → Int32 → Int32 → Option (Int32)
  | 0, _, _ => none
  | n + 1, i27, i28 => BX1_countAboveZero_L4  f4 i2 i27 i28 (fun i27 i28 => LX1_countAboveZero_L4  f4 i2 n i27 i28 ) 
noncomputable def fX1_countAboveZero  (f4 : Nat → Int32) (i2 : Int32) : Option (Int32) :=
  LX1_countAboveZero_L4  f4 i2 12 (0 : Int32) (0 : Int32) 
noncomputable def fX1_exchangeCells  (f7 : Nat → Int32) (i2 : Int32) (i3 : Int32) (i4 : Int32) (i5 : Int32) : Option ((Nat → Int32)) :=
  (fX1_at f7 i2 i3).bind (fun z8 => (fX1_at f7 i4 i5).bind (fun z9 => (fX1_put f7 i2 i3 z9).bind (fun z10 => (fX1_put z10 i4 i5 z8).bind (fun z11 => some z11))))
noncomputable def BX1_turn_L9  (i19 : Int32) (i27 : Int32) (f28 : Nat → Int32) (rec : Int32 → (Nat → Int32) → Option ((Nat → Int32))) (k1 : (Nat → Int32) → Option ((Nat → Int32))) : Option ((Nat → Int32)) :=
  if i19 ≤ i27 then (k1 f28) else ((fX1_exchangeCells f28 i19 i27 i27 i19).bind (fun z29 => rec (i27 + (1 : Int32)) z29))
noncomputable def LX1_turn_L9  (i19 : Int32) : Nat → Int32 → (Nat → Int32) → ((Nat → Int32) → Option ((Nat → Int32))) → Option ((Nat → Int32))
  | 0, _, _, _ => none
  | n + 1, i27, f28, k1 => BX1_turn_L9  i19 i27 f28 (fun i27 f28 => LX1_turn_L9  i19 n i27 f28 k1) k1
noncomputable def BX1_turn_L2  (i2 : Int32) (i19 : Int32) (f20 : Nat → Int32) (rec : Int32 → (Nat → Int32) → Option ((Nat → Int32)))  : Option ((Nat → Int32)) :=
  if i2 ≤ i19 then (some f20) else (LX1_turn_L9  i19 12 (0 : Int32) f20 (fun (f30 : Nat → Int32) => rec (i19 + (1 : Int32)) f30))
noncomputable def LX1_turn_L2  (i2 : Int32) : Nat → Int32 → (Nat → Int32) → Option ((Nat → Int32))
  | 0, _, _ => none
  | n + 1, i19, f20 => BX1_turn_L2  i2 i19 f20 (fun i19 f20 => LX1_turn_L2  i2 n i19 f20 ) 
noncomputable def fX1_turn  (f4 : Nat → Int32) (i2 : Int32) : Option ((Nat → Int32)) :=
  LX1_turn_L2  i2 12 (0 : Int32) f4 
noncomputable def BX1_exchangePlaces_L3  (i2 : Int32) (i3 : Int32) (i4 : Int32) (i14 : Int32) (f15 : Nat → Int32) (rec : Int32 → (Nat → Int32) → Option ((Nat → Int32))) (k1 : (Nat → Int32) → Option ((Nat → Int32))) : Option ((Nat → Int32)) :=
  if i4 ≤ i14 then (k1 f15) else ((fX1_exchangeCells f15 i2 i14 i3 i14).bind (fun z16 => rec (i14 + (1 : Int32)) z16))
noncomputable def LX1_exchangePlaces_L3  (i2 : Int32) (i3 : Int32) (i4 : Int32) : Nat → Int32 → (Nat → Int32) → ((Nat → Int32) → Option ((Nat → Int32))) → Option ((Nat → Int32))
  | 0, _, _, _ => none
  | n + 1, i14, f15, k1 => BX1_exchangePlaces_L3  i2 i3 i4 i14 f15 (fun i14 f15 => LX1_exchangePlaces_L3  i2 i3 i4 n i14 f15 k1) k1
noncomputable def BX1_exchangePlaces_L28  (i2 : Int32) (i3 : Int32) (i4 : Int32) (i25 : Int32) (f26 : Nat → Int32) (rec : Int32 → (Nat → Int32) → Option ((Nat → Int32)))  : Option ((Nat → Int32)) :=
  if i4 ≤ i25 then (some f26) else ((fX1_exchangeCells f26 i25 i2 i25 i3).bind (fun z27 => rec (i25 + (1 : Int32)) z27))
noncomputable def LX1_exchangePlaces_L28  (i2 : Int32) (i3 : Int32) (i4 : Int32) : Nat → Int32 → (Nat → Int32) → Option ((Nat → Int32))
  | 0, _, _ => none
  | n + 1, i25, f26 => BX1_exchangePlaces_L28  i2 i3 i4 i25 f26 (fun i25 f26 => LX1_exchangePlaces_L28  i2 i3 i4 n i25 f26 ) 
noncomputable def fX1_exchangePlaces  (f6 : Nat → Int32) (i2 : Int32) (i3 : Int32) (i4 : Int32) : Option ((Nat → Int32)) :=
  LX1_exchangePlaces_L3  i2 i3 i4 12 (0 : Int32) f6 (fun (f17 : Nat → Int32) => LX1_exchangePlaces_L28  i2 i3 i4 12 (0 : Int32) f17 )
theorem pf_G_9 : pfact "Brookmill$Grid" 9 2 0 (.array .int) true := ⟨RX1, TX1, 1, tyX1, cf_2, by decide, tw_112, rfl, rfl, by decide⟩
theorem gf_G_9 : gfact "Brookmill$Grid" 9 2 0 := ⟨RX1, TX1, 1, tyX1, cf_2, by decide, tw_112⟩
theorem mf_X1_init : mfact mX1_init 0 := ⟨by decide +kernel, ⟨by decide +kernel, by decide +kernel⟩, by decide +kernel, tw_110, tw_67⟩
theorem mf_X1_at : mfact mX1_at 2 := ⟨by decide +kernel, ⟨by decide +kernel, by decide +kernel⟩, by decide +kernel, tw_292, tw_67⟩
theorem mf_X1_put : mfact mX1_put 3 := ⟨by decide +kernel, ⟨by decide +kernel, by decide +kernel⟩, by decide +kernel, tw_296, tw_67⟩
theorem mf_X1_clear : mfact mX1_clear 0 := ⟨by decide +kernel, ⟨by decide +kernel, by decide +kernel⟩, by decide +kernel, tw_247, tw_67⟩
theorem mf_X1_become : mfact mX1_become 1 := ⟨by decide +kernel, ⟨by decide +kernel, by decide +kernel⟩, by decide +kernel, tw_509, tw_67⟩
theorem mf_X1_sumFrom : mfact mX1_sumFrom 2 := ⟨by decide +kernel, ⟨by decide +kernel, by decide +kernel⟩, by decide +kernel, tw_304, tw_67⟩
theorem mf_X1_sumAboveZeroFrom : mfact mX1_sumAboveZeroFrom 2 := ⟨by decide +kernel, ⟨by decide +kernel, by decide +kernel⟩, by decide +kernel, tw_969, tw_67⟩
theorem mf_X1_sumTo : mfact mX1_sumTo 2 := ⟨by decide +kernel, ⟨by decide +kernel, by decide +kernel⟩, by decide +kernel, tw_965, tw_67⟩
theorem mf_X1_countAboveZero : mfact mX1_countAboveZero 1 := ⟨by decide +kernel, ⟨by decide +kernel, by decide +kernel⟩, by decide +kernel, tw_931, tw_67⟩
theorem mf_X1_exchangeCells : mfact mX1_exchangeCells 4 := ⟨by decide +kernel, ⟨by decide +kernel, by decide +kernel⟩, by decide +kernel, tw_288, tw_67⟩
theorem mf_X1_turn : mfact mX1_turn 1 := ⟨by decide +kernel, ⟨by decide +kernel, by decide +kernel⟩, by decide +kernel, tw_284, tw_67⟩
theorem mf_X1_exchangePlaces : mfact mX1_exchangePlaces 3 := ⟨by decide +kernel, ⟨by decide +kernel, by decide +kernel⟩, by decide +kernel, tw_1094, tw_67⟩
set_option maxRecDepth 20000 in
theorem kX1_init {E : EX} {l : Launch} (hl : l.stackTraces = false) (q1 : Nat) (v2 : Value) : Ct E l mX1_init [.ref q1] [(q1, .inr (2, [v2]))] (fX1_init ) (zX1_init E q1) := Ct_of hl mf_X1_init.1 (Nat.le_of_ble_eq_true rfl) (fun K hs => by
  refine V_less 1 81 (Nat.le_refl _) (Nat.le_refl _) ?_
  refine V_pick [0] [(0, .ref q1)] rfl ?_
  unfold fX1_init
  refine V_aload_n (dX1_init 0 rfl) 1 rfl 0 rfl ?_
  refine V_objinit tw_111 tw_98 tw_99 (Nat.le_of_ble_eq_true rfl) (Nat.le_of_ble_eq_true rfl) (dX1_init 1 rfl) 4 rfl ?_
  refine V_aload_n (dX1_init 2 rfl) 5 rfl 0 rfl ?_
  refine V_bipush (81 : Int32) (by decide) (dX1_init 3 rfl) 7 rfl ?_
  refine V_newc 81 (by decide) (by decide) (by decide) tw_116 (dX1_init 4 rfl) 9 rfl 0 0 (show 0 + 1 ≤ 1 from Nat.le_of_ble_eq_true rfl) (show 0 + 81 ≤ 81 from Nat.le_of_ble_eq_true rfl) (fun q3 => ?_)
  refine V_eqW (ws2 := [(q1, .inr (2, [v2])), (q3, .inl (E.2.1, 81, .inl (fun _ => 0)))]) rfl ?_
  refine V_putF pf_G_9 rfl 0 rfl rfl rfl (Nat.le_of_ble_eq_true rfl) (dX1_init 5 rfl) 12 rfl [(q1, .inr (2, [.ref q3])), (q3, .inl (E.2.1, 81, .inl (fun _ => 0)))] rfl ?_
  exact V_vret rfl (dX1_init 6 rfl) ⟨q3, rfl, rfl⟩)
set_option maxRecDepth 20000 in
theorem kX1_at {E : EX} {l : Launch} (hl : l.stackTraces = false) (q1 q4 : Nat) (f5 : Nat → Int32) (i2 i3 : Int32) : Ct E l mX1_at [.ref q1, .int i2, .int i3] [(q1, .inr (2, [.ref q4])), (q4, .inl (E.2.1, 81, .inl f5))] (fX1_at f5 i2 i3) (zX1_at E q1 q4 f5) := Ct_of hl mf_X1_at.1 (Nat.le_of_ble_eq_true rfl) (fun K hs => by
  refine V_less 0 0 (Nat.le_refl _) (Nat.le_refl _) ?_
  refine V_pick [0, 1, 2] [(0, .ref q1), (1, .int i2), (2, .int i3)] rfl ?_
  unfold fX1_at
  refine V_iload_n (dX1_at 0 rfl) 1 rfl 1 rfl ?_
  refine V_if_lt (dX1_at 1 rfl) 20 (by decide) 4 rfl ?_ ?_
  · refine V_iconst (0 : Int32) (by decide) (dX1_at 10 rfl) 21 rfl ?_
    exact V_iret rfl (dX1_at 11 rfl) ⟨rfl, rfl⟩
  · refine V_iload_n (dX1_at 2 rfl) 5 rfl 1 rfl ?_
    refine V_bipush (9 : Int32) (by decide) (dX1_at 3 rfl) 7 rfl ?_
    refine V_icmp_ge (dX1_at 4 rfl) 20 (by decide) 10 rfl ?_ ?_
    · refine V_iconst (0 : Int32) (by decide) (dX1_at 10 rfl) 21 rfl ?_
      exact V_iret rfl (dX1_at 11 rfl) ⟨rfl, rfl⟩
    · refine V_iload_n (dX1_at 5 rfl) 11 rfl 2 rfl ?_
      refine V_if_lt (dX1_at 6 rfl) 20 (by decide) 14 rfl ?_ ?_
      · refine V_iconst (0 : Int32) (by decide) (dX1_at 10 rfl) 21 rfl ?_
        exact V_iret rfl (dX1_at 11 rfl) ⟨rfl, rfl⟩
      · refine V_iload_n (dX1_at 7 rfl) 15 rfl 2 rfl ?_
        refine V_bipush (9 : Int32) (by decide) (dX1_at 8 rfl) 17 rfl ?_
        refine V_icmp_lt (dX1_at 9 rfl) 22 (by decide) 20 rfl ?_ ?_
        · refine V_aload_n (dX1_at 12 rfl) 23 rfl 0 rfl ?_
          refine V_get gf_G_9 0 rfl rfl (dX1_at 13 rfl) 26 rfl ?_
          refine V_iload_n (dX1_at 14 rfl) 27 rfl 1 rfl ?_
          refine V_bipush (9 : Int32) (by decide) (dX1_at 15 rfl) 29 rfl ?_
          refine V_imul (dX1_at 16 rfl) 30 rfl ?_
          refine V_iload_n (dX1_at 17 rfl) 31 rfl 2 rfl ?_
          refine V_iadd (dX1_at 18 rfl) 32 rfl ?_
          refine V_iald 1 rfl (dX1_at 19 rfl) 33 rfl ?_
          exact V_iret rfl (dX1_at 20 rfl) ⟨rfl, rfl⟩
        · refine V_iconst (0 : Int32) (by decide) (dX1_at 10 rfl) 21 rfl ?_
          exact V_iret rfl (dX1_at 11 rfl) ⟨rfl, rfl⟩)
set_option maxRecDepth 20000 in
theorem kX1_put {E : EX} {l : Launch} (hl : l.stackTraces = false) (q1 q5 : Nat) (f6 : Nat → Int32) (i2 i3 i4 : Int32) : Ct E l mX1_put [.ref q1, .int i2, .int i3, .int i4] [(q1, .inr (2, [.ref q5])), (q5, .inl (E.2.1, 81, .inl f6))] (fX1_put f6 i2 i3 i4) (zX1_put E q1 q5) := Ct_of hl mf_X1_put.1 (Nat.le_of_ble_eq_true rfl) (fun K hs => by
  refine V_less 0 0 (Nat.le_refl _) (Nat.le_refl _) ?_
  refine V_pick [0, 1, 2, 3] [(0, .ref q1), (1, .int i2), (2, .int i3), (3, .int i4)] rfl ?_
  unfold fX1_put
  refine V_iload_n (dX1_put 0 rfl) 1 rfl 1 rfl ?_
  refine V_if_lt (dX1_put 1 rfl) 32 (by decide) 4 rfl ?_ ?_
  · exact V_vret rfl (dX1_put 19 rfl) ⟨rfl, rfl⟩
  · refine V_iload_n (dX1_put 2 rfl) 5 rfl 1 rfl ?_
    refine V_bipush (9 : Int32) (by decide) (dX1_put 3 rfl) 7 rfl ?_
    refine V_icmp_ge (dX1_put 4 rfl) 32 (by decide) 10 rfl ?_ ?_
    · exact V_vret rfl (dX1_put 19 rfl) ⟨rfl, rfl⟩
    · refine V_iload_n (dX1_put 5 rfl) 11 rfl 2 rfl ?_
      refine V_if_lt (dX1_put 6 rfl) 32 (by decide) 14 rfl ?_ ?_
      · exact V_vret rfl (dX1_put 19 rfl) ⟨rfl, rfl⟩
      · refine V_iload_n (dX1_put 7 rfl) 15 rfl 2 rfl ?_
        refine V_bipush (9 : Int32) (by decide) (dX1_put 8 rfl) 17 rfl ?_
        refine V_icmp_ge (dX1_put 9 rfl) 32 (by decide) 20 rfl ?_ ?_
        · exact V_vret rfl (dX1_put 19 rfl) ⟨rfl, rfl⟩
        · refine V_aload_n (dX1_put 10 rfl) 21 rfl 0 rfl ?_
          refine V_get gf_G_9 0 rfl rfl (dX1_put 11 rfl) 24 rfl ?_
          refine V_iload_n (dX1_put 12 rfl) 25 rfl 1 rfl ?_
          refine V_bipush (9 : Int32) (by decide) (dX1_put 13 rfl) 27 rfl ?_
          refine V_imul (dX1_put 14 rfl) 28 rfl ?_
          refine V_iload_n (dX1_put 15 rfl) 29 rfl 2 rfl ?_
          refine V_iadd (dX1_put 16 rfl) 30 rfl ?_
          refine V_iload_n (dX1_put 17 rfl) 31 rfl 3 rfl ?_
          refine V_iast 1 rfl (dX1_put 18 rfl) 32 rfl [(q1, .inr (2, [.ref q5])), (q5, .inl (E.2.1, 81, .inl (upd f6 ((i2 * (9 : Int32)) + i3).toNatClampNeg i4)))] rfl ?_
          exact V_vret rfl (dX1_put 19 rfl) ⟨rfl, rfl⟩)
set_option maxRecDepth 20000 in
theorem vBX1_clear_L2 {E : EX} {K : KX} (hs : K.l.stackTraces = false) (q1 q2 : Nat)  (bc bs : Nat) (i7 : Int32) (f8 : Nat → Int32) {rec : Int32 → (Nat → Int32) → Option ((Nat → Int32))}  (hrec : ∀ (i7 : Int32) (f8 : Nat → Int32), V E K mX1_clear (Qm E K mX1_clear (zX1_clear E q1 q2)) (bc) (bs) [(q1, .inr (2, [.ref q2])), (q2, .inl (E.2.1, 81, .inl f8))] 2 [(0, .ref q1), (1, .int i7)] [] (rec i7 f8))  : V E K mX1_clear (Qm E K mX1_clear (zX1_clear E q1 q2)) (bc) (bs) [(q1, .inr (2, [.ref q2])), (q2, .inl (E.2.1, 81, .inl f8))] 2 [(0, .ref q1), (1, .int i7)] [] (BX1_clear_L2   i7 f8 rec ) := by
  unfold BX1_clear_L2
  refine V_iload_n (dX1_clear 2 rfl) 3 rfl 1 rfl ?_
  refine V_aload_n (dX1_clear 3 rfl) 4 rfl 0 rfl ?_
  refine V_get gf_G_9 0 rfl rfl (dX1_clear 4 rfl) 7 rfl ?_
  refine V_alen 1 rfl ((81 : Int32)) (show Int32.ofNat 81 = (81 : Int32) by decide) (dX1_clear 5 rfl) 8 rfl ?_
  refine V_icmp_ge (dX1_clear 6 rfl) 24 (by decide) 11 rfl ?_ ?_
  · exact V_vret rfl (dX1_clear 14 rfl) ⟨rfl, rfl⟩
  · refine V_aload_n (dX1_clear 7 rfl) 12 rfl 0 rfl ?_
    refine V_get gf_G_9 0 rfl rfl (dX1_clear 8 rfl) 15 rfl ?_
    refine V_iload_n (dX1_clear 9 rfl) 16 rfl 1 rfl ?_
    refine V_iconst (0 : Int32) (by decide) (dX1_clear 10 rfl) 17 rfl ?_
    refine V_iast 1 rfl (dX1_clear 11 rfl) 18 rfl [(q1, .inr (2, [.ref q2])), (q2, .inl (E.2.1, 81, .inl (upd f8 i7.toNatClampNeg (0 : Int32))))] rfl ?_
    refine V_iinc (dX1_clear 12 rfl) 21 rfl 1 rfl (i7 + (1 : Int32)) rfl [(0, .ref q1), (1, .int (i7 + (1 : Int32)))] (Nat.le_of_ble_eq_true rfl) rfl ?_
    refine V_goto (dX1_clear 13 rfl) 2 (by decide) ?_
    exact hrec (i7 + (1 : Int32)) (upd f8 i7.toNatClampNeg (0 : Int32))
set_option maxRecDepth 20000 in
theorem vLX1_clear_L2 {E : EX} {K : KX} (hs : K.l.stackTraces = false) (q1 q2 : Nat)  (bc bs : Nat)   : ∀ (n : Nat) (i7 : Int32) (f8 : Nat → Int32), V E K mX1_clear (Qm E K mX1_clear (zX1_clear E q1 q2)) (bc) (bs) [(q1, .inr (2, [.ref q2])), (q2, .inl (E.2.1, 81, .inl f8))] 2 [(0, .ref q1), (1, .int i7)] [] (LX1_clear_L2   n i7 f8 )
  | 0, _, _ => V_none
  | n + 1, i7, f8 => vBX1_clear_L2 hs q1 q2 bc bs i7 f8 (fun i7 f8 => vLX1_clear_L2 hs q1 q2 bc bs  n i7 f8) 
set_option maxRecDepth 20000 in
theorem kX1_clear {E : EX} {l : Launch} (hl : l.stackTraces = false) (q1 q2 : Nat) (f3 : Nat → Int32) : Ct E l mX1_clear [.ref q1] [(q1, .inr (2, [.ref q2])), (q2, .inl (E.2.1, 81, .inl f3))] (fX1_clear f3) (zX1_clear E q1 q2) := Ct_of hl mf_X1_clear.1 (Nat.le_of_ble_eq_true rfl) (fun K hs => by
  refine V_less 0 0 (Nat.le_refl _) (Nat.le_refl _) ?_
  refine V_pick [0] [(0, .ref q1)] rfl ?_
  unfold fX1_clear
  refine V_iconst (0 : Int32) (by decide) (dX1_clear 0 rfl) 1 rfl ?_
  refine V_istore_n (dX1_clear 1 rfl) 2 rfl [(0, .ref q1), (1, .int (0 : Int32))] (Nat.le_of_ble_eq_true rfl) rfl ?_
  refine vLX1_clear_L2 hs q1 q2  0 0  90 (0 : Int32) f3)
set_option maxRecDepth 20000 in
theorem vBX1_become_L2 {E : EX} {K : KX} (hs : K.l.stackTraces = false) (q1 q3 q2 q5 : Nat) (f6 : Nat → Int32) (bc bs : Nat) (i12 : Int32) (f13 : Nat → Int32) {rec : Int32 → (Nat → Int32) → Option ((Nat → Int32))}  (hrec : ∀ (i12 : Int32) (f13 : Nat → Int32), V E K mX1_become (Qm E K mX1_become (zX1_become E q1 q3 q2 q5 f6)) (bc) (bs) [(q1, .inr (2, [.ref q3])), (q3, .inl (E.2.1, 81, .inl f13)), (q2, .inr (2, [.ref q5])), (q5, .inl (E.2.1, 81, .inl f6))] 2 [(0, .ref q1), (1, .ref q2), (2, .int i12)] [] (rec i12 f13))  : V E K mX1_become (Qm E K mX1_become (zX1_become E q1 q3 q2 q5 f6)) (bc) (bs) [(q1, .inr (2, [.ref q3])), (q3, .inl (E.2.1, 81, .inl f13)), (q2, .inr (2, [.ref q5])), (q5, .inl (E.2.1, 81, .inl f6))] 2 [(0, .ref q1), (1, .ref q2), (2, .int i12)] [] (BX1_become_L2  f6 i12 f13 rec ) := by
  unfold BX1_become_L2
  refine V_iload_n (dX1_become 2 rfl) 3 rfl 2 rfl ?_
  refine V_aload_n (dX1_become 3 rfl) 4 rfl 0 rfl ?_
  refine V_get gf_G_9 0 rfl rfl (dX1_become 4 rfl) 7 rfl ?_
  refine V_alen 1 rfl ((81 : Int32)) (show Int32.ofNat 81 = (81 : Int32) by decide) (dX1_become 5 rfl) 8 rfl ?_
  refine V_icmp_ge (dX1_become 6 rfl) 38 (by decide) 11 rfl ?_ ?_
  · exact V_vret rfl (dX1_become 22 rfl) ⟨rfl, rfl⟩
  · refine V_iload_n (dX1_become 7 rfl) 12 rfl 2 rfl ?_
    refine V_aload_n (dX1_become 8 rfl) 13 rfl 1 rfl ?_
    refine V_get gf_G_9 2 rfl rfl (dX1_become 9 rfl) 16 rfl ?_
    refine V_alen 3 rfl ((81 : Int32)) (show Int32.ofNat 81 = (81 : Int32) by decide) (dX1_become 10 rfl) 17 rfl ?_
    refine V_icmp_ge (dX1_become 11 rfl) 38 (by decide) 20 rfl ?_ ?_
    · exact V_vret rfl (dX1_become 22 rfl) ⟨rfl, rfl⟩
    · refine V_aload_n (dX1_become 12 rfl) 21 rfl 0 rfl ?_
      refine V_get gf_G_9 0 rfl rfl (dX1_become 13 rfl) 24 rfl ?_
      refine V_iload_n (dX1_become 14 rfl) 25 rfl 2 rfl ?_
      refine V_aload_n (dX1_become 15 rfl) 26 rfl 1 rfl ?_
      refine V_get gf_G_9 2 rfl rfl (dX1_become 16 rfl) 29 rfl ?_
      refine V_iload_n (dX1_become 17 rfl) 30 rfl 2 rfl ?_
      refine V_iald 3 rfl (dX1_become 18 rfl) 31 rfl ?_
      refine V_iast 1 rfl (dX1_become 19 rfl) 32 rfl [(q1, .inr (2, [.ref q3])), (q3, .inl (E.2.1, 81, .inl (upd f13 i12.toNatClampNeg (f6 i12.toNatClampNeg)))), (q2, .inr (2, [.ref q5])), (q5, .inl (E.2.1, 81, .inl f6))] rfl ?_
      refine V_iinc (dX1_become 20 rfl) 35 rfl 2 rfl (i12 + (1 : Int32)) rfl [(0, .ref q1), (1, .ref q2), (2, .int (i12 + (1 : Int32)))] (Nat.le_of_ble_eq_true rfl) rfl ?_
      refine V_goto (dX1_become 21 rfl) 2 (by decide) ?_
      exact hrec (i12 + (1 : Int32)) (upd f13 i12.toNatClampNeg (f6 i12.toNatClampNeg))
set_option maxRecDepth 20000 in
theorem vLX1_become_L2 {E : EX} {K : KX} (hs : K.l.stackTraces = false) (q1 q3 q2 q5 : Nat) (f6 : Nat → Int32) (bc bs : Nat)   : ∀ (n : Nat) (i12 : Int32) (f13 : Nat → Int32), V E K mX1_become (Qm E K mX1_become (zX1_become E q1 q3 q2 q5 f6)) (bc) (bs) [(q1, .inr (2, [.ref q3])), (q3, .inl (E.2.1, 81, .inl f13)), (q2, .inr (2, [.ref q5])), (q5, .inl (E.2.1, 81, .inl f6))] 2 [(0, .ref q1), (1, .ref q2), (2, .int i12)] [] (LX1_become_L2  f6 n i12 f13 )
  | 0, _, _ => V_none
  | n + 1, i12, f13 => vBX1_become_L2 hs q1 q3 q2 q5 f6 bc bs i12 f13 (fun i12 f13 => vLX1_become_L2 hs q1 q3 q2 q5 f6 bc bs  n i12 f13) 
set_option maxRecDepth 20000 in
theorem kX1_become {E : EX} {l : Launch} (hl : l.stackTraces = false) (q1 q2 q3 q5 : Nat) (f4 f6 : Nat → Int32) : Ct E l mX1_become [.ref q1, .ref q2] [(q1, .inr (2, [.ref q3])), (q3, .inl (E.2.1, 81, .inl f4)), (q2, .inr (2, [.ref q5])), (q5, .inl (E.2.1, 81, .inl f6))] (fX1_become f4 f6) (zX1_become E q1 q3 q2 q5 f6) := Ct_of hl mf_X1_become.1 (Nat.le_of_ble_eq_true rfl) (fun K hs => by
  refine V_less 0 0 (Nat.le_refl _) (Nat.le_refl _) ?_
  refine V_pick [0, 1] [(0, .ref q1), (1, .ref q2)] rfl ?_
  unfold fX1_become
  refine V_iconst (0 : Int32) (by decide) (dX1_become 0 rfl) 1 rfl ?_
  refine V_istore_n (dX1_become 1 rfl) 2 rfl [(0, .ref q1), (1, .ref q2), (2, .int (0 : Int32))] (Nat.le_of_ble_eq_true rfl) rfl ?_
  refine vLX1_become_L2 hs q1 q3 q2 q5 f6 0 0  90 (0 : Int32) f4)
set_option maxRecDepth 20000 in
theorem vBX1_sumFrom_L5 {E : EX} {K : KX} (hs : K.l.stackTraces = false) (q1 q4 : Nat) (f5 : Nat → Int32) (i2 i3 : Int32) (bc bs : Nat) (i14 i15 : Int32) {rec : Int32 → Int32 → Option (Int32)}  (hrec : ∀ (i14 i15 : Int32), V E K mX1_sumFrom (Qm E K mX1_sumFrom (zX1_sumFrom E q1 q4 f5)) (bc) (bs) [(q1, .inr (2, [.ref q4])), (q4, .inl (E.2.1, 81, .inl f5))] 5 [(0, .ref q1), (1, .int i2), (2, .int i3), (3, .int i14), (4, .int i15)] [] (rec i14 i15))  : V E K mX1_sumFrom (Qm E K mX1_sumFrom (zX1_sumFrom E q1 q4 f5)) (bc) (bs) [(q1, .inr (2, [.ref q4])), (q4, .inl (E.2.1, 81, .inl f5))] 5 [(0, .ref q1), (1, .int i2), (2, .int i3), (3, .int i14), (4, .int i15)] [] (BX1_sumFrom_L5  f5 i2 i3 i14 i15 rec ) := by
  unfold BX1_sumFrom_L5
  refine V_iload (dX1_sumFrom 4 rfl) 7 rfl 4 rfl ?_
  refine V_iload_n (dX1_sumFrom 5 rfl) 8 rfl 2 rfl ?_
  refine V_icmp_ge (dX1_sumFrom 6 rfl) 27 (by decide) 11 rfl ?_ ?_
  · refine V_iload_n (dX1_sumFrom 16 rfl) 28 rfl 3 rfl ?_
    exact V_iret rfl (dX1_sumFrom 17 rfl) ⟨rfl, rfl⟩
  · refine V_iload_n (dX1_sumFrom 7 rfl) 12 rfl 3 rfl ?_
    refine V_aload_n (dX1_sumFrom 8 rfl) 13 rfl 0 rfl ?_
    refine V_iload_n (dX1_sumFrom 9 rfl) 14 rfl 1 rfl ?_
    refine V_iload (dX1_sumFrom 10 rfl) 16 rfl 4 rfl ?_
    refine V_callV (M := mX1_sumFrom) (wcs := [(q1, .inr (2, [.ref q4])), (q4, .inl (E.2.1, 81, .inl f5))]) (wr := []) mf_X1_at tw_289 tw_290 tw_291 ⟨Nat.le_of_ble_eq_true rfl, Nat.le_of_ble_eq_true rfl⟩ (dX1_sumFrom 11 rfl) 19 rfl (kX1_at hs q1 q4 f5 i2 i15) rfl [0, 1] [] (q0 := 0) rfl rfl rfl rfl (by decide) rfl rfl rfl rfl (Nat.le_of_ble_eq_true rfl) (bc) (bs) (show (bc) + 0 ≤ (bc) by omega) (show (bs) + 0 ≤ (bs) by omega) (fun z16 v w hz => ?_)
    obtain ⟨rfl, rfl⟩ := hz
    show V E K mX1_sumFrom (Qm E K mX1_sumFrom (zX1_sumFrom E q1 q4 f5)) (bc) (bs) [(q1, .inr (2, [.ref q4])), (q4, .inl (E.2.1, 81, .inl f5))] 19 [(0, .ref q1), (1, .int i2), (2, .int i3), (3, .int i14), (4, .int i15)] [.int z16, .int i14] _
    refine V_iadd (dX1_sumFrom 12 rfl) 20 rfl ?_
    refine V_nmI (fun i17 => ?_)
    refine V_istore_n (dX1_sumFrom 13 rfl) 21 rfl [(0, .ref q1), (1, .int i2), (2, .int i3), (3, .int i17), (4, .int i15)] (Nat.le_of_ble_eq_true rfl) rfl ?_
    refine V_iinc (dX1_sumFrom 14 rfl) 24 rfl 4 rfl (i15 + (1 : Int32)) rfl [(0, .ref q1), (1, .int i2), (2, .int i3), (3, .int i17), (4, .int (i15 + (1 : Int32)))] (Nat.le_of_ble_eq_true rfl) rfl ?_
    refine V_goto (dX1_sumFrom 15 rfl) 5 (by decide) ?_
    exact hrec i17 (i15 + (1 : Int32))
set_option maxRecDepth 20000 in
theorem vLX1_sumFrom_L5 {E : EX} {K : KX} (hs : K.l.stackTraces = false) (q1 q4 : Nat) (f5 : Nat → Int32) (i2 i3 : Int32) (bc bs : Nat)   : ∀ (n : Nat) (i14 i15 : Int32), V E K mX1_sumFrom (Qm E K mX1_sumFrom (zX1_sumFrom E q1 q4 f5)) (bc) (bs) [(q1, .inr (2, [.ref q4])), (q4, .inl (E.2.1, 81, .inl f5))] 5 [(0, .ref q1), (1, .int i2), (2, .int i3), (3, .int i14), (4, .int i15)] [] (LX1_sumFrom_L5  f5 i2 i3 n i14 i15 )
  | 0, _, _ => V_none
  | n + 1, i14, i15 => vBX1_sumFrom_L5 hs q1 q4 f5 i2 i3 bc bs i14 i15 (fun i14 i15 => vLX1_sumFrom_L5 hs q1 q4 f5 i2 i3 bc bs  n i14 i15) 
set_option maxRecDepth 20000 in
theorem kX1_sumFrom {E : EX} {l : Launch} (hl : l.stackTraces = false) (q1 q4 : Nat) (f5 : Nat → Int32) (i2 i3 : Int32) : Ct E l mX1_sumFrom [.ref q1, .int i2, .int i3] [(q1, .inr (2, [.ref q4])), (q4, .inl (E.2.1, 81, .inl f5))] (fX1_sumFrom f5 i2 i3) (zX1_sumFrom E q1 q4 f5) := Ct_of hl mf_X1_sumFrom.1 (Nat.le_of_ble_eq_true rfl) (fun K hs => by
  refine V_less 0 0 (Nat.le_refl _) (Nat.le_refl _) ?_
  refine V_pick [0, 1, 2] [(0, .ref q1), (1, .int i2), (2, .int i3)] rfl ?_
  unfold fX1_sumFrom
  refine V_iconst (0 : Int32) (by decide) (dX1_sumFrom 0 rfl) 1 rfl ?_
  refine V_istore_n (dX1_sumFrom 1 rfl) 2 rfl [(0, .ref q1), (1, .int i2), (2, .int i3), (3, .int (0 : Int32))] (Nat.le_of_ble_eq_true rfl) rfl ?_
  refine V_iconst (0 : Int32) (by decide) (dX1_sumFrom 2 rfl) 3 rfl ?_
  refine V_istore (dX1_sumFrom 3 rfl) 5 rfl [(0, .ref q1), (1, .int i2), (2, .int i3), (3, .int (0 : Int32)), (4, .int (0 : Int32))] (Nat.le_of_ble_eq_true rfl) rfl ?_
  refine vLX1_sumFrom_L5 hs q1 q4 f5 i2 i3 0 0  12 (0 : Int32) (0 : Int32))
set_option maxRecDepth 20000 in
theorem vBX1_sumAboveZeroFrom_L5 {E : EX} {K : KX} (hs : K.l.stackTraces = false) (q1 q4 : Nat) (f5 : Nat → Int32) (i2 i3 : Int32) (bc bs : Nat) (i14 i15 : Int32) {rec : Int32 → Int32 → Option (Int32)}  (hrec : ∀ (i14 i15 : Int32), V E K mX1_sumAboveZeroFrom (Qm E K mX1_sumAboveZeroFrom (zX1_sumAboveZeroFrom E q1 q4 f5)) (bc) (bs) [(q1, .inr (2, [.ref q4])), (q4, .inl (E.2.1, 81, .inl f5))] 5 [(0, .ref q1), (1, .int i2), (2, .int i3), (3, .int i14), (4, .int i15)] [] (rec i14 i15))  : V E K mX1_sumAboveZeroFrom (Qm E K mX1_sumAboveZeroFrom (zX1_sumAboveZeroFrom E q1 q4 f5)) (bc) (bs) [(q1, .inr (2, [.ref q4])), (q4, .inl (E.2.1, 81, .inl f5))] 5 [(0, .ref q1), (1, .int i2), (2, .int i3), (3, .int i14), (4, .int i15)] [] (BX1_sumAboveZeroFrom_L5  f5 i2 i3 i14 i15 rec ) := by
  unfold BX1_sumAboveZeroFrom_L5
  refine V_iload (dX1_sumAboveZeroFrom 4 rfl) 7 rfl 4 rfl ?_
  refine V_iload_n (dX1_sumAboveZeroFrom 5 rfl) 8 rfl 2 rfl ?_
  refine V_icmp_ge (dX1_sumAboveZeroFrom 6 rfl) 31 (by decide) 11 rfl ?_ ?_
  · refine V_iload_n (dX1_sumAboveZeroFrom 18 rfl) 32 rfl 3 rfl ?_
    exact V_iret rfl (dX1_sumAboveZeroFrom 19 rfl) ⟨rfl, rfl⟩
  · refine V_iload_n (dX1_sumAboveZeroFrom 7 rfl) 12 rfl 3 rfl ?_
    refine V_iconst (0 : Int32) (by decide) (dX1_sumAboveZeroFrom 8 rfl) 13 rfl ?_
    refine V_aload_n (dX1_sumAboveZeroFrom 9 rfl) 14 rfl 0 rfl ?_
    refine V_iload_n (dX1_sumAboveZeroFrom 10 rfl) 15 rfl 1 rfl ?_
    refine V_iload (dX1_sumAboveZeroFrom 11 rfl) 17 rfl 4 rfl ?_
    refine V_callV (M := mX1_sumAboveZeroFrom) (wcs := [(q1, .inr (2, [.ref q4])), (q4, .inl (E.2.1, 81, .inl f5))]) (wr := []) mf_X1_at tw_289 tw_290 tw_291 ⟨Nat.le_of_ble_eq_true rfl, Nat.le_of_ble_eq_true rfl⟩ (dX1_sumAboveZeroFrom 12 rfl) 20 rfl (kX1_at hs q1 q4 f5 i2 i15) rfl [0, 1] [] (q0 := 0) rfl rfl rfl rfl (by decide) rfl rfl rfl rfl (Nat.le_of_ble_eq_true rfl) (bc) (bs) (show (bc) + 0 ≤ (bc) by omega) (show (bs) + 0 ≤ (bs) by omega) (fun z16 v w hz => ?_)
    obtain ⟨rfl, rfl⟩ := hz
    show V E K mX1_sumAboveZeroFrom (Qm E K mX1_sumAboveZeroFrom (zX1_sumAboveZeroFrom E q1 q4 f5)) (bc) (bs) [(q1, .inr (2, [.ref q4])), (q4, .inl (E.2.1, 81, .inl f5))] 20 [(0, .ref q1), (1, .int i2), (2, .int i3), (3, .int i14), (4, .int i15)] [.int z16, .int (0 : Int32), .int i14] _
    refine V_mmax tw_970 tw_612 tw_82 tw_613 (Nat.le_of_ble_eq_true rfl) (Nat.le_of_ble_eq_true rfl) (dX1_sumAboveZeroFrom 13 rfl) 23 rfl ?_
    refine V_iadd (dX1_sumAboveZeroFrom 14 rfl) 24 rfl ?_
    refine V_nmI (fun i17 => ?_)
    refine V_istore_n (dX1_sumAboveZeroFrom 15 rfl) 25 rfl [(0, .ref q1), (1, .int i2), (2, .int i3), (3, .int i17), (4, .int i15)] (Nat.le_of_ble_eq_true rfl) rfl ?_
    refine V_iinc (dX1_sumAboveZeroFrom 16 rfl) 28 rfl 4 rfl (i15 + (1 : Int32)) rfl [(0, .ref q1), (1, .int i2), (2, .int i3), (3, .int i17), (4, .int (i15 + (1 : Int32)))] (Nat.le_of_ble_eq_true rfl) rfl ?_
    refine V_goto (dX1_sumAboveZeroFrom 17 rfl) 5 (by decide) ?_
    exact hrec i17 (i15 + (1 : Int32))
set_option maxRecDepth 20000 in
theorem vLX1_sumAboveZeroFrom_L5 {E : EX} {K : KX} (hs : K.l.stackTraces = false) (q1 q4 : Nat) (f5 : Nat → Int32) (i2 i3 : Int32) (bc bs : Nat)   : ∀ (n : Nat) (i14 i15 : Int32), V E K mX1_sumAboveZeroFrom (Qm E K mX1_sumAboveZeroFrom (zX1_sumAboveZeroFrom E q1 q4 f5)) (bc) (bs) [(q1, .inr (2, [.ref q4])), (q4, .inl (E.2.1, 81, .inl f5))] 5 [(0, .ref q1), (1, .int i2), (2, .int i3), (3, .int i14), (4, .int i15)] [] (LX1_sumAboveZeroFrom_L5  f5 i2 i3 n i14 i15 )
  | 0, _, _ => V_none
  | n + 1, i14, i15 => vBX1_sumAboveZeroFrom_L5 hs q1 q4 f5 i2 i3 bc bs i14 i15 (fun i14 i15 => vLX1_sumAboveZeroFrom_L5 hs q1 q4 f5 i2 i3 bc bs  n i14 i15) 
set_option maxRecDepth 20000 in
theorem kX1_sumAboveZeroFrom {E : EX} {l : Launch} (hl : l.stackTraces = false) (q1 q4 : Nat) (f5 : Nat → Int32) (i2 i3 : Int32) : Ct E l mX1_sumAboveZeroFrom [.ref q1, .int i2, .int i3] [(q1, .inr (2, [.ref q4])), (q4, .inl (E.2.1, 81, .inl f5))] (fX1_sumAboveZeroFrom f5 i2 i3) (zX1_sumAboveZeroFrom E q1 q4 f5) := Ct_of hl mf_X1_sumAboveZeroFrom.1 (Nat.le_of_ble_eq_true rfl) (fun K hs => by
  refine V_less 0 0 (Nat.le_refl _) (Nat.le_refl _) ?_
  refine V_pick [0, 1, 2] [(0, .ref q1), (1, .int i2), (2, .int i3)] rfl ?_
  unfold fX1_sumAboveZeroFrom
  refine V_iconst (0 : Int32) (by decide) (dX1_sumAboveZeroFrom 0 rfl) 1 rfl ?_
  refine V_istore_n (dX1_sumAboveZeroFrom 1 rfl) 2 rfl [(0, .ref q1), (1, .int i2), (2, .int i3), (3, .int (0 : Int32))] (Nat.le_of_ble_eq_true rfl) rfl ?_
  refine V_iconst (0 : Int32) (by decide) (dX1_sumAboveZeroFrom 2 rfl) 3 rfl ?_
  refine V_istore (dX1_sumAboveZeroFrom 3 rfl) 5 rfl [(0, .ref q1), (1, .int i2), (2, .int i3), (3, .int (0 : Int32)), (4, .int (0 : Int32))] (Nat.le_of_ble_eq_true rfl) rfl ?_
  refine vLX1_sumAboveZeroFrom_L5 hs q1 q4 f5 i2 i3 0 0  12 (0 : Int32) (0 : Int32))
set_option maxRecDepth 20000 in
theorem vBX1_sumTo_L5 {E : EX} {K : KX} (hs : K.l.stackTraces = false) (q1 q4 : Nat) (f5 : Nat → Int32) (i2 i3 : Int32) (bc bs : Nat) (i14 i15 : Int32) {rec : Int32 → Int32 → Option (Int32)}  (hrec : ∀ (i14 i15 : Int32), V E K mX1_sumTo (Qm E K mX1_sumTo (zX1_sumTo E q1 q4 f5)) (bc) (bs) [(q1, .inr (2, [.ref q4])), (q4, .inl (E.2.1, 81, .inl f5))] 5 [(0, .ref q1), (1, .int i2), (2, .int i3), (3, .int i14), (4, .int i15)] [] (rec i14 i15))  : V E K mX1_sumTo (Qm E K mX1_sumTo (zX1_sumTo E q1 q4 f5)) (bc) (bs) [(q1, .inr (2, [.ref q4])), (q4, .inl (E.2.1, 81, .inl f5))] 5 [(0, .ref q1), (1, .int i2), (2, .int i3), (3, .int i14), (4, .int i15)] [] (BX1_sumTo_L5  f5 i2 i3 i14 i15 rec ) := by
  unfold BX1_sumTo_L5
  refine V_iload (dX1_sumTo 4 rfl) 7 rfl 4 rfl ?_
  refine V_iload_n (dX1_sumTo 5 rfl) 8 rfl 2 rfl ?_
  refine V_icmp_ge (dX1_sumTo 6 rfl) 27 (by decide) 11 rfl ?_ ?_
  · refine V_iload_n (dX1_sumTo 16 rfl) 28 rfl 3 rfl ?_
    exact V_iret rfl (dX1_sumTo 17 rfl) ⟨rfl, rfl⟩
  · refine V_iload_n (dX1_sumTo 7 rfl) 12 rfl 3 rfl ?_
    refine V_aload_n (dX1_sumTo 8 rfl) 13 rfl 0 rfl ?_
    refine V_iload (dX1_sumTo 9 rfl) 15 rfl 4 rfl ?_
    refine V_iload_n (dX1_sumTo 10 rfl) 16 rfl 1 rfl ?_
    refine V_callV (M := mX1_sumTo) (wcs := [(q1, .inr (2, [.ref q4])), (q4, .inl (E.2.1, 81, .inl f5))]) (wr := []) mf_X1_at tw_289 tw_290 tw_291 ⟨Nat.le_of_ble_eq_true rfl, Nat.le_of_ble_eq_true rfl⟩ (dX1_sumTo 11 rfl) 19 rfl (kX1_at hs q1 q4 f5 i15 i2) rfl [0, 1] [] (q0 := 0) rfl rfl rfl rfl (by decide) rfl rfl rfl rfl (Nat.le_of_ble_eq_true rfl) (bc) (bs) (show (bc) + 0 ≤ (bc) by omega) (show (bs) + 0 ≤ (bs) by omega) (fun z16 v w hz => ?_)
    obtain ⟨rfl, rfl⟩ := hz
    show V E K mX1_sumTo (Qm E K mX1_sumTo (zX1_sumTo E q1 q4 f5)) (bc) (bs) [(q1, .inr (2, [.ref q4])), (q4, .inl (E.2.1, 81, .inl f5))] 19 [(0, .ref q1), (1, .int i2), (2, .int i3), (3, .int i14), (4, .int i15)] [.int z16, .int i14] _
    refine V_iadd (dX1_sumTo 12 rfl) 20 rfl ?_
    refine V_nmI (fun i17 => ?_)
    refine V_istore_n (dX1_sumTo 13 rfl) 21 rfl [(0, .ref q1), (1, .int i2), (2, .int i3), (3, .int i17), (4, .int i15)] (Nat.le_of_ble_eq_true rfl) rfl ?_
    refine V_iinc (dX1_sumTo 14 rfl) 24 rfl 4 rfl (i15 + (1 : Int32)) rfl [(0, .ref q1), (1, .int i2), (2, .int i3), (3, .int i17), (4, .int (i15 + (1 : Int32)))] (Nat.le_of_ble_eq_true rfl) rfl ?_
    refine V_goto (dX1_sumTo 15 rfl) 5 (by decide) ?_
    exact hrec i17 (i15 + (1 : Int32))
set_option maxRecDepth 20000 in
theorem vLX1_sumTo_L5 {E : EX} {K : KX} (hs : K.l.stackTraces = false) (q1 q4 : Nat) (f5 : Nat → Int32) (i2 i3 : Int32) (bc bs : Nat)   : ∀ (n : Nat) (i14 i15 : Int32), V E K mX1_sumTo (Qm E K mX1_sumTo (zX1_sumTo E q1 q4 f5)) (bc) (bs) [(q1, .inr (2, [.ref q4])), (q4, .inl (E.2.1, 81, .inl f5))] 5 [(0, .ref q1), (1, .int i2), (2, .int i3), (3, .int i14), (4, .int i15)] [] (LX1_sumTo_L5  f5 i2 i3 n i14 i15 )
  | 0, _, _ => V_none
  | n + 1, i14, i15 => vBX1_sumTo_L5 hs q1 q4 f5 i2 i3 bc bs i14 i15 (fun i14 i15 => vLX1_sumTo_L5 hs q1 q4 f5 i2 i3 bc bs  n i14 i15) 
set_option maxRecDepth 20000 in
theorem kX1_sumTo {E : EX} {l : Launch} (hl : l.stackTraces = false) (q1 q4 : Nat) (f5 : Nat → Int32) (i2 i3 : Int32) : Ct E l mX1_sumTo [.ref q1, .int i2, .int i3] [(q1, .inr (2, [.ref q4])), (q4, .inl (E.2.1, 81, .inl f5))] (fX1_sumTo f5 i2 i3) (zX1_sumTo E q1 q4 f5) := Ct_of hl mf_X1_sumTo.1 (Nat.le_of_ble_eq_true rfl) (fun K hs => by
  refine V_less 0 0 (Nat.le_refl _) (Nat.le_refl _) ?_
  refine V_pick [0, 1, 2] [(0, .ref q1), (1, .int i2), (2, .int i3)] rfl ?_
  unfold fX1_sumTo
  refine V_iconst (0 : Int32) (by decide) (dX1_sumTo 0 rfl) 1 rfl ?_
  refine V_istore_n (dX1_sumTo 1 rfl) 2 rfl [(0, .ref q1), (1, .int i2), (2, .int i3), (3, .int (0 : Int32))] (Nat.le_of_ble_eq_true rfl) rfl ?_
  refine V_iconst (0 : Int32) (by decide) (dX1_sumTo 2 rfl) 3 rfl ?_
  refine V_istore (dX1_sumTo 3 rfl) 5 rfl [(0, .ref q1), (1, .int i2), (2, .int i3), (3, .int (0 : Int32)), (4, .int (0 : Int32))] (Nat.le_of_ble_eq_true rfl) rfl ?_
  refine vLX1_sumTo_L5 hs q1 q4 f5 i2 i3 0 0  12 (0 : Int32) (0 : Int32))
set_option maxRecDepth 20000 in
theorem vBX1_countAboveZero_L12 {E : EX} {K : KX} (hs : K.l.stackTraces = false) (q1 q3 : Nat) (f4 : Nat → Int32) (i2 i28 : Int32) (bc bs : Nat) (i39 i40 : Int32) {rec : Int32 → Int32 → Option (Int32)} {k1 : Int32 → Option (Int32)} (hrec : ∀ (i39 i40 : Int32), V E K mX1_countAboveZero (Qm E K mX1_countAboveZero (zX1_countAboveZero E q1 q3 f4)) (bc) (bs) [(q1, .inr (2, [.ref q3])), (q3, .inl (E.2.1, 81, .inl f4))] 12 [(0, .ref q1), (1, .int i2), (2, .int i39), (3, .int i28), (4, .int i40)] [] (rec i39 i40)) (hk1 : ∀ (i45 : Int32), V E K mX1_countAboveZero (Qm E K mX1_countAboveZero (zX1_countAboveZero E q1 q3 f4)) (bc) (bs) [(q1, .inr (2, [.ref q3])), (q3, .inl (E.2.1, 81, .inl f4))] 37 [(0, .ref q1), (1, .int i2), (2, .int i45), (3, .int i28)] [] (k1 i45)) : V E K mX1_countAboveZero (Qm E K mX1_countAboveZero (zX1_countAboveZero E q1 q3 f4)) (bc) (bs) [(q1, .inr (2, [.ref q3])), (q3, .inl (E.2.1, 81, .inl f4))] 12 [(0, .ref q1), (1, .int i2), (2, .int i39), (3, .int i28), (4, .int i40)] [] (BX1_countAboveZero_L12  f4 i2 i28 i39 i40 rec k1) := by
  unfold BX1_countAboveZero_L12
  refine V_iload (dX1_countAboveZero 9 rfl) 14 rfl 4 rfl ?_
  refine V_iload_n (dX1_countAboveZero 10 rfl) 15 rfl 1 rfl ?_
  refine V_icmp_ge (dX1_countAboveZero 11 rfl) 37 (by decide) 18 rfl ?_ ?_
  · refine V_pick [0, 1, 2, 3] [(0, .ref q1), (1, .int i2), (2, .int i39), (3, .int i28)] rfl ?_
    exact hk1 i39
  · refine V_aload_n (dX1_countAboveZero 12 rfl) 19 rfl 0 rfl ?_
    refine V_iload_n (dX1_countAboveZero 13 rfl) 20 rfl 3 rfl ?_
    refine V_iload (dX1_countAboveZero 14 rfl) 22 rfl 4 rfl ?_
    refine V_callV (M := mX1_countAboveZero) (wcs := [(q1, .inr (2, [.ref q3])), (q3, .inl (E.2.1, 81, .inl f4))]) (wr := []) mf_X1_at tw_289 tw_290 tw_291 ⟨Nat.le_of_ble_eq_true rfl, Nat.le_of_ble_eq_true rfl⟩ (dX1_countAboveZero 15 rfl) 25 rfl (kX1_at hs q1 q3 f4 i28 i40) rfl [0, 1] [] (q0 := 0) rfl rfl rfl rfl (by decide) rfl rfl rfl rfl (Nat.le_of_ble_eq_true rfl) (bc) (bs) (show (bc) + 0 ≤ (bc) by omega) (show (bs) + 0 ≤ (bs) by omega) (fun z41 v w hz => ?_)
    obtain ⟨rfl, rfl⟩ := hz
    show V E K mX1_countAboveZero (Qm E K mX1_countAboveZero (zX1_countAboveZero E q1 q3 f4)) (bc) (bs) [(q1, .inr (2, [.ref q3])), (q3, .inl (E.2.1, 81, .inl f4))] 25 [(0, .ref q1), (1, .int i2), (2, .int i39), (3, .int i28), (4, .int i40)] [.int z41] _
    refine V_jn (fun (k42 : Int32 → Option (Int32)) => ∀ (i44 : Int32), V E K mX1_countAboveZero (Qm E K mX1_countAboveZero (zX1_countAboveZero E q1 q3 f4)) (bc) (bs) [(q1, .inr (2, [.ref q3])), (q3, .inl (E.2.1, 81, .inl f4))] 31 [(0, .ref q1), (1, .int i2), (2, .int i44), (3, .int i28), (4, .int i40)] [] (k42 i44)) ?_ ?_
    · intro i44
      show V E K mX1_countAboveZero (Qm E K mX1_countAboveZero (zX1_countAboveZero E q1 q3 f4)) (bc) (bs) [(q1, .inr (2, [.ref q3])), (q3, .inl (E.2.1, 81, .inl f4))] 31 [(0, .ref q1), (1, .int i2), (2, .int i44), (3, .int i28), (4, .int i40)] [] _
      refine V_iinc (dX1_countAboveZero 18 rfl) 34 rfl 4 rfl (i40 + (1 : Int32)) rfl [(0, .ref q1), (1, .int i2), (2, .int i44), (3, .int i28), (4, .int (i40 + (1 : Int32)))] (Nat.le_of_ble_eq_true rfl) rfl ?_
      refine V_goto (dX1_countAboveZero 19 rfl) 12 (by decide) ?_
      exact hrec i44 (i40 + (1 : Int32))
    · intro k42 hk43
      refine V_if_le (dX1_countAboveZero 16 rfl) 31 (by decide) 28 rfl ?_ ?_
      · exact hk43 i39
      · refine V_iinc (dX1_countAboveZero 17 rfl) 31 rfl 2 rfl (i39 + (1 : Int32)) rfl [(0, .ref q1), (1, .int i2), (2, .int (i39 + (1 : Int32))), (3, .int i28), (4, .int i40)] (Nat.le_of_ble_eq_true rfl) rfl ?_
        exact hk43 (i39 + (1 : Int32))
set_option maxRecDepth 20000 in
theorem vLX1_countAboveZero_L12 {E : EX} {K : KX} (hs : K.l.stackTraces = false) (q1 q3 : Nat) (f4 : Nat → Int32) (i2 i28 : Int32) (bc bs : Nat) {k1 : Int32 → Option (Int32)} (hk1 : ∀ (i45 : Int32), V E K mX1_countAboveZero (Qm E K mX1_countAboveZero (zX1_countAboveZero E q1 q3 f4)) (bc) (bs) [(q1, .inr (2, [.ref q3])), (q3, .inl (E.2.1, 81, .inl f4))] 37 [(0, .ref q1), (1, .int i2), (2, .int i45), (3, .int i28)] [] (k1 i45)) : ∀ (n : Nat) (i39 i40 : Int32), V E K mX1_countAboveZero (Qm E K mX1_countAboveZero (zX1_countAboveZero E q1 q3 f4)) (bc) (bs) [(q1, .inr (2, [.ref q3])), (q3, .inl (E.2.1, 81, .inl f4))] 12 [(0, .ref q1), (1, .int i2), (2, .int i39), (3, .int i28), (4, .int i40)] [] (LX1_countAboveZero_L12  f4 i2 i28 n i39 i40 k1)
  | 0, _, _ => V_none
  | n + 1, i39, i40 => vBX1_countAboveZero_L12 hs q1 q3 f4 i2 i28 bc bs i39 i40 (fun i39 i40 => vLX1_countAboveZero_L12 hs q1 q3 f4 i2 i28 bc bs hk1 n i39 i40) hk1
set_option maxRecDepth 20000 in
theorem vBX1_countAboveZero_L4 {E : EX} {K : KX} (hs : K.l.stackTraces = false) (q1 q3 : Nat) (f4 : Nat → Int32) (i2 : Int32) (bc bs : Nat) (i27 i28 : Int32) {rec : Int32 → Int32 → Option (Int32)}  (hrec : ∀ (i27 i28 : Int32), V E K mX1_countAboveZero (Qm E K mX1_countAboveZero (zX1_countAboveZero E q1 q3 f4)) (bc) (bs) [(q1, .inr (2, [.ref q3])), (q3, .inl (E.2.1, 81, .inl f4))] 4 [(0, .ref q1), (1, .int i2), (2, .int i27), (3, .int i28)] [] (rec i27 i28))  : V E K mX1_countAboveZero (Qm E K mX1_countAboveZero (zX1_countAboveZero E q1 q3 f4)) (bc) (bs) [(q1, .inr (2, [.ref q3])), (q3, .inl (E.2.1, 81, .inl f4))] 4 [(0, .ref q1), (1, .int i2), (2, .int i27), (3, .int i28)] [] (BX1_countAboveZero_L4  f4 i2 i27 i28 rec ) := by
  unfold BX1_countAboveZero_L4
  refine V_iload_n (dX1_countAboveZero 4 rfl) 5 rfl 3 rfl ?_
  refine V_iload_n (dX1_countAboveZero 5 rfl) 6 rfl 1 rfl ?_
  refine V_icmp_ge (dX1_countAboveZero 6 rfl) 43 (by decide) 9 rfl ?_ ?_
  · refine V_iload_n (dX1_countAboveZero 22 rfl) 44 rfl 2 rfl ?_
    exact V_iret rfl (dX1_countAboveZero 23 rfl) ⟨rfl, rfl⟩
  · refine V_iconst (0 : Int32) (by decide) (dX1_countAboveZero 7 rfl) 10 rfl ?_
    refine V_istore (dX1_countAboveZero 8 rfl) 12 rfl [(0, .ref q1), (1, .int i2), (2, .int i27), (3, .int i28), (4, .int (0 : Int32))] (Nat.le_of_ble_eq_true rfl) rfl ?_
    refine vLX1_countAboveZero_L12 hs q1 q3 f4 i2 i28 (bc) (bs) ?_ 12 i27 (0 : Int32)
    intro i45
    show V E K mX1_countAboveZero (Qm E K mX1_countAboveZero (zX1_countAboveZero E q1 q3 f4)) (bc) (bs) [(q1, .inr (2, [.ref q3])), (q3, .inl (E.2.1, 81, .inl f4))] 37 [(0, .ref q1), (1, .int i2), (2, .int i45), (3, .int i28)] [] _
    refine V_iinc (dX1_countAboveZero 20 rfl) 40 rfl 3 rfl (i28 + (1 : Int32)) rfl [(0, .ref q1), (1, .int i2), (2, .int i45), (3, .int (i28 + (1 : Int32)))] (Nat.le_of_ble_eq_true rfl) rfl ?_
    refine V_goto (dX1_countAboveZero 21 rfl) 4 (by decide) ?_
    exact hrec i45 (i28 + (1 : Int32))
set_option maxRecDepth 20000 in
theorem vLX1_countAboveZero_L4 {E : EX} {K : KX} (hs : K.l.stackTraces = false) (q1 q3 : Nat) (f4 : Nat → Int32) (i2 : Int32) (bc bs : Nat)   : ∀ (n : Nat) (i27 i28 : Int32), V E K mX1_countAboveZero (Qm E K mX1_countAboveZero (zX1_countAboveZero E q1 q3 f4)) (bc) (bs) [(q1, .inr (2, [.ref q3])), (q3, .inl (E.2.1, 81, .inl f4))] 4 [(0, .ref q1), (1, .int i2), (2, .int i27), (3, .int i28)] [] (LX1_countAboveZero_L4  f4 i2 n i27 i28 )
  | 0, _, _ => V_none
  | n + 1, i27, i28 => vBX1_countAboveZero_L4 hs q1 q3 f4 i2 bc bs i27 i28 (fun i27 i28 => vLX1_countAboveZero_L4 hs q1 q3 f4 i2 bc bs  n i27 i28) 
set_option maxRecDepth 20000 in
theorem kX1_countAboveZero {E : EX} {l : Launch} (hl : l.stackTraces = false) (q1 q3 : Nat) (f4 : Nat → Int32) (i2 : Int32) : Ct E l mX1_countAboveZero [.ref q1, .int i2] [(q1, .inr (2, [.ref q3])), (q3, .inl (E.2.1, 81, .inl f4))] (fX1_countAboveZero f4 i2) (zX1_countAboveZero E q1 q3 f4) := Ct_of hl mf_X1_countAboveZero.1 (Nat.le_of_ble_eq_true rfl) (fun K hs => by
  refine V_less 0 0 (Nat.le_refl _) (Nat.le_refl _) ?_
  refine V_pick [0, 1] [(0, .ref q1), (1, .int i2)] rfl ?_
  unfold fX1_countAboveZero
  refine V_iconst (0 : Int32) (by decide) (dX1_countAboveZero 0 rfl) 1 rfl ?_
  refine V_istore_n (dX1_countAboveZero 1 rfl) 2 rfl [(0, .ref q1), (1, .int i2), (2, .int (0 : Int32))] (Nat.le_of_ble_eq_true rfl) rfl ?_
  refine V_iconst (0 : Int32) (by decide) (dX1_countAboveZero 2 rfl) 3 rfl ?_
  refine V_istore_n (dX1_countAboveZero 3 rfl) 4 rfl [(0, .ref q1), (1, .int i2), (2, .int (0 : Int32)), (3, .int (0 : Int32))] (Nat.le_of_ble_eq_true rfl) rfl ?_
  refine vLX1_countAboveZero_L4 hs q1 q3 f4 i2 0 0  12 (0 : Int32) (0 : Int32))
set_option maxRecDepth 20000 in
theorem kX1_exchangeCells {E : EX} {l : Launch} (hl : l.stackTraces = false) (q1 q6 : Nat) (f7 : Nat → Int32) (i2 i3 i4 i5 : Int32) : Ct E l mX1_exchangeCells [.ref q1, .int i2, .int i3, .int i4, .int i5] [(q1, .inr (2, [.ref q6])), (q6, .inl (E.2.1, 81, .inl f7))] (fX1_exchangeCells f7 i2 i3 i4 i5) (zX1_exchangeCells E q1 q6) := Ct_of hl mf_X1_exchangeCells.1 (Nat.le_of_ble_eq_true rfl) (fun K hs => by
  refine V_less 0 0 (Nat.le_refl _) (Nat.le_refl _) ?_
  refine V_pick [0, 1, 2, 3, 4] [(0, .ref q1), (1, .int i2), (2, .int i3), (3, .int i4), (4, .int i5)] rfl ?_
  unfold fX1_exchangeCells
  refine V_aload_n (dX1_exchangeCells 0 rfl) 1 rfl 0 rfl ?_
  refine V_iload_n (dX1_exchangeCells 1 rfl) 2 rfl 1 rfl ?_
  refine V_iload_n (dX1_exchangeCells 2 rfl) 3 rfl 2 rfl ?_
  refine V_callV (M := mX1_exchangeCells) (wcs := [(q1, .inr (2, [.ref q6])), (q6, .inl (E.2.1, 81, .inl f7))]) (wr := []) mf_X1_at tw_289 tw_290 tw_291 ⟨Nat.le_of_ble_eq_true rfl, Nat.le_of_ble_eq_true rfl⟩ (dX1_exchangeCells 3 rfl) 6 rfl (kX1_at hs q1 q6 f7 i2 i3) rfl [0, 1] [] (q0 := 0) rfl rfl rfl rfl (by decide) rfl rfl rfl rfl (Nat.le_of_ble_eq_true rfl) 0 0 (show 0 + 0 ≤ 0 from Nat.le_of_ble_eq_true rfl) (show 0 + 0 ≤ 0 from Nat.le_of_ble_eq_true rfl) (fun z8 v w hz => ?_)
  obtain ⟨rfl, rfl⟩ := hz
  show V E K mX1_exchangeCells (Qm E K mX1_exchangeCells (zX1_exchangeCells E q1 q6)) 0 0 [(q1, .inr (2, [.ref q6])), (q6, .inl (E.2.1, 81, .inl f7))] 6 [(0, .ref q1), (1, .int i2), (2, .int i3), (3, .int i4), (4, .int i5)] [.int z8] _
  refine V_istore (dX1_exchangeCells 4 rfl) 8 rfl [(0, .ref q1), (1, .int i2), (2, .int i3), (3, .int i4), (4, .int i5), (5, .int z8)] (Nat.le_of_ble_eq_true rfl) rfl ?_
  refine V_aload_n (dX1_exchangeCells 5 rfl) 9 rfl 0 rfl ?_
  refine V_iload_n (dX1_exchangeCells 6 rfl) 10 rfl 1 rfl ?_
  refine V_iload_n (dX1_exchangeCells 7 rfl) 11 rfl 2 rfl ?_
  refine V_aload_n (dX1_exchangeCells 8 rfl) 12 rfl 0 rfl ?_
  refine V_iload_n (dX1_exchangeCells 9 rfl) 13 rfl 3 rfl ?_
  refine V_iload (dX1_exchangeCells 10 rfl) 15 rfl 4 rfl ?_
  refine V_callV (M := mX1_exchangeCells) (wcs := [(q1, .inr (2, [.ref q6])), (q6, .inl (E.2.1, 81, .inl f7))]) (wr := []) mf_X1_at tw_289 tw_290 tw_291 ⟨Nat.le_of_ble_eq_true rfl, Nat.le_of_ble_eq_true rfl⟩ (dX1_exchangeCells 11 rfl) 18 rfl (kX1_at hs q1 q6 f7 i4 i5) rfl [0, 1] [] (q0 := 0) rfl rfl rfl rfl (by decide) rfl rfl rfl rfl (Nat.le_of_ble_eq_true rfl) 0 0 (show 0 + 0 ≤ 0 from Nat.le_of_ble_eq_true rfl) (show 0 + 0 ≤ 0 from Nat.le_of_ble_eq_true rfl) (fun z9 v w hz => ?_)
  obtain ⟨rfl, rfl⟩ := hz
  show V E K mX1_exchangeCells (Qm E K mX1_exchangeCells (zX1_exchangeCells E q1 q6)) 0 0 [(q1, .inr (2, [.ref q6])), (q6, .inl (E.2.1, 81, .inl f7))] 18 [(0, .ref q1), (1, .int i2), (2, .int i3), (3, .int i4), (4, .int i5), (5, .int z8)] [.int z9, .int i3, .int i2, .ref q1] _
  refine V_callV (M := mX1_exchangeCells) (wcs := [(q1, .inr (2, [.ref q6])), (q6, .inl (E.2.1, 81, .inl f7))]) (wr := []) mf_X1_put tw_293 tw_294 tw_295 ⟨Nat.le_of_ble_eq_true rfl, Nat.le_of_ble_eq_true rfl⟩ (dX1_exchangeCells 12 rfl) 21 rfl (kX1_put hs q1 q6 f7 i2 i3 z9) rfl [0, 1] [] (q0 := 0) rfl rfl rfl rfl (by decide) rfl rfl rfl rfl (Nat.le_of_ble_eq_true rfl) 0 0 (show 0 + 0 ≤ 0 from Nat.le_of_ble_eq_true rfl) (show 0 + 0 ≤ 0 from Nat.le_of_ble_eq_true rfl) (fun z10 v w hz => ?_)
  obtain ⟨rfl, rfl⟩ := hz
  show V E K mX1_exchangeCells (Qm E K mX1_exchangeCells (zX1_exchangeCells E q1 q6)) 0 0 [(q1, .inr (2, [.ref q6])), (q6, .inl (E.2.1, 81, .inl z10))] 21 [(0, .ref q1), (1, .int i2), (2, .int i3), (3, .int i4), (4, .int i5), (5, .int z8)] [] _
  refine V_aload_n (dX1_exchangeCells 13 rfl) 22 rfl 0 rfl ?_
  refine V_iload_n (dX1_exchangeCells 14 rfl) 23 rfl 3 rfl ?_
  refine V_iload (dX1_exchangeCells 15 rfl) 25 rfl 4 rfl ?_
  refine V_iload (dX1_exchangeCells 16 rfl) 27 rfl 5 rfl ?_
  refine V_callV (M := mX1_exchangeCells) (wcs := [(q1, .inr (2, [.ref q6])), (q6, .inl (E.2.1, 81, .inl z10))]) (wr := []) mf_X1_put tw_293 tw_294 tw_295 ⟨Nat.le_of_ble_eq_true rfl, Nat.le_of_ble_eq_true rfl⟩ (dX1_exchangeCells 17 rfl) 30 rfl (kX1_put hs q1 q6 z10 i4 i5 z8) rfl [0, 1] [] (q0 := 0) rfl rfl rfl rfl (by decide) rfl rfl rfl rfl (Nat.le_of_ble_eq_true rfl) 0 0 (show 0 + 0 ≤ 0 from Nat.le_of_ble_eq_true rfl) (show 0 + 0 ≤ 0 from Nat.le_of_ble_eq_true rfl) (fun z11 v w hz => ?_)
  obtain ⟨rfl, rfl⟩ := hz
  show V E K mX1_exchangeCells (Qm E K mX1_exchangeCells (zX1_exchangeCells E q1 q6)) 0 0 [(q1, .inr (2, [.ref q6])), (q6, .inl (E.2.1, 81, .inl z11))] 30 [(0, .ref q1), (1, .int i2), (2, .int i3), (3, .int i4), (4, .int i5), (5, .int z8)] [] _
  exact V_vret rfl (dX1_exchangeCells 18 rfl) ⟨rfl, rfl⟩)
set_option maxRecDepth 20000 in
theorem vBX1_turn_L9 {E : EX} {K : KX} (hs : K.l.stackTraces = false) (q1 q3 : Nat) (i2 i19 : Int32) (bc bs : Nat) (i27 : Int32) (f28 : Nat → Int32) {rec : Int32 → (Nat → Int32) → Option ((Nat → Int32))} {k1 : (Nat → Int32) → Option ((Nat → Int32))} (hrec : ∀ (i27 : Int32) (f28 : Nat → Int32), V E K mX1_turn (Qm E K mX1_turn (zX1_turn E q1 q3)) (bc) (bs) [(q1, .inr (2, [.ref q3])), (q3, .inl (E.2.1, 81, .inl f28))] 9 [(0, .ref q1), (1, .int i2), (2, .int i19), (3, .int i27)] [] (rec i27 f28)) (hk1 : ∀ (f30 : Nat → Int32), V E K mX1_turn (Qm E K mX1_turn (zX1_turn E q1 q3)) (bc) (bs) [(q1, .inr (2, [.ref q3])), (q3, .inl (E.2.1, 81, .inl f30))] 28 [(0, .ref q1), (1, .int i2), (2, .int i19)] [] (k1 f30)) : V E K mX1_turn (Qm E K mX1_turn (zX1_turn E q1 q3)) (bc) (bs) [(q1, .inr (2, [.ref q3])), (q3, .inl (E.2.1, 81, .inl f28))] 9 [(0, .ref q1), (1, .int i2), (2, .int i19), (3, .int i27)] [] (BX1_turn_L9  i19 i27 f28 rec k1) := by
  unfold BX1_turn_L9
  refine V_iload_n (dX1_turn 7 rfl) 10 rfl 3 rfl ?_
  refine V_iload_n (dX1_turn 8 rfl) 11 rfl 2 rfl ?_
  refine V_icmp_ge (dX1_turn 9 rfl) 28 (by decide) 14 rfl ?_ ?_
  · refine V_pick [0, 1, 2] [(0, .ref q1), (1, .int i2), (2, .int i19)] rfl ?_
    exact hk1 f28
  · refine V_aload_n (dX1_turn 10 rfl) 15 rfl 0 rfl ?_
    refine V_iload_n (dX1_turn 11 rfl) 16 rfl 2 rfl ?_
    refine V_iload_n (dX1_turn 12 rfl) 17 rfl 3 rfl ?_
    refine V_iload_n (dX1_turn 13 rfl) 18 rfl 3 rfl ?_
    refine V_iload_n (dX1_turn 14 rfl) 19 rfl 2 rfl ?_
    refine V_callV (M := mX1_turn) (wcs := [(q1, .inr (2, [.ref q3])), (q3, .inl (E.2.1, 81, .inl f28))]) (wr := []) mf_X1_exchangeCells tw_285 tw_287 tw_0 ⟨Nat.le_of_ble_eq_true rfl, Nat.le_of_ble_eq_true rfl⟩ (dX1_turn 15 rfl) 22 rfl (kX1_exchangeCells hs q1 q3 f28 i19 i27 i27 i19) rfl [0, 1] [] (q0 := 0) rfl rfl rfl rfl (by decide) rfl rfl rfl rfl (Nat.le_of_ble_eq_true rfl) (bc) (bs) (show (bc) + 0 ≤ (bc) by omega) (show (bs) + 0 ≤ (bs) by omega) (fun z29 v w hz => ?_)
    obtain ⟨rfl, rfl⟩ := hz
    show V E K mX1_turn (Qm E K mX1_turn (zX1_turn E q1 q3)) (bc) (bs) [(q1, .inr (2, [.ref q3])), (q3, .inl (E.2.1, 81, .inl z29))] 22 [(0, .ref q1), (1, .int i2), (2, .int i19), (3, .int i27)] [] _
    refine V_iinc (dX1_turn 16 rfl) 25 rfl 3 rfl (i27 + (1 : Int32)) rfl [(0, .ref q1), (1, .int i2), (2, .int i19), (3, .int (i27 + (1 : Int32)))] (Nat.le_of_ble_eq_true rfl) rfl ?_
    refine V_goto (dX1_turn 17 rfl) 9 (by decide) ?_
    exact hrec (i27 + (1 : Int32)) z29
set_option maxRecDepth 20000 in
theorem vLX1_turn_L9 {E : EX} {K : KX} (hs : K.l.stackTraces = false) (q1 q3 : Nat) (i2 i19 : Int32) (bc bs : Nat) {k1 : (Nat → Int32) → Option ((Nat → Int32))} (hk1 : ∀ (f30 : Nat → Int32), V E K mX1_turn (Qm E K mX1_turn (zX1_turn E q1 q3)) (bc) (bs) [(q1, .inr (2, [.ref q3])), (q3, .inl (E.2.1, 81, .inl f30))] 28 [(0, .ref q1), (1, .int i2), (2, .int i19)] [] (k1 f30)) : ∀ (n : Nat) (i27 : Int32) (f28 : Nat → Int32), V E K mX1_turn (Qm E K mX1_turn (zX1_turn E q1 q3)) (bc) (bs) [(q1, .inr (2, [.ref q3])), (q3, .inl (E.2.1, 81, .inl f28))] 9 [(0, .ref q1), (1, .int i2), (2, .int i19), (3, .int i27)] [] (LX1_turn_L9  i19 n i27 f28 k1)
  | 0, _, _ => V_none
  | n + 1, i27, f28 => vBX1_turn_L9 hs q1 q3 i2 i19 bc bs i27 f28 (fun i27 f28 => vLX1_turn_L9 hs q1 q3 i2 i19 bc bs hk1 n i27 f28) hk1
set_option maxRecDepth 20000 in
theorem vBX1_turn_L2 {E : EX} {K : KX} (hs : K.l.stackTraces = false) (q1 q3 : Nat) (i2 : Int32) (bc bs : Nat) (i19 : Int32) (f20 : Nat → Int32) {rec : Int32 → (Nat → Int32) → Option ((Nat → Int32))}  (hrec : ∀ (i19 : Int32) (f20 : Nat → Int32), V E K mX1_turn (Qm E K mX1_turn (zX1_turn E q1 q3)) (bc) (bs) [(q1, .inr (2, [.ref q3])), (q3, .inl (E.2.1, 81, .inl f20))] 2 [(0, .ref q1), (1, .int i2), (2, .int i19)] [] (rec i19 f20))  : V E K mX1_turn (Qm E K mX1_turn (zX1_turn E q1 q3)) (bc) (bs) [(q1, .inr (2, [.ref q3])), (q3, .inl (E.2.1, 81, .inl f20))] 2 [(0, .ref q1), (1, .int i2), (2, .int i19)] [] (BX1_turn_L2  i2 i19 f20 rec ) := by
  unfold BX1_turn_L2
  refine V_iload_n (dX1_turn 2 rfl) 3 rfl 2 rfl ?_
  refine V_iload_n (dX1_turn 3 rfl) 4 rfl 1 rfl ?_
  refine V_icmp_ge (dX1_turn 4 rfl) 34 (by decide) 7 rfl ?_ ?_
  · exact V_vret rfl (dX1_turn 20 rfl) ⟨rfl, rfl⟩
  · refine V_iconst (0 : Int32) (by decide) (dX1_turn 5 rfl) 8 rfl ?_
    refine V_istore_n (dX1_turn 6 rfl) 9 rfl [(0, .ref q1), (1, .int i2), (2, .int i19), (3, .int (0 : Int32))] (Nat.le_of_ble_eq_true rfl) rfl ?_
    refine vLX1_turn_L9 hs q1 q3 i2 i19 (bc) (bs) ?_ 12 (0 : Int32) f20
    intro f30
    show V E K mX1_turn (Qm E K mX1_turn (zX1_turn E q1 q3)) (bc) (bs) [(q1, .inr (2, [.ref q3])), (q3, .inl (E.2.1, 81, .inl f30))] 28 [(0, .ref q1), (1, .int i2), (2, .int i19)] [] _
    refine V_iinc (dX1_turn 18 rfl) 31 rfl 2 rfl (i19 + (1 : Int32)) rfl [(0, .ref q1), (1, .int i2), (2, .int (i19 + (1 : Int32)))] (Nat.le_of_ble_eq_true rfl) rfl ?_
    refine V_goto (dX1_turn 19 rfl) 2 (by decide) ?_
    exact hrec (i19 + (1 : Int32)) f30
set_option maxRecDepth 20000 in
theorem vLX1_turn_L2 {E : EX} {K : KX} (hs : K.l.stackTraces = false) (q1 q3 : Nat) (i2 : Int32) (bc bs : Nat)   : ∀ (n : Nat) (i19 : Int32) (f20 : Nat → Int32), V E K mX1_turn (Qm E K mX1_turn (zX1_turn E q1 q3)) (bc) (bs) [(q1, .inr (2, [.ref q3])), (q3, .inl (E.2.1, 81, .inl f20))] 2 [(0, .ref q1), (1, .int i2), (2, .int i19)] [] (LX1_turn_L2  i2 n i19 f20 )
  | 0, _, _ => V_none
  | n + 1, i19, f20 => vBX1_turn_L2 hs q1 q3 i2 bc bs i19 f20 (fun i19 f20 => vLX1_turn_L2 hs q1 q3 i2 bc bs  n i19 f20) 
set_option maxRecDepth 20000 in
theorem kX1_turn {E : EX} {l : Launch} (hl : l.stackTraces = false) (q1 q3 : Nat) (f4 : Nat → Int32) (i2 : Int32) : Ct E l mX1_turn [.ref q1, .int i2] [(q1, .inr (2, [.ref q3])), (q3, .inl (E.2.1, 81, .inl f4))] (fX1_turn f4 i2) (zX1_turn E q1 q3) := Ct_of hl mf_X1_turn.1 (Nat.le_of_ble_eq_true rfl) (fun K hs => by
  refine V_less 0 0 (Nat.le_refl _) (Nat.le_refl _) ?_
  refine V_pick [0, 1] [(0, .ref q1), (1, .int i2)] rfl ?_
  unfold fX1_turn
  refine V_iconst (0 : Int32) (by decide) (dX1_turn 0 rfl) 1 rfl ?_
  refine V_istore_n (dX1_turn 1 rfl) 2 rfl [(0, .ref q1), (1, .int i2), (2, .int (0 : Int32))] (Nat.le_of_ble_eq_true rfl) rfl ?_
  refine vLX1_turn_L2 hs q1 q3 i2 0 0  12 (0 : Int32) f4)
set_option maxRecDepth 20000 in
theorem vBX1_exchangePlaces_L3 {E : EX} {K : KX} (hs : K.l.stackTraces = false) (q1 q5 : Nat) (i2 i3 i4 : Int32) (bc bs : Nat) (i14 : Int32) (f15 : Nat → Int32) {rec : Int32 → (Nat → Int32) → Option ((Nat → Int32))} {k1 : (Nat → Int32) → Option ((Nat → Int32))} (hrec : ∀ (i14 : Int32) (f15 : Nat → Int32), V E K mX1_exchangePlaces (Qm E K mX1_exchangePlaces (zX1_exchangePlaces E q1 q5)) (bc) (bs) [(q1, .inr (2, [.ref q5])), (q5, .inl (E.2.1, 81, .inl f15))] 3 [(0, .ref q1), (1, .int i2), (2, .int i3), (3, .int i4), (4, .int i14)] [] (rec i14 f15)) (hk1 : ∀ (f17 : Nat → Int32), V E K mX1_exchangePlaces (Qm E K mX1_exchangePlaces (zX1_exchangePlaces E q1 q5)) (bc) (bs) [(q1, .inr (2, [.ref q5])), (q5, .inl (E.2.1, 81, .inl f17))] 25 [(0, .ref q1), (1, .int i2), (2, .int i3), (3, .int i4)] [] (k1 f17)) : V E K mX1_exchangePlaces (Qm E K mX1_exchangePlaces (zX1_exchangePlaces E q1 q5)) (bc) (bs) [(q1, .inr (2, [.ref q5])), (q5, .inl (E.2.1, 81, .inl f15))] 3 [(0, .ref q1), (1, .int i2), (2, .int i3), (3, .int i4), (4, .int i14)] [] (BX1_exchangePlaces_L3  i2 i3 i4 i14 f15 rec k1) := by
  unfold BX1_exchangePlaces_L3
  refine V_iload (dX1_exchangePlaces 2 rfl) 5 rfl 4 rfl ?_
  refine V_iload_n (dX1_exchangePlaces 3 rfl) 6 rfl 3 rfl ?_
  refine V_icmp_ge (dX1_exchangePlaces 4 rfl) 25 (by decide) 9 rfl ?_ ?_
  · refine V_pick [0, 1, 2, 3] [(0, .ref q1), (1, .int i2), (2, .int i3), (3, .int i4)] rfl ?_
    exact hk1 f15
  · refine V_aload_n (dX1_exchangePlaces 5 rfl) 10 rfl 0 rfl ?_
    refine V_iload_n (dX1_exchangePlaces 6 rfl) 11 rfl 1 rfl ?_
    refine V_iload (dX1_exchangePlaces 7 rfl) 13 rfl 4 rfl ?_
    refine V_iload_n (dX1_exchangePlaces 8 rfl) 14 rfl 2 rfl ?_
    refine V_iload (dX1_exchangePlaces 9 rfl) 16 rfl 4 rfl ?_
    refine V_callV (M := mX1_exchangePlaces) (wcs := [(q1, .inr (2, [.ref q5])), (q5, .inl (E.2.1, 81, .inl f15))]) (wr := []) mf_X1_exchangeCells tw_285 tw_287 tw_0 ⟨Nat.le_of_ble_eq_true rfl, Nat.le_of_ble_eq_true rfl⟩ (dX1_exchangePlaces 10 rfl) 19 rfl (kX1_exchangeCells hs q1 q5 f15 i2 i14 i3 i14) rfl [0, 1] [] (q0 := 0) rfl rfl rfl rfl (by decide) rfl rfl rfl rfl (Nat.le_of_ble_eq_true rfl) (bc) (bs) (show (bc) + 0 ≤ (bc) by omega) (show (bs) + 0 ≤ (bs) by omega) (fun z16 v w hz => ?_)
    obtain ⟨rfl, rfl⟩ := hz
    show V E K mX1_exchangePlaces (Qm E K mX1_exchangePlaces (zX1_exchangePlaces E q1 q5)) (bc) (bs) [(q1, .inr (2, [.ref q5])), (q5, .inl (E.2.1, 81, .inl z16))] 19 [(0, .ref q1), (1, .int i2), (2, .int i3), (3, .int i4), (4, .int i14)] [] _
    refine V_iinc (dX1_exchangePlaces 11 rfl) 22 rfl 4 rfl (i14 + (1 : Int32)) rfl [(0, .ref q1), (1, .int i2), (2, .int i3), (3, .int i4), (4, .int (i14 + (1 : Int32)))] (Nat.le_of_ble_eq_true rfl) rfl ?_
    refine V_goto (dX1_exchangePlaces 12 rfl) 3 (by decide) ?_
    exact hrec (i14 + (1 : Int32)) z16
set_option maxRecDepth 20000 in
theorem vLX1_exchangePlaces_L3 {E : EX} {K : KX} (hs : K.l.stackTraces = false) (q1 q5 : Nat) (i2 i3 i4 : Int32) (bc bs : Nat) {k1 : (Nat → Int32) → Option ((Nat → Int32))} (hk1 : ∀ (f17 : Nat → Int32), V E K mX1_exchangePlaces (Qm E K mX1_exchangePlaces (zX1_exchangePlaces E q1 q5)) (bc) (bs) [(q1, .inr (2, [.ref q5])), (q5, .inl (E.2.1, 81, .inl f17))] 25 [(0, .ref q1), (1, .int i2), (2, .int i3), (3, .int i4)] [] (k1 f17)) : ∀ (n : Nat) (i14 : Int32) (f15 : Nat → Int32), V E K mX1_exchangePlaces (Qm E K mX1_exchangePlaces (zX1_exchangePlaces E q1 q5)) (bc) (bs) [(q1, .inr (2, [.ref q5])), (q5, .inl (E.2.1, 81, .inl f15))] 3 [(0, .ref q1), (1, .int i2), (2, .int i3), (3, .int i4), (4, .int i14)] [] (LX1_exchangePlaces_L3  i2 i3 i4 n i14 f15 k1)
  | 0, _, _ => V_none
  | n + 1, i14, f15 => vBX1_exchangePlaces_L3 hs q1 q5 i2 i3 i4 bc bs i14 f15 (fun i14 f15 => vLX1_exchangePlaces_L3 hs q1 q5 i2 i3 i4 bc bs hk1 n i14 f15) hk1
set_option maxRecDepth 20000 in
theorem vBX1_exchangePlaces_L28 {E : EX} {K : KX} (hs : K.l.stackTraces = false) (q1 q5 : Nat) (i2 i3 i4 : Int32) (bc bs : Nat) (i25 : Int32) (f26 : Nat → Int32) {rec : Int32 → (Nat → Int32) → Option ((Nat → Int32))}  (hrec : ∀ (i25 : Int32) (f26 : Nat → Int32), V E K mX1_exchangePlaces (Qm E K mX1_exchangePlaces (zX1_exchangePlaces E q1 q5)) (bc) (bs) [(q1, .inr (2, [.ref q5])), (q5, .inl (E.2.1, 81, .inl f26))] 28 [(0, .ref q1), (1, .int i2), (2, .int i3), (3, .int i4), (4, .int i25)] [] (rec i25 f26))  : V E K mX1_exchangePlaces (Qm E K mX1_exchangePlaces (zX1_exchangePlaces E q1 q5)) (bc) (bs) [(q1, .inr (2, [.ref q5])), (q5, .inl (E.2.1, 81, .inl f26))] 28 [(0, .ref q1), (1, .int i2), (2, .int i3), (3, .int i4), (4, .int i25)] [] (BX1_exchangePlaces_L28  i2 i3 i4 i25 f26 rec ) := by
  unfold BX1_exchangePlaces_L28
  refine V_iload (dX1_exchangePlaces 15 rfl) 30 rfl 4 rfl ?_
  refine V_iload_n (dX1_exchangePlaces 16 rfl) 31 rfl 3 rfl ?_
  refine V_icmp_ge (dX1_exchangePlaces 17 rfl) 50 (by decide) 34 rfl ?_ ?_
  · exact V_vret rfl (dX1_exchangePlaces 26 rfl) ⟨rfl, rfl⟩
  · refine V_aload_n (dX1_exchangePlaces 18 rfl) 35 rfl 0 rfl ?_
    refine V_iload (dX1_exchangePlaces 19 rfl) 37 rfl 4 rfl ?_
    refine V_iload_n (dX1_exchangePlaces 20 rfl) 38 rfl 1 rfl ?_
    refine V_iload (dX1_exchangePlaces 21 rfl) 40 rfl 4 rfl ?_
    refine V_iload_n (dX1_exchangePlaces 22 rfl) 41 rfl 2 rfl ?_
    refine V_callV (M := mX1_exchangePlaces) (wcs := [(q1, .inr (2, [.ref q5])), (q5, .inl (E.2.1, 81, .inl f26))]) (wr := []) mf_X1_exchangeCells tw_285 tw_287 tw_0 ⟨Nat.le_of_ble_eq_true rfl, Nat.le_of_ble_eq_true rfl⟩ (dX1_exchangePlaces 23 rfl) 44 rfl (kX1_exchangeCells hs q1 q5 f26 i25 i2 i25 i3) rfl [0, 1] [] (q0 := 0) rfl rfl rfl rfl (by decide) rfl rfl rfl rfl (Nat.le_of_ble_eq_true rfl) (bc) (bs) (show (bc) + 0 ≤ (bc) by omega) (show (bs) + 0 ≤ (bs) by omega) (fun z27 v w hz => ?_)
    obtain ⟨rfl, rfl⟩ := hz
    show V E K mX1_exchangePlaces (Qm E K mX1_exchangePlaces (zX1_exchangePlaces E q1 q5)) (bc) (bs) [(q1, .inr (2, [.ref q5])), (q5, .inl (E.2.1, 81, .inl z27))] 44 [(0, .ref q1), (1, .int i2), (2, .int i3), (3, .int i4), (4, .int i25)] [] _
    refine V_iinc (dX1_exchangePlaces 24 rfl) 47 rfl 4 rfl (i25 + (1 : Int32)) rfl [(0, .ref q1), (1, .int i2), (2, .int i3), (3, .int i4), (4, .int (i25 + (1 : Int32)))] (Nat.le_of_ble_eq_true rfl) rfl ?_
    refine V_goto (dX1_exchangePlaces 25 rfl) 28 (by decide) ?_
    exact hrec (i25 + (1 : Int32)) z27
set_option maxRecDepth 20000 in
theorem vLX1_exchangePlaces_L28 {E : EX} {K : KX} (hs : K.l.stackTraces = false) (q1 q5 : Nat) (i2 i3 i4 : Int32) (bc bs : Nat)   : ∀ (n : Nat) (i25 : Int32) (f26 : Nat → Int32), V E K mX1_exchangePlaces (Qm E K mX1_exchangePlaces (zX1_exchangePlaces E q1 q5)) (bc) (bs) [(q1, .inr (2, [.ref q5])), (q5, .inl (E.2.1, 81, .inl f26))] 28 [(0, .ref q1), (1, .int i2), (2, .int i3), (3, .int i4), (4, .int i25)] [] (LX1_exchangePlaces_L28  i2 i3 i4 n i25 f26 )
  | 0, _, _ => V_none
  | n + 1, i25, f26 => vBX1_exchangePlaces_L28 hs q1 q5 i2 i3 i4 bc bs i25 f26 (fun i25 f26 => vLX1_exchangePlaces_L28 hs q1 q5 i2 i3 i4 bc bs  n i25 f26) 
set_option maxRecDepth 20000 in
theorem kX1_exchangePlaces {E : EX} {l : Launch} (hl : l.stackTraces = false) (q1 q5 : Nat) (f6 : Nat → Int32) (i2 i3 i4 : Int32) : Ct E l mX1_exchangePlaces [.ref q1, .int i2, .int i3, .int i4] [(q1, .inr (2, [.ref q5])), (q5, .inl (E.2.1, 81, .inl f6))] (fX1_exchangePlaces f6 i2 i3 i4) (zX1_exchangePlaces E q1 q5) := Ct_of hl mf_X1_exchangePlaces.1 (Nat.le_of_ble_eq_true rfl) (fun K hs => by
  refine V_less 0 0 (Nat.le_refl _) (Nat.le_refl _) ?_
  refine V_pick [0, 1, 2, 3] [(0, .ref q1), (1, .int i2), (2, .int i3), (3, .int i4)] rfl ?_
  unfold fX1_exchangePlaces
  refine V_iconst (0 : Int32) (by decide) (dX1_exchangePlaces 0 rfl) 1 rfl ?_
  refine V_istore (dX1_exchangePlaces 1 rfl) 3 rfl [(0, .ref q1), (1, .int i2), (2, .int i3), (3, .int i4), (4, .int (0 : Int32))] (Nat.le_of_ble_eq_true rfl) rfl ?_
  refine vLX1_exchangePlaces_L3 hs q1 q5 i2 i3 i4 0 0 ?_ 12 (0 : Int32) f6
  intro f17
  show V E K mX1_exchangePlaces (Qm E K mX1_exchangePlaces (zX1_exchangePlaces E q1 q5)) 0 0 [(q1, .inr (2, [.ref q5])), (q5, .inl (E.2.1, 81, .inl f17))] 25 [(0, .ref q1), (1, .int i2), (2, .int i3), (3, .int i4)] [] _
  refine V_iconst (0 : Int32) (by decide) (dX1_exchangePlaces 13 rfl) 26 rfl ?_
  refine V_istore (dX1_exchangePlaces 14 rfl) 28 rfl [(0, .ref q1), (1, .int i2), (2, .int i3), (3, .int i4), (4, .int (0 : Int32))] (Nat.le_of_ble_eq_true rfl) rfl ?_
  refine vLX1_exchangePlaces_L28 hs q1 q5 i2 i3 i4 0 0  12 (0 : Int32) f17)
