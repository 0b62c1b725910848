/-! by program: 24.write -/
noncomputable def szI (i : Int32) : Int32 := (fJ6_stringSize_0f7a4 i).getD 0
def szK (k : Nat) : Int32 := Int32.ofNat (strL.getD k 0)
/-- how long a builder's row of bytes is, and how much of it is used, behind the writing of k places from the i-th on -/
noncomputable def capX (f : Nat → Int32) : Nat → Nat → Nat → Int32 → Nat × Int32
  | 0, _, n, c => (n, c)
  | k + 1, i, n, c =>
    let a : Nat × Int32 := if i = 0 then (n, c) else (capE n (c + 1), c + 1)
    capX f k (i + 1) (capE a.1 (a.2 + szI (f i))) (a.2 + szI (f i))
abbrev mX4_write (c0 n9 : Nat) : MX := (yX4_write, cX4_write, 3, (Option.none : Option FieldType), { frames := 6, cells := ((c0 - n9) / 16), slots := 2 * (c0 - n9), locals := 148 })
abbrev zX4_write (E : EX) (q1 : Nat) (q3 : Nat) (q2 : Nat) (i4 : Int32) (f5 : Nat → Int32) (i7 : Int32) (c0 : Nat) : (Int32 × (Nat → Int32)) → Option Value → va_W → Prop := fun z v w => ∃ q47 : Nat, v = none ∧ w = [(q1, .inr (4, [.ref q3, .int i4])), (q3, .inl (E.2.1, 10, .inl f5)), (q2, .inr (6, [.ref q47, .int cZ, .int i7, .int z.1])), (q47, .inl (E.2.2.1, c0, .inl z.2))]
noncomputable def BX4_write_L2  (i4 : Int32) (f5 : Nat → Int32) (c0 : Nat) (i31 : Int32) (i33 : Int32) (n34 : Nat) (f35 : Nat → Int32) (rec : Int32 → Int32 → Nat → (Nat → Int32) → Option (Int32 × (Nat → Int32)))  : Option (Int32 × (Nat → Int32)) :=
  if i4 ≤ i31 then (gd (n34 = c0) inferInstance (some (i33, f35))) else (jn (fun (i41 : Int32) (n42 : Nat) (f43 : Nat → Int32) => (fX4_at f5 i31).bind (fun z44 => gd (n42 ≤ (capE n42 (i41 + szI z44)) ∧ (capE n42 (i41 + szI z44)) ≤ c0) inferInstance ((fJ4_append_bf812 i41 n42 f43 z44 (capE n42 (i41 + szI z44))).bind (fun z45 => rec (i31 + (1 : Int32)) z45.1 (capE n42 (i41 + szI z44)) z45.2)))) (fun (k36 : Int32 → Nat → (Nat → Int32) → Option (Int32 × (Nat → Int32))) => if i31 ≤ (0 : Int32) then (k36 i33 n34 f35) else (gd (n34 ≤ (capE n34 (i33 + (1 : Int32))) ∧ (capE n34 (i33 + (1 : Int32))) ≤ c0) inferInstance ((fJ4_append_cf468 i33 n34 f35 (45 : Int32) (capE n34 (i33 + (1 : Int32)))).bind (fun z38 => k36 z38.1 (capE n34 (i33 + (1 : Int32))) z38.2)))))
noncomputable def LX4_write_L2  (i4 : Int32) (f5 : Nat → Int32) (c0 : Nat) : Nat → Int32 → Int32 → Nat → (Nat → Int32) → Option (Int32 × (Nat → Int32))
  | 0, _, _, _, _ => none
  | n + 1, i31, i33, n34, f35 => BX4_write_L2  i4 f5 c0 i31 i33 n34 f35 (fun i31 i33 n34 f35 => LX4_write_L2  i4 f5 c0 n i31 i33 n34 f35 ) 
noncomputable def fX4_write  (i4 : Int32) (f5 : Nat → Int32) (i8 : Int32) (n9 : Nat) (f10 : Nat → Int32) (c0 : Nat) : Option (Int32 × (Nat → Int32)) :=
  LX4_write_L2  i4 f5 c0 12 (0 : Int32) i8 n9 f10 
theorem mfz_X4_write : mfact (mX4_write 0 0) 1 := ⟨by decide +kernel, ⟨by decide +kernel, by decide +kernel⟩, by decide +kernel, tw_875, tw_69⟩
theorem mf_X4_write (a0 a1 : Nat) : mfact (mX4_write a0 a1) 1 := mfz_X4_write
set_option maxRecDepth 20000 in
theorem vBX4_write_L2 {E : EX} {K : KX} (hs : K.l.stackTraces = false) (q1 q3 q2 : Nat) (i4 : Int32) (f5 : Nat → Int32) (i7 : Int32) (c0 n9 : Nat) (bc bs : Nat) (q32 : Nat) (i31 i33 : Int32) (n34 : Nat) (f35 : Nat → Int32) {rec : Int32 → Int32 → Nat → (Nat → Int32) → Option (Int32 × (Nat → Int32))}  (hrec : ∀ (q32 : Nat) (i31 i33 : Int32) (n34 : Nat) (f35 : Nat → Int32), V E K (mX4_write c0 n9) (Qm E K (mX4_write c0 n9) (zX4_write E q1 q3 q2 i4 f5 i7 c0)) (bc + ((c0 - n34) / 16)) (bs + 2 * (c0 - n34)) [(q1, .inr (4, [.ref q3, .int i4])), (q3, .inl (E.2.1, 10, .inl f5)), (q2, .inr (6, [.ref q32, .int cZ, .int i7, .int i33])), (q32, .inl (E.2.2.1, n34, .inl f35))] 2 [(0, .ref q1), (1, .ref q2), (2, .int i31)] [] (rec i31 i33 n34 f35))  : V E K (mX4_write c0 n9) (Qm E K (mX4_write c0 n9) (zX4_write E q1 q3 q2 i4 f5 i7 c0)) (bc + ((c0 - n34) / 16)) (bs + 2 * (c0 - n34)) [(q1, .inr (4, [.ref q3, .int i4])), (q3, .inl (E.2.1, 10, .inl f5)), (q2, .inr (6, [.ref q32, .int cZ, .int i7, .int i33])), (q32, .inl (E.2.2.1, n34, .inl f35))] 2 [(0, .ref q1), (1, .ref q2), (2, .int i31)] [] (BX4_write_L2  i4 f5 c0 i31 i33 n34 f35 rec ) := by
  unfold BX4_write_L2
  refine V_iload_n (dX4_write 2 rfl) 3 rfl 2 rfl ?_
  refine V_aload_n (dX4_write 3 rfl) 4 rfl 0 rfl ?_
  refine V_get gf_R_15 0 rfl rfl (dX4_write 4 rfl) 7 rfl ?_
  refine V_icmp_ge (dX4_write 5 rfl) 37 (by decide) 10 rfl ?_ ?_
  · refine V_gd (fun he => ?_)
    subst he
    exact V_vret rfl (dX4_write 20 rfl) ⟨q32, rfl, rfl⟩
  · refine V_iload_n (dX4_write 6 rfl) 11 rfl 2 rfl ?_
    refine V_jn (fun (k36 : Int32 → Nat → (Nat → Int32) → Option (Int32 × (Nat → Int32))) => ∀ (q40 : Nat) (i41 : Int32) (n42 : Nat) (f43 : Nat → Int32), V E K (mX4_write c0 n9) (Qm E K (mX4_write c0 n9) (zX4_write E q1 q3 q2 i4 f5 i7 c0)) (bc + ((c0 - n42) / 16)) (bs + 2 * (c0 - n42)) [(q1, .inr (4, [.ref q3, .int i4])), (q3, .inl (E.2.1, 10, .inl f5)), (q2, .inr (6, [.ref q40, .int cZ, .int i7, .int i41])), (q40, .inl (E.2.2.1, n42, .inl f43))] 21 [(0, .ref q1), (1, .ref q2), (2, .int i31)] [] (k36 i41 n42 f43)) ?_ ?_
    · intro q40 i41 n42 f43
      show V E K (mX4_write c0 n9) (Qm E K (mX4_write c0 n9) (zX4_write E q1 q3 q2 i4 f5 i7 c0)) (bc + ((c0 - n42) / 16)) (bs + 2 * (c0 - n42)) [(q1, .inr (4, [.ref q3, .int i4])), (q3, .inl (E.2.1, 10, .inl f5)), (q2, .inr (6, [.ref q40, .int cZ, .int i7, .int i41])), (q40, .inl (E.2.2.1, n42, .inl f43))] 21 [(0, .ref q1), (1, .ref q2), (2, .int i31)] [] _
      refine V_aload_n (dX4_write 12 rfl) 22 rfl 1 rfl ?_
      refine V_aload_n (dX4_write 13 rfl) 23 rfl 0 rfl ?_
      refine V_iload_n (dX4_write 14 rfl) 24 rfl 2 rfl ?_
      refine V_callV (M := (mX4_write c0 n9)) (wcs := [(q1, .inr (4, [.ref q3, .int i4])), (q3, .inl (E.2.1, 10, .inl f5))]) (wr := [(q2, .inr (6, [.ref q40, .int cZ, .int i7, .int i41])), (q40, .inl (E.2.2.1, n42, .inl f43))]) mf_X4_at tw_350 tw_336 tw_337 ⟨Nat.le_of_ble_eq_true rfl, Nat.le_of_ble_eq_true rfl⟩ (dX4_write 15 rfl) 27 rfl (kX4_at hs q1 q3 i4 f5 i31) rfl [0, 1] [2, 3] (q0 := 0) rfl rfl rfl rfl (by decide) rfl rfl rfl rfl (Nat.le_of_ble_eq_true rfl) (bc + ((c0 - n42) / 16)) (bs + 2 * (c0 - n42)) (show (bc + ((c0 - n42) / 16)) + 0 ≤ (bc + ((c0 - n42) / 16)) by omega) (show (bs + 2 * (c0 - n42)) + 0 ≤ (bs + 2 * (c0 - n42)) by omega) (fun z44 v w hz => ?_)
      obtain ⟨rfl, rfl⟩ := hz
      show V E K (mX4_write c0 n9) (Qm E K (mX4_write c0 n9) (zX4_write E q1 q3 q2 i4 f5 i7 c0)) (bc + ((c0 - n42) / 16)) (bs + 2 * (c0 - n42)) [(q2, .inr (6, [.ref q40, .int cZ, .int i7, .int i41])), (q40, .inl (E.2.2.1, n42, .inl f43)), (q1, .inr (4, [.ref q3, .int i4])), (q3, .inl (E.2.1, 10, .inl f5))] 27 [(0, .ref q1), (1, .ref q2), (2, .int i31)] [.int z44, .ref q2] _
      refine V_gd (fun hg => ?_)
      refine V_callV (M := (mX4_write c0 n9)) (wcs := [(q2, .inr (6, [.ref q40, .int cZ, .int i7, .int i41])), (q40, .inl (E.2.2.1, n42, .inl f43))]) (wr := [(q1, .inr (4, [.ref q3, .int i4])), (q3, .inl (E.2.1, 10, .inl f5))]) (mf_J4_append_bf812 (capE n42 (i41 + szI z44)) n42) tw_877 tw_708 tw_709 ⟨Nat.le_of_ble_eq_true rfl, Nat.le_of_ble_eq_true rfl⟩ (dX4_write 16 rfl) 30 rfl (kJ4_append_bf812 hs q2 q40 i7 i41 n42 f43 z44 (capE n42 (i41 + szI z44))) rfl [0, 1] [2, 3] (q0 := 0) rfl rfl rfl rfl (by decide) rfl rfl rfl rfl (Nat.le_of_ble_eq_true rfl) (bc + ((c0 - (capE n42 (i41 + szI z44))) / 16)) (bs + 2 * (c0 - (capE n42 (i41 + szI z44)))) (show (bc + ((c0 - (capE n42 (i41 + szI z44))) / 16)) + (((capE n42 (i41 + szI z44)) - n42) / 16) ≤ (bc + ((c0 - n42) / 16)) by omega) (show (bs + 2 * (c0 - (capE n42 (i41 + szI z44)))) + 2 * ((capE n42 (i41 + szI z44)) - n42) ≤ (bs + 2 * (c0 - n42)) by omega) (fun z45 v w hz => ?_)
      obtain ⟨q46, rfl, rfl⟩ := hz
      show V E K (mX4_write c0 n9) (Qm E K (mX4_write c0 n9) (zX4_write E q1 q3 q2 i4 f5 i7 c0)) (bc + ((c0 - (capE n42 (i41 + szI z44))) / 16)) (bs + 2 * (c0 - (capE n42 (i41 + szI z44)))) [(q1, .inr (4, [.ref q3, .int i4])), (q3, .inl (E.2.1, 10, .inl f5)), (q2, .inr (6, [.ref q46, .int cZ, .int i7, .int z45.1])), (q46, .inl (E.2.2.1, (capE n42 (i41 + szI z44)), .inl z45.2))] 30 [(0, .ref q1), (1, .ref q2), (2, .int i31)] [.ref q2] _
      refine V_pop rfl (dX4_write 17 rfl) 31 rfl ?_
      refine V_iinc (dX4_write 18 rfl) 34 rfl 2 rfl (i31 + (1 : Int32)) rfl [(0, .ref q1), (1, .ref q2), (2, .int (i31 + (1 : Int32)))] (Nat.le_of_ble_eq_true rfl) rfl ?_
      refine V_goto (dX4_write 19 rfl) 2 (by decide) ?_
      exact hrec q46 (i31 + (1 : Int32)) z45.1 (capE n42 (i41 + szI z44)) z45.2
    · intro k36 hk37
      refine V_if_le (dX4_write 7 rfl) 21 (by decide) 14 rfl ?_ ?_
      · exact hk37 q32 i33 n34 f35
      · refine V_aload_n (dX4_write 8 rfl) 15 rfl 1 rfl ?_
        refine V_bipush (45 : Int32) (by decide) (dX4_write 9 rfl) 17 rfl ?_
        refine V_gd (fun hg => ?_)
        refine V_callV (M := (mX4_write c0 n9)) (wcs := [(q2, .inr (6, [.ref q32, .int cZ, .int i7, .int i33])), (q32, .inl (E.2.2.1, n34, .inl f35))]) (wr := [(q1, .inr (4, [.ref q3, .int i4])), (q3, .inl (E.2.1, 10, .inl f5))]) (mf_J4_append_cf468 (capE n34 (i33 + (1 : Int32))) n34) tw_876 tw_851 tw_852 ⟨Nat.le_of_ble_eq_true rfl, Nat.le_of_ble_eq_true rfl⟩ (dX4_write 10 rfl) 20 rfl (kJ4_append_cf468 hs q2 q32 i7 i33 n34 f35 (45 : Int32) (capE n34 (i33 + (1 : Int32)))) rfl [2, 3] [0, 1] (q0 := 0) rfl rfl rfl rfl (by decide) rfl rfl rfl rfl (Nat.le_of_ble_eq_true rfl) (bc + ((c0 - (capE n34 (i33 + (1 : Int32)))) / 16)) (bs + 2 * (c0 - (capE n34 (i33 + (1 : Int32))))) (show (bc + ((c0 - (capE n34 (i33 + (1 : Int32)))) / 16)) + (((capE n34 (i33 + (1 : Int32))) - n34) / 16) ≤ (bc + ((c0 - n34) / 16)) by omega) (show (bs + 2 * (c0 - (capE n34 (i33 + (1 : Int32))))) + 2 * ((capE n34 (i33 + (1 : Int32))) - n34) ≤ (bs + 2 * (c0 - n34)) by omega) (fun z38 v w hz => ?_)
        obtain ⟨q39, rfl, rfl⟩ := hz
        show V E K (mX4_write c0 n9) (Qm E K (mX4_write c0 n9) (zX4_write E q1 q3 q2 i4 f5 i7 c0)) (bc + ((c0 - (capE n34 (i33 + (1 : Int32)))) / 16)) (bs + 2 * (c0 - (capE n34 (i33 + (1 : Int32))))) [(q1, .inr (4, [.ref q3, .int i4])), (q3, .inl (E.2.1, 10, .inl f5)), (q2, .inr (6, [.ref q39, .int cZ, .int i7, .int z38.1])), (q39, .inl (E.2.2.1, (capE n34 (i33 + (1 : Int32))), .inl z38.2))] 20 [(0, .ref q1), (1, .ref q2), (2, .int i31)] [.ref q2] _
        refine V_pop rfl (dX4_write 11 rfl) 21 rfl ?_
        exact hk37 q39 z38.1 (capE n34 (i33 + (1 : Int32))) z38.2
set_option maxRecDepth 20000 in
theorem vLX4_write_L2 {E : EX} {K : KX} (hs : K.l.stackTraces = false) (q1 q3 q2 : Nat) (i4 : Int32) (f5 : Nat → Int32) (i7 : Int32) (c0 n9 : Nat) (bc bs : Nat)   : ∀ (n : Nat) (q32 : Nat) (i31 i33 : Int32) (n34 : Nat) (f35 : Nat → Int32), V E K (mX4_write c0 n9) (Qm E K (mX4_write c0 n9) (zX4_write E q1 q3 q2 i4 f5 i7 c0)) (bc + ((c0 - n34) / 16)) (bs + 2 * (c0 - n34)) [(q1, .inr (4, [.ref q3, .int i4])), (q3, .inl (E.2.1, 10, .inl f5)), (q2, .inr (6, [.ref q32, .int cZ, .int i7, .int i33])), (q32, .inl (E.2.2.1, n34, .inl f35))] 2 [(0, .ref q1), (1, .ref q2), (2, .int i31)] [] (LX4_write_L2  i4 f5 c0 n i31 i33 n34 f35 )
  | 0, _, _, _, _, _ => V_none
  | n + 1, q32, i31, i33, n34, f35 => vBX4_write_L2 hs q1 q3 q2 i4 f5 i7 c0 n9 bc bs q32 i31 i33 n34 f35 (fun q32 i31 i33 n34 f35 => vLX4_write_L2 hs q1 q3 q2 i4 f5 i7 c0 n9 bc bs  n q32 i31 i33 n34 f35) 
set_option maxRecDepth 20000 in
theorem kX4_write {E : EX} {l : Launch} (hl : l.stackTraces = false) (q1 q2 q3 q6 : Nat) (i4 : Int32) (f5 : Nat → Int32) (i7 i8 : Int32) (n9 : Nat) (f10 : Nat → Int32) (c0 : Nat) : Ct E l (mX4_write c0 n9) [.ref q1, .ref q2] [(q1, .inr (4, [.ref q3, .int i4])), (q3, .inl (E.2.1, 10, .inl f5)), (q2, .inr (6, [.ref q6, .int cZ, .int i7, .int i8])), (q6, .inl (E.2.2.1, n9, .inl f10))] (fX4_write i4 f5 i8 n9 f10 c0) (zX4_write E q1 q3 q2 i4 f5 i7 c0) := Ct_of hl (mf_X4_write c0 n9).1 (Nat.le_of_ble_eq_true rfl) (fun K hs => by
  refine V_less ((c0 - n9) / 16) (2 * (c0 - n9)) (Nat.le_refl _) (Nat.le_refl _) ?_
  refine V_pick [0, 1] [(0, .ref q1), (1, .ref q2)] rfl ?_
  unfold fX4_write
  refine V_iconst (0 : Int32) (by decide) (dX4_write 0 rfl) 1 rfl ?_
  refine V_istore_n (dX4_write 1 rfl) 2 rfl [(0, .ref q1), (1, .ref q2), (2, .int (0 : Int32))] (Nat.le_of_ble_eq_true rfl) rfl ?_
  refine V_less (0 + ((c0 - n9) / 16)) (0 + 2 * (c0 - n9)) (by omega) (by omega) ?_
  refine vLX4_write_L2 hs q1 q3 q2 i4 f5 i7 c0 n9 0 0  12 q6 (0 : Int32) i8 n9 f10)
