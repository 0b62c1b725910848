/-! by program: what the class's functions give -/
set_option maxRecDepth 4000 in
theorem ok_J5_length_8abf5 (i4 : Int32)  : Ok (fJ5_length_8abf5 i4) (fun z => True) := by
  unfold fJ5_length_8abf5
  exact Ok_some trivial
set_option maxRecDepth 4000 in
theorem ok_J4_length_8abf5 (i4 : Int32)  : Ok (fJ4_length_8abf5 i4) (fun z => True) := by
  unfold fJ4_length_8abf5
  refine Ok_bind (ok_J5_length_8abf5 i4) (fun z5 hz5 => ?_)
  exact Ok_some trivial
set_option maxRecDepth 4000 in
theorem okL_X6_digest_L6 (i10 : Int32) (i11 : Int32) (i12 : Int32) (f16 : Nat → Int32) {P : (Int64 × (Nat → Int32) × (Nat → Int32) × Int32 × Int32 × (Nat → Int32) × (Nat → Int32) × Int32 × Int32 × Int32 × (Nat → Int32) × Int32 × Int32 × Nat × (Nat → Int32)) → Prop} {k1 : Int64 → Option (Int64 × (Nat → Int32) × (Nat → Int32) × Int32 × Int32 × (Nat → Int32) × (Nat → Int32) × Int32 × Int32 × Int32 × (Nat → Int32) × Int32 × Int32 × Nat × (Nat → Int32))} (g0 : 2 ≤ i10.toInt ∧ i10.toInt ≤ 9) (hk1 : ∀ (y1 : Int64), Ok (k1 y1) P) : ∀ (n : Nat) (l94 : Int64) (i95 : Int32), 0 ≤ i95.toInt → 4 - i95.toInt + 1 < n → 0 < n → Ok (LX6_digest_L6 i10 i11 i12 f16 n l94 i95 k1) P := by
  intro n
  induction n with
  | zero => intro l94 i95 v0 hm h0; exact absurd h0 (Nat.lt_irrefl 0)
  | succ n ih =>
    intro l94 i95 v0 hm h0
    show Ok (BX6_digest_L6 i10 i11 i12 f16 l94 i95 (fun l94 i95 => LX6_digest_L6 i10 i11 i12 f16 n l94 i95 k1) k1) _
    unfold BX6_digest_L6
    refine Ok_if ?_ ?_
    · intro h
      have c442 : 4 < i95.toInt := i32lt h
      exact hk1 l94
    · intro h
      have c443 : i95.toInt ≤ 4 := i32nlt h
      refine Ok_x0 (ok_X6_told i10 i11 i12 f16 i95 (by first | omega | assumption | (try simp only [tl0, tl1, tl2, tl3, tl4, tl5, tl6, tl8, tl9, tl10, tl50, tl81, tl100, tl1000, tl9999, tlm1, tlm9, tlm50, tl2147483647]; omega))) (by first | omega | assumption | (try simp only [tl0, tl1, tl2, tl3, tl4, tl5, tl6, tl8, tl9, tl10, tl50, tl81, tl100, tl1000, tl9999, tlm1, tlm9, tlm50, tl2147483647]; omega)) (fun z96 hz96 => ?_)
      refine Ok_nm (fun l97 wl97 => ?_)
      try (have e444 := inc_iv (x := i95) (by omega))
      exact ih l97 (i95 + (1 : Int32)) (by first | omega | assumption | (try simp only [tl0, tl1, tl2, tl3, tl4, tl5, tl6, tl8, tl9, tl10, tl50, tl81, tl100, tl1000, tl9999, tlm1, tlm9, tlm50, tl2147483647]; omega)) (by first | omega | assumption | (try simp only [tl0, tl1, tl2, tl3, tl4, tl5, tl6, tl8, tl9, tl10, tl50, tl81, tl100, tl1000, tl9999, tlm1, tlm9, tlm50, tl2147483647]; omega)) (by first | omega | assumption | (try simp only [tl0, tl1, tl2, tl3, tl4, tl5, tl6, tl8, tl9, tl10, tl50, tl81, tl100, tl1000, tl9999, tlm1, tlm9, tlm50, tl2147483647]; omega))
set_option maxRecDepth 4000 in
theorem okL_X6_digest_L32 (i10 : Int32) (i11 : Int32) (f16 : Nat → Int32) (f18 : Nat → Int32) {P : (Int64 × (Nat → Int32) × (Nat → Int32) × Int32 × Int32 × (Nat → Int32) × (Nat → Int32) × Int32 × Int32 × Int32 × (Nat → Int32) × Int32 × Int32 × Nat × (Nat → Int32)) → Prop} {k1 : Int64 → Int32 → (Nat → Int32) → Option (Int64 × (Nat → Int32) × (Nat → Int32) × Int32 × Int32 × (Nat → Int32) × (Nat → Int32) × Int32 × Int32 × Int32 × (Nat → Int32) × Int32 × Int32 × Nat × (Nat → Int32))} (g0 : 2 ≤ i10.toInt ∧ i10.toInt ≤ 9) (hk1 : ∀ (y1 : Int64) (y2 : Int32) (y3 : (Nat → Int32)), 0 ≤ y2.toInt → y2.toInt ≤ 9 → Ok (k1 y1 y2 y3) P) : ∀ (n : Nat) (l146 : Int64) (i147 : Int32) (i148 : Int32) (f149 : Nat → Int32), 0 ≤ i148.toInt → i148.toInt ≤ 9 → 0 ≤ i147.toInt → i10.toInt - i147.toInt < n → 0 < n → Ok (LX6_digest_L32 i10 i11 f16 f18 n l146 i147 i148 f149 k1) P := by
  intro n
  induction n with
  | zero => intro l146 i147 i148 f149 v0 v1 v2 hm h0; exact absurd h0 (Nat.lt_irrefl 0)
  | succ n ih =>
    intro l146 i147 i148 f149 v0 v1 v2 hm h0
    show Ok (BX6_digest_L32 i10 i11 f16 f18 l146 i147 i148 f149 (fun l146 i147 i148 f149 => LX6_digest_L32 i10 i11 f16 f18 n l146 i147 i148 f149 k1) k1) _
    unfold BX6_digest_L32
    refine Ok_if ?_ ?_
    · intro h
      have c445 : i10.toInt ≤ i147.toInt := i32le h
      exact hk1 l146 i148 f149 (by first | omega | assumption | (try simp only [tl0, tl1, tl2, tl3, tl4, tl5, tl6, tl8, tl9, tl10, tl50, tl81, tl100, tl1000, tl9999, tlm1, tlm9, tlm50, tl2147483647]; omega)) (by first | omega | assumption | (try simp only [tl0, tl1, tl2, tl3, tl4, tl5, tl6, tl8, tl9, tl10, tl50, tl81, tl100, tl1000, tl9999, tlm1, tlm9, tlm50, tl2147483647]; omega))
    · intro h
      have c446 : i147.toInt < i10.toInt := i32nle h
      refine Ok_bind (ok_X6_withPlace i10 i11 f16 f18 f149 l146 i147 (by first | omega | assumption | (try simp only [tl0, tl1, tl2, tl3, tl4, tl5, tl6, tl8, tl9, tl10, tl50, tl81, tl100, tl1000, tl9999, tlm1, tlm9, tlm50, tl2147483647]; omega)) (by first | omega | assumption | (try simp only [tl0, tl1, tl2, tl3, tl4, tl5, tl6, tl8, tl9, tl10, tl50, tl81, tl100, tl1000, tl9999, tlm1, tlm9, tlm50, tl2147483647]; omega)) (by first | omega | assumption | (try simp only [tl0, tl1, tl2, tl3, tl4, tl5, tl6, tl8, tl9, tl10, tl50, tl81, tl100, tl1000, tl9999, tlm1, tlm9, tlm50, tl2147483647]; omega))) (fun z150 hz150 => ?_)
      try (have e447 := inc_iv (x := i147) (by omega))
      exact ih z150.1 (i147 + (1 : Int32)) i10 z150.2 (by first | omega | assumption | (try simp only [tl0, tl1, tl2, tl3, tl4, tl5, tl6, tl8, tl9, tl10, tl50, tl81, tl100, tl1000, tl9999, tlm1, tlm9, tlm50, tl2147483647]; omega)) (by first | omega | assumption | (try simp only [tl0, tl1, tl2, tl3, tl4, tl5, tl6, tl8, tl9, tl10, tl50, tl81, tl100, tl1000, tl9999, tlm1, tlm9, tlm50, tl2147483647]; omega)) (by first | omega | assumption | (try simp only [tl0, tl1, tl2, tl3, tl4, tl5, tl6, tl8, tl9, tl10, tl50, tl81, tl100, tl1000, tl9999, tlm1, tlm9, tlm50, tl2147483647]; omega)) (by first | omega | assumption | (try simp only [tl0, tl1, tl2, tl3, tl4, tl5, tl6, tl8, tl9, tl10, tl50, tl81, tl100, tl1000, tl9999, tlm1, tlm9, tlm50, tl2147483647]; omega)) (by first | omega | assumption | (try simp only [tl0, tl1, tl2, tl3, tl4, tl5, tl6, tl8, tl9, tl10, tl50, tl81, tl100, tl1000, tl9999, tlm1, tlm9, tlm50, tl2147483647]; omega))
set_option maxRecDepth 4000 in
theorem okL_X6_digest_L179 (i7 : Int32) (i8 : Int32) (i9 : Int32) {P : (Int64 × (Nat → Int32) × (Nat → Int32) × Int32 × Int32 × (Nat → Int32) × (Nat → Int32) × Int32 × Int32 × Int32 × (Nat → Int32) × Int32 × Int32 × Nat × (Nat → Int32)) → Prop} {k1 : Int64 → Option (Int64 × (Nat → Int32) × (Nat → Int32) × Int32 × Int32 × (Nat → Int32) × (Nat → Int32) × Int32 × Int32 × Int32 × (Nat → Int32) × Int32 × Int32 × Nat × (Nat → Int32))}  (hk1 : ∀ (y1 : Int64), Ok (k1 y1) P) : ∀ (n : Nat) (l222 : Int64) (i223 : Int32), 0 ≤ i223.toInt → 2 - i223.toInt + 1 < n → 0 < n → Ok (LX6_digest_L179 i7 i8 i9 n l222 i223 k1) P := by
  intro n
  induction n with
  | zero => intro l222 i223 v0 hm h0; exact absurd h0 (Nat.lt_irrefl 0)
  | succ n ih =>
    intro l222 i223 v0 hm h0
    show Ok (BX6_digest_L179 i7 i8 i9 l222 i223 (fun l222 i223 => LX6_digest_L179 i7 i8 i9 n l222 i223 k1) k1) _
    unfold BX6_digest_L179
    refine Ok_if ?_ ?_
    · intro h
      have c450 : 2 < i223.toInt := i32lt h
      exact hk1 l222
    · intro h
      have c451 : i223.toInt ≤ 2 := i32nlt h
      refine Ok_x0 (ok_X6_house i7 i8 i9 i223) (by first | omega | assumption | (try simp only [tl0, tl1, tl2, tl3, tl4, tl5, tl6, tl8, tl9, tl10, tl50, tl81, tl100, tl1000, tl9999, tlm1, tlm9, tlm50, tl2147483647]; omega)) (fun z238 hz238 => ?_)
      refine Ok_nm (fun l239 wl239 => ?_)
      try (have e452 := inc_iv (x := i223) (by omega))
      exact ih l239 (i223 + (1 : Int32)) (by first | omega | assumption | (try simp only [tl0, tl1, tl2, tl3, tl4, tl5, tl6, tl8, tl9, tl10, tl50, tl81, tl100, tl1000, tl9999, tlm1, tlm9, tlm50, tl2147483647]; omega)) (by first | omega | assumption | (try simp only [tl0, tl1, tl2, tl3, tl4, tl5, tl6, tl8, tl9, tl10, tl50, tl81, tl100, tl1000, tl9999, tlm1, tlm9, tlm50, tl2147483647]; omega)) (by first | omega | assumption | (try simp only [tl0, tl1, tl2, tl3, tl4, tl5, tl6, tl8, tl9, tl10, tl50, tl81, tl100, tl1000, tl9999, tlm1, tlm9, tlm50, tl2147483647]; omega))
set_option maxRecDepth 4000 in
theorem ok_X6_digest (i7 : Int32) (i8 : Int32) (i9 : Int32) (i10 : Int32) (i11 : Int32) (i12 : Int32) (f16 : Nat → Int32) (f18 : Nat → Int32) (f25 : Nat → Int32) (f27 : Nat → Int32) (i30 : Int32) (i32 : Int32) (f33 : Nat → Int32) (f34 : Nat → Int32) (i36 : Int32) (i37 : Int32) (i39 : Int32) (f40 : Nat → Int32) (i42 : Int32) (i43 : Int32) (n44 : Nat) (f45 : Nat → Int32) (h0 : 2 ≤ i10.toInt ∧ i10.toInt ≤ 9) (h1 : 0 ≤ i30.toInt ∧ i30.toInt ≤ 9) (h2 : 0 ≤ i32.toInt ∧ i32.toInt ≤ 10) (h3 : 0 ≤ i39.toInt ∧ i39.toInt ≤ 10) (h4 : CT n44 i43 f45) : Ok (fX6_digest i7 i8 i9 i10 i11 i12 f16 f18 f25 f27 i30 i32 f33 f34 i36 i37 i39 f40 i42 i43 n44 f45) (fun z => (0 ≤ z.2.2.2.1.toInt ∧ z.2.2.2.1.toInt ≤ 9) ∧ (0 ≤ z.2.2.2.2.1.toInt ∧ z.2.2.2.2.1.toInt ≤ 10) ∧ (0 ≤ z.2.2.2.2.2.2.2.2.2.1.toInt ∧ z.2.2.2.2.2.2.2.2.2.1.toInt ≤ 10) ∧ CT z.2.2.2.2.2.2.2.2.2.2.2.2.2.1 z.2.2.2.2.2.2.2.2.2.2.2.2.1 z.2.2.2.2.2.2.2.2.2.2.2.2.2.2) := by
  unfold fX6_digest
  refine okL_X6_digest_L6 i10 i11 i12 f16 (by first | omega | assumption | (try simp only [tl0, tl1, tl2, tl3, tl4, tl5, tl6, tl8, tl9, tl10, tl50, tl81, tl100, tl1000, tl9999, tlm1, tlm9, tlm50, tl2147483647]; omega)) ?_ 12 (8026 : Int64) (0 : Int32) (by first | omega | assumption | (try simp only [tl0, tl1, tl2, tl3, tl4, tl5, tl6, tl8, tl9, tl10, tl50, tl81, tl100, tl1000, tl9999, tlm1, tlm9, tlm50, tl2147483647]; omega)) (by first | omega | assumption | (try simp only [tl0, tl1, tl2, tl3, tl4, tl5, tl6, tl8, tl9, tl10, tl50, tl81, tl100, tl1000, tl9999, tlm1, tlm9, tlm50, tl2147483647]; omega)) (by first | omega | assumption | (try simp only [tl0, tl1, tl2, tl3, tl4, tl5, tl6, tl8, tl9, tl10, tl50, tl81, tl100, tl1000, tl9999, tlm1, tlm9, tlm50, tl2147483647]; omega))
  intro l98
  show Ok (LX6_digest_L32  i10 i11 f16 f18 12 l98 (0 : Int32) i30 f34 (fun (l151 : Int64) (i152 : Int32) (f153 : Nat → Int32) => (fX6_value i10 i11 f18).bind (fun z154 => nm ((l151 * (31 : Int64)) + z154.toInt64) (fun (l155 : Int64) => x0 (fX6_most i10 i11 i12 f16 f18 f25 f27 i152 i32 f33 f153 (0 : Int32)) (fun z156 => nm ((l155 * (31 : Int64)) + z156.1.toInt64) (fun (l157 : Int64) => (fX6_leasts i10 i11 i12 f16).bind (fun z158 => nm ((l157 * (31 : Int64)) + z158.toInt64) (fun (l159 : Int64) => (fX6_end i10 i11 i12 f16 (0 : Int32)).bind (fun z160 => nm ((l159 * (31 : Int64)) + z160.toInt64) (fun (l161 : Int64) => (fX6_end i10 i11 i12 f16 (1 : Int32)).bind (fun z162 => nm ((l161 * (31 : Int64)) + z162.toInt64) (fun (l163 : Int64) => (fX6_parts i10 i11 i12 f16 f18 z156.2.1 z156.2.2.1 i36 i37 i39 f40 (0 : Int32)).bind (fun z164 => nm ((l163 * (31 : Int64)) + z164.1.toInt64) (fun (l165 : Int64) => (fX6_parts i10 i11 i12 f16 f18 z164.2.1 z164.2.2.1 z164.2.2.2.1 z164.2.2.2.2.1 z164.2.2.2.2.2.1 z164.2.2.2.2.2.2 (1 : Int32)).bind (fun z166 => nm ((l165 * (31 : Int64)) + z166.1.toInt64) (fun (l167 : Int64) => (fX6_writeParts i10 i11 i12 f16 f18 z166.2.1 z166.2.2.1 z166.2.2.2.1 z166.2.2.2.2.1 z166.2.2.2.2.2.1 z166.2.2.2.2.2.2 i42 i43 n44 f45).bind (fun z168 => (fJ4_length_8abf5 z168.2.2.2.2.2.2.2.1).bind (fun z170 => nm ((l167 * (31 : Int64)) + z170.toInt64) (fun (l171 : Int64) => x0 (fX6_apart i10 i11 i12 f16 f18 z168.1 z168.2.1 z156.2.2.2.1 z156.2.2.2.2.1 z156.2.2.2.2.2.1 z156.2.2.2.2.2.2 (0 : Int32)) (fun z172 => nm ((l171 * (31 : Int64)) + z172.1.toInt64) (fun (l173 : Int64) => LX6_digest_L179  i7 i8 i9 12 l173 (0 : Int32) (fun (l240 : Int64) => (fX6_isSound i10 i11 i12 f16 f18 z172.2.1 z172.2.2.1 z172.2.2.2.1 z172.2.2.2.2.1 z172.2.2.2.2.2.1 z172.2.2.2.2.2.2 z168.2.2.1 z168.2.2.2.1 z168.2.2.2.2.1 z168.2.2.2.2.2.1).bind (fun z241 => if z241.1 = (0 : Int32) then (some ((l240 * (31 : Int64)) + ((0 : Int32).toInt64), z241.2.1, z241.2.2.1, z241.2.2.2.1, z241.2.2.2.2.1, z241.2.2.2.2.2.1, z241.2.2.2.2.2.2.1, z241.2.2.2.2.2.2.2.1, z241.2.2.2.2.2.2.2.2.1, z241.2.2.2.2.2.2.2.2.2.1, z241.2.2.2.2.2.2.2.2.2.2, z168.2.2.2.2.2.2.1, z168.2.2.2.2.2.2.2.1, z168.2.2.2.2.2.2.2.2.1, z168.2.2.2.2.2.2.2.2.2)) else (some ((l240 * (31 : Int64)) + ((1 : Int32).toInt64), z241.2.1, z241.2.2.1, z241.2.2.2.1, z241.2.2.2.2.1, z241.2.2.2.2.2.1, z241.2.2.2.2.2.2.1, z241.2.2.2.2.2.2.2.1, z241.2.2.2.2.2.2.2.2.1, z241.2.2.2.2.2.2.2.2.2.1, z241.2.2.2.2.2.2.2.2.2.2, z168.2.2.2.2.2.2.1, z168.2.2.2.2.2.2.2.1, z168.2.2.2.2.2.2.2.2.1, z168.2.2.2.2.2.2.2.2.2))))))))))))))))))))))))) _
  refine okL_X6_digest_L32 i10 i11 f16 f18 (by first | omega | assumption | (try simp only [tl0, tl1, tl2, tl3, tl4, tl5, tl6, tl8, tl9, tl10, tl50, tl81, tl100, tl1000, tl9999, tlm1, tlm9, tlm50, tl2147483647]; omega)) ?_ 12 l98 (0 : Int32) i30 f34 (by first | omega | assumption | (try simp only [tl0, tl1, tl2, tl3, tl4, tl5, tl6, tl8, tl9, tl10, tl50, tl81, tl100, tl1000, tl9999, tlm1, tlm9, tlm50, tl2147483647]; omega)) (by first | omega | assumption | (try simp only [tl0, tl1, tl2, tl3, tl4, tl5, tl6, tl8, tl9, tl10, tl50, tl81, tl100, tl1000, tl9999, tlm1, tlm9, tlm50, tl2147483647]; omega)) (by first | omega | assumption | (try simp only [tl0, tl1, tl2, tl3, tl4, tl5, tl6, tl8, tl9, tl10, tl50, tl81, tl100, tl1000, tl9999, tlm1, tlm9, tlm50, tl2147483647]; omega)) (by first | omega | assumption | (try simp only [tl0, tl1, tl2, tl3, tl4, tl5, tl6, tl8, tl9, tl10, tl50, tl81, tl100, tl1000, tl9999, tlm1, tlm9, tlm50, tl2147483647]; omega)) (by first | omega | assumption | (try simp only [tl0, tl1, tl2, tl3, tl4, tl5, tl6, tl8, tl9, tl10, tl50, tl81, tl100, tl1000, tl9999, tlm1, tlm9, tlm50, tl2147483647]; omega))
  intro l151 i152 f153 x448_0 x449_1
  show Ok ((fX6_value i10 i11 f18).bind (fun z154 => nm ((l151 * (31 : Int64)) + z154.toInt64) (fun (l155 : Int64) => x0 (fX6_most i10 i11 i12 f16 f18 f25 f27 i152 i32 f33 f153 (0 : Int32)) (fun z156 => nm ((l155 * (31 : Int64)) + z156.1.toInt64) (fun (l157 : Int64) => (fX6_leasts i10 i11 i12 f16).bind (fun z158 => nm ((l157 * (31 : Int64)) + z158.toInt64) (fun (l159 : Int64) => (fX6_end i10 i11 i12 f16 (0 : Int32)).bind (fun z160 => nm ((l159 * (31 : Int64)) + z160.toInt64) (fun (l161 : Int64) => (fX6_end i10 i11 i12 f16 (1 : Int32)).bind (fun z162 => nm ((l161 * (31 : Int64)) + z162.toInt64) (fun (l163 : Int64) => (fX6_parts i10 i11 i12 f16 f18 z156.2.1 z156.2.2.1 i36 i37 i39 f40 (0 : Int32)).bind (fun z164 => nm ((l163 * (31 : Int64)) + z164.1.toInt64) (fun (l165 : Int64) => (fX6_parts i10 i11 i12 f16 f18 z164.2.1 z164.2.2.1 z164.2.2.2.1 z164.2.2.2.2.1 z164.2.2.2.2.2.1 z164.2.2.2.2.2.2 (1 : Int32)).bind (fun z166 => nm ((l165 * (31 : Int64)) + z166.1.toInt64) (fun (l167 : Int64) => (fX6_writeParts i10 i11 i12 f16 f18 z166.2.1 z166.2.2.1 z166.2.2.2.1 z166.2.2.2.2.1 z166.2.2.2.2.2.1 z166.2.2.2.2.2.2 i42 i43 n44 f45).bind (fun z168 => (fJ4_length_8abf5 z168.2.2.2.2.2.2.2.1).bind (fun z170 => nm ((l167 * (31 : Int64)) + z170.toInt64) (fun (l171 : Int64) => x0 (fX6_apart i10 i11 i12 f16 f18 z168.1 z168.2.1 z156.2.2.2.1 z156.2.2.2.2.1 z156.2.2.2.2.2.1 z156.2.2.2.2.2.2 (0 : Int32)) (fun z172 => nm ((l171 * (31 : Int64)) + z172.1.toInt64) (fun (l173 : Int64) => LX6_digest_L179  i7 i8 i9 12 l173 (0 : Int32) (fun (l240 : Int64) => (fX6_isSound i10 i11 i12 f16 f18 z172.2.1 z172.2.2.1 z172.2.2.2.1 z172.2.2.2.2.1 z172.2.2.2.2.2.1 z172.2.2.2.2.2.2 z168.2.2.1 z168.2.2.2.1 z168.2.2.2.2.1 z168.2.2.2.2.2.1).bind (fun z241 => if z241.1 = (0 : Int32) then (some ((l240 * (31 : Int64)) + ((0 : Int32).toInt64), z241.2.1, z241.2.2.1, z241.2.2.2.1, z241.2.2.2.2.1, z241.2.2.2.2.2.1, z241.2.2.2.2.2.2.1, z241.2.2.2.2.2.2.2.1, z241.2.2.2.2.2.2.2.2.1, z241.2.2.2.2.2.2.2.2.2.1, z241.2.2.2.2.2.2.2.2.2.2, z168.2.2.2.2.2.2.1, z168.2.2.2.2.2.2.2.1, z168.2.2.2.2.2.2.2.2.1, z168.2.2.2.2.2.2.2.2.2)) else (some ((l240 * (31 : Int64)) + ((1 : Int32).toInt64), z241.2.1, z241.2.2.1, z241.2.2.2.1, z241.2.2.2.2.1, z241.2.2.2.2.2.1, z241.2.2.2.2.2.2.1, z241.2.2.2.2.2.2.2.1, z241.2.2.2.2.2.2.2.2.1, z241.2.2.2.2.2.2.2.2.2.1, z241.2.2.2.2.2.2.2.2.2.2, z168.2.2.2.2.2.2.1, z168.2.2.2.2.2.2.2.1, z168.2.2.2.2.2.2.2.2.1, z168.2.2.2.2.2.2.2.2.2)))))))))))))))))))))))) _
  refine Ok_bind (ok_X6_value i10 i11 f18 (by first | omega | assumption | (try simp only [tl0, tl1, tl2, tl3, tl4, tl5, tl6, tl8, tl9, tl10, tl50, tl81, tl100, tl1000, tl9999, tlm1, tlm9, tlm50, tl2147483647]; omega))) (fun z154 hz154 => ?_)
  refine Ok_nm (fun l155 wl155 => ?_)
  refine Ok_x0 (ok_X6_most i10 i11 i12 f16 f18 f25 f27 i152 i32 f33 f153 (0 : Int32) (by first | omega | assumption | (try simp only [tl0, tl1, tl2, tl3, tl4, tl5, tl6, tl8, tl9, tl10, tl50, tl81, tl100, tl1000, tl9999, tlm1, tlm9, tlm50, tl2147483647]; omega)) (by first | omega | assumption | (try simp only [tl0, tl1, tl2, tl3, tl4, tl5, tl6, tl8, tl9, tl10, tl50, tl81, tl100, tl1000, tl9999, tlm1, tlm9, tlm50, tl2147483647]; omega)) (by first | omega | assumption | (try simp only [tl0, tl1, tl2, tl3, tl4, tl5, tl6, tl8, tl9, tl10, tl50, tl81, tl100, tl1000, tl9999, tlm1, tlm9, tlm50, tl2147483647]; omega))) (by first | omega | assumption | (try simp only [tl0, tl1, tl2, tl3, tl4, tl5, tl6, tl8, tl9, tl10, tl50, tl81, tl100, tl1000, tl9999, tlm1, tlm9, tlm50, tl2147483647]; omega)) (fun z156 hz156 => ?_)
  try dsimp only at hz156
  try simp only [tl0, tl1, tl2, tl3, tl4, tl5, tl6, tl8, tl9, tl10, tl50, tl81, tl100, tl1000, tl9999, tlm1, tlm9, tlm50, tl2147483647] at hz156
  refine Ok_nm (fun l157 wl157 => ?_)
  refine Ok_bind (ok_X6_leasts i10 i11 i12 f16 (by first | omega | assumption | (try simp only [tl0, tl1, tl2, tl3, tl4, tl5, tl6, tl8, tl9, tl10, tl50, tl81, tl100, tl1000, tl9999, tlm1, tlm9, tlm50, tl2147483647]; omega))) (fun z158 hz158 => ?_)
  refine Ok_nm (fun l159 wl159 => ?_)
  refine Ok_bind (ok_X6_end i10 i11 i12 f16 (0 : Int32) (by first | omega | assumption | (try simp only [tl0, tl1, tl2, tl3, tl4, tl5, tl6, tl8, tl9, tl10, tl50, tl81, tl100, tl1000, tl9999, tlm1, tlm9, tlm50, tl2147483647]; omega))) (fun z160 hz160 => ?_)
  refine Ok_nm (fun l161 wl161 => ?_)
  refine Ok_bind (ok_X6_end i10 i11 i12 f16 (1 : Int32) (by first | omega | assumption | (try simp only [tl0, tl1, tl2, tl3, tl4, tl5, tl6, tl8, tl9, tl10, tl50, tl81, tl100, tl1000, tl9999, tlm1, tlm9, tlm50, tl2147483647]; omega))) (fun z162 hz162 => ?_)
  refine Ok_nm (fun l163 wl163 => ?_)
  refine Ok_bind (ok_X6_parts i10 i11 i12 f16 f18 z156.2.1 z156.2.2.1 i36 i37 i39 f40 (0 : Int32) (by first | omega | assumption | (try simp only [tl0, tl1, tl2, tl3, tl4, tl5, tl6, tl8, tl9, tl10, tl50, tl81, tl100, tl1000, tl9999, tlm1, tlm9, tlm50, tl2147483647]; omega)) (by first | omega | assumption | (try simp only [tl0, tl1, tl2, tl3, tl4, tl5, tl6, tl8, tl9, tl10, tl50, tl81, tl100, tl1000, tl9999, tlm1, tlm9, tlm50, tl2147483647]; omega))) (fun z164 hz164 => ?_)
  try dsimp only at hz164
  try simp only [tl0, tl1, tl2, tl3, tl4, tl5, tl6, tl8, tl9, tl10, tl50, tl81, tl100, tl1000, tl9999, tlm1, tlm9, tlm50, tl2147483647] at hz164
  refine Ok_nm (fun l165 wl165 => ?_)
  refine Ok_bind (ok_X6_parts i10 i11 i12 f16 f18 z164.2.1 z164.2.2.1 z164.2.2.2.1 z164.2.2.2.2.1 z164.2.2.2.2.2.1 z164.2.2.2.2.2.2 (1 : Int32) (by first | omega | assumption | (try simp only [tl0, tl1, tl2, tl3, tl4, tl5, tl6, tl8, tl9, tl10, tl50, tl81, tl100, tl1000, tl9999, tlm1, tlm9, tlm50, tl2147483647]; omega)) (by first | omega | assumption | (try simp only [tl0, tl1, tl2, tl3, tl4, tl5, tl6, tl8, tl9, tl10, tl50, tl81, tl100, tl1000, tl9999, tlm1, tlm9, tlm50, tl2147483647]; omega))) (fun z166 hz166 => ?_)
  try dsimp only at hz166
  try simp only [tl0, tl1, tl2, tl3, tl4, tl5, tl6, tl8, tl9, tl10, tl50, tl81, tl100, tl1000, tl9999, tlm1, tlm9, tlm50, tl2147483647] at hz166
  refine Ok_nm (fun l167 wl167 => ?_)
  refine Ok_bind (ok_X6_writeParts i10 i11 i12 f16 f18 z166.2.1 z166.2.2.1 z166.2.2.2.1 z166.2.2.2.2.1 z166.2.2.2.2.2.1 z166.2.2.2.2.2.2 i42 i43 n44 f45 (by first | omega | assumption | (try simp only [tl0, tl1, tl2, tl3, tl4, tl5, tl6, tl8, tl9, tl10, tl50, tl81, tl100, tl1000, tl9999, tlm1, tlm9, tlm50, tl2147483647]; omega)) (by first | omega | assumption | (try simp only [tl0, tl1, tl2, tl3, tl4, tl5, tl6, tl8, tl9, tl10, tl50, tl81, tl100, tl1000, tl9999, tlm1, tlm9, tlm50, tl2147483647]; omega)) (by first | omega | assumption | (try simp only [tl0, tl1, tl2, tl3, tl4, tl5, tl6, tl8, tl9, tl10, tl50, tl81, tl100, tl1000, tl9999, tlm1, tlm9, tlm50, tl2147483647]; omega))) (fun z168 hz168 => ?_)
  try dsimp only at hz168
  try simp only [tl0, tl1, tl2, tl3, tl4, tl5, tl6, tl8, tl9, tl10, tl50, tl81, tl100, tl1000, tl9999, tlm1, tlm9, tlm50, tl2147483647] at hz168
  have ctz168 := hz168.2
  refine Ok_bind (ok_J4_length_8abf5 z168.2.2.2.2.2.2.2.1) (fun z170 hz170 => ?_)
  refine Ok_nm (fun l171 wl171 => ?_)
  refine Ok_x0 (ok_X6_apart i10 i11 i12 f16 f18 z168.1 z168.2.1 z156.2.2.2.1 z156.2.2.2.2.1 z156.2.2.2.2.2.1 z156.2.2.2.2.2.2 (0 : Int32) (by first | omega | assumption | (try simp only [tl0, tl1, tl2, tl3, tl4, tl5, tl6, tl8, tl9, tl10, tl50, tl81, tl100, tl1000, tl9999, tlm1, tlm9, tlm50, tl2147483647]; omega)) (by first | omega | assumption | (try simp only [tl0, tl1, tl2, tl3, tl4, tl5, tl6, tl8, tl9, tl10, tl50, tl81, tl100, tl1000, tl9999, tlm1, tlm9, tlm50, tl2147483647]; omega)) (by first | omega | assumption | (try simp only [tl0, tl1, tl2, tl3, tl4, tl5, tl6, tl8, tl9, tl10, tl50, tl81, tl100, tl1000, tl9999, tlm1, tlm9, tlm50, tl2147483647]; omega))) (by first | omega | assumption | (try simp only [tl0, tl1, tl2, tl3, tl4, tl5, tl6, tl8, tl9, tl10, tl50, tl81, tl100, tl1000, tl9999, tlm1, tlm9, tlm50, tl2147483647]; omega)) (fun z172 hz172 => ?_)
  try dsimp only at hz172
  try simp only [tl0, tl1, tl2, tl3, tl4, tl5, tl6, tl8, tl9, tl10, tl50, tl81, tl100, tl1000, tl9999, tlm1, tlm9, tlm50, tl2147483647] at hz172
  refine Ok_nm (fun l173 wl173 => ?_)
  refine okL_X6_digest_L179 i7 i8 i9 ?_ 12 l173 (0 : Int32) (by first | omega | assumption | (try simp only [tl0, tl1, tl2, tl3, tl4, tl5, tl6, tl8, tl9, tl10, tl50, tl81, tl100, tl1000, tl9999, tlm1, tlm9, tlm50, tl2147483647]; omega)) (by first | omega | assumption | (try simp only [tl0, tl1, tl2, tl3, tl4, tl5, tl6, tl8, tl9, tl10, tl50, tl81, tl100, tl1000, tl9999, tlm1, tlm9, tlm50, tl2147483647]; omega)) (by first | omega | assumption | (try simp only [tl0, tl1, tl2, tl3, tl4, tl5, tl6, tl8, tl9, tl10, tl50, tl81, tl100, tl1000, tl9999, tlm1, tlm9, tlm50, tl2147483647]; omega))
  intro l240
  show Ok ((fX6_isSound i10 i11 i12 f16 f18 z172.2.1 z172.2.2.1 z172.2.2.2.1 z172.2.2.2.2.1 z172.2.2.2.2.2.1 z172.2.2.2.2.2.2 z168.2.2.1 z168.2.2.2.1 z168.2.2.2.2.1 z168.2.2.2.2.2.1).bind (fun z241 => if z241.1 = (0 : Int32) then (some ((l240 * (31 : Int64)) + ((0 : Int32).toInt64), z241.2.1, z241.2.2.1, z241.2.2.2.1, z241.2.2.2.2.1, z241.2.2.2.2.2.1, z241.2.2.2.2.2.2.1, z241.2.2.2.2.2.2.2.1, z241.2.2.2.2.2.2.2.2.1, z241.2.2.2.2.2.2.2.2.2.1, z241.2.2.2.2.2.2.2.2.2.2, z168.2.2.2.2.2.2.1, z168.2.2.2.2.2.2.2.1, z168.2.2.2.2.2.2.2.2.1, z168.2.2.2.2.2.2.2.2.2)) else (some ((l240 * (31 : Int64)) + ((1 : Int32).toInt64), z241.2.1, z241.2.2.1, z241.2.2.2.1, z241.2.2.2.2.1, z241.2.2.2.2.2.1, z241.2.2.2.2.2.2.1, z241.2.2.2.2.2.2.2.1, z241.2.2.2.2.2.2.2.2.1, z241.2.2.2.2.2.2.2.2.2.1, z241.2.2.2.2.2.2.2.2.2.2, z168.2.2.2.2.2.2.1, z168.2.2.2.2.2.2.2.1, z168.2.2.2.2.2.2.2.2.1, z168.2.2.2.2.2.2.2.2.2)))) _
  refine Ok_bind (ok_X6_isSound i10 i11 i12 f16 f18 z172.2.1 z172.2.2.1 z172.2.2.2.1 z172.2.2.2.2.1 z172.2.2.2.2.2.1 z172.2.2.2.2.2.2 z168.2.2.1 z168.2.2.2.1 z168.2.2.2.2.1 z168.2.2.2.2.2.1 (by first | omega | assumption | (try simp only [tl0, tl1, tl2, tl3, tl4, tl5, tl6, tl8, tl9, tl10, tl50, tl81, tl100, tl1000, tl9999, tlm1, tlm9, tlm50, tl2147483647]; omega)) (by first | omega | assumption | (try simp only [tl0, tl1, tl2, tl3, tl4, tl5, tl6, tl8, tl9, tl10, tl50, tl81, tl100, tl1000, tl9999, tlm1, tlm9, tlm50, tl2147483647]; omega)) (by first | omega | assumption | (try simp only [tl0, tl1, tl2, tl3, tl4, tl5, tl6, tl8, tl9, tl10, tl50, tl81, tl100, tl1000, tl9999, tlm1, tlm9, tlm50, tl2147483647]; omega)) (by first | omega | assumption | (try simp only [tl0, tl1, tl2, tl3, tl4, tl5, tl6, tl8, tl9, tl10, tl50, tl81, tl100, tl1000, tl9999, tlm1, tlm9, tlm50, tl2147483647]; omega))) (fun z241 hz241 => ?_)
  try dsimp only at hz241
  try simp only [tl0, tl1, tl2, tl3, tl4, tl5, tl6, tl8, tl9, tl10, tl50, tl81, tl100, tl1000, tl9999, tlm1, tlm9, tlm50, tl2147483647] at hz241
  refine Ok_if ?_ ?_
  · intro h
    have c453 : z241.1.toInt = 0 := i32eq h
    refine Ok_some ?_
    try dsimp only
    try simp only [tl0, tl1, tl2, tl3, tl4, tl5, tl6, tl8, tl9, tl10, tl50, tl81, tl100, tl1000, tl9999, tlm1, tlm9, tlm50, tl2147483647]
    first | trivial | omega | (repeat' first | assumption | omega | apply And.intro)
  · intro h
    have c454 : z241.1.toInt ≠ 0 := i32ne h
    refine Ok_some ?_
    try dsimp only
    try simp only [tl0, tl1, tl2, tl3, tl4, tl5, tl6, tl8, tl9, tl10, tl50, tl81, tl100, tl1000, tl9999, tlm1, tlm9, tlm50, tl2147483647]
    first | trivial | omega | (repeat' first | assumption | omega | apply And.intro)
set_option maxRecDepth 4000 in
theorem ok_L_told (i12 : Int32) (i13 : Int32) (i14 : Int32) (f18 : Nat → Int32) (l19 : Int64) (i2 : Int32) (h0 : 2 ≤ i12.toInt ∧ i12.toInt ≤ 9) : Ok (fL_told i12 i13 i14 f18 l19 i2) (fun z => True) := by
  unfold fL_told
  refine Ok_xc (ok_X6_told i12 i13 i14 f18 i2 (by first | omega | assumption | (try simp only [tl0, tl1, tl2, tl3, tl4, tl5, tl6, tl8, tl9, tl10, tl50, tl81, tl100, tl1000, tl9999, tlm1, tlm9, tlm50, tl2147483647]; omega))) ?_ (fun z21 hz21 => ?_)
  · intro en hen hn
    simp only [List.mem_cons, List.not_mem_nil, or_false] at hen
    subst hen
    rw [if_pos rfl]
    exact Ok_some trivial
  · try dsimp only at hz21
    try simp only [tl0, tl1, tl2, tl3, tl4, tl5, tl6, tl8, tl9, tl10, tl50, tl81, tl100, tl1000, tl9999, tlm1, tlm9, tlm50, tl2147483647] at hz21
    exact Ok_some trivial
set_option maxRecDepth 4000 in
theorem ok_L_pair (i14 : Int32) (f20 : Nat → Int32) (f22 : Nat → Int32) (l23 : Int64) (i2 : Int32) (i3 : Int32) (i4 : Int32) (h0 : 2 ≤ i14.toInt ∧ i14.toInt ≤ 9) : Ok (fL_pair i14 f20 f22 l23 i2 i3 i4) (fun z => True) := by
  unfold fL_pair
  refine Ok_xc (ok_X6_pair i14 f20 f22 i2 i3 i4 (by first | omega | assumption | (try simp only [tl0, tl1, tl2, tl3, tl4, tl5, tl6, tl8, tl9, tl10, tl50, tl81, tl100, tl1000, tl9999, tlm1, tlm9, tlm50, tl2147483647]; omega))) ?_ (fun z25 hz25 => ?_)
  · intro en hen hn
    simp only [List.mem_cons, List.not_mem_nil, or_false] at hen
    rcases hen with rfl | rfl
    · rw [if_pos rfl]
      exact Ok_some trivial
    · rw [if_neg (by decide)]
      rw [if_pos rfl]
      exact Ok_some trivial
  · try dsimp only at hz25
    try simp only [tl0, tl1, tl2, tl3, tl4, tl5, tl6, tl8, tl9, tl10, tl50, tl81, tl100, tl1000, tl9999, tlm1, tlm9, tlm50, tl2147483647] at hz25
    exact Ok_some trivial
set_option maxRecDepth 4000 in
theorem ok_L_ofPlace (i13 : Int32) (f19 : Nat → Int32) (f21 : Nat → Int32) (l22 : Int64) (i2 : Int32) (i3 : Int32) (h0 : 2 ≤ i13.toInt ∧ i13.toInt ≤ 9) : Ok (fL_ofPlace i13 f19 f21 l22 i2 i3) (fun z => True) := by
  unfold fL_ofPlace
  refine Ok_xc (ok_X6_ofPlace i13 f19 f21 i2 i3 (by first | omega | assumption | (try simp only [tl0, tl1, tl2, tl3, tl4, tl5, tl6, tl8, tl9, tl10, tl50, tl81, tl100, tl1000, tl9999, tlm1, tlm9, tlm50, tl2147483647]; omega))) ?_ (fun z24 hz24 => ?_)
  · intro en hen hn
    simp only [List.mem_cons, List.not_mem_nil, or_false] at hen
    rcases hen with rfl | rfl
    · rw [if_pos rfl]
      exact Ok_some trivial
    · rw [if_neg (by decide)]
      rw [if_pos rfl]
      exact Ok_some trivial
  · try dsimp only at hz24
    try simp only [tl0, tl1, tl2, tl3, tl4, tl5, tl6, tl8, tl9, tl10, tl50, tl81, tl100, tl1000, tl9999, tlm1, tlm9, tlm50, tl2147483647] at hz24
    exact Ok_some trivial
set_option maxRecDepth 4000 in
theorem ok_L_roomText (i12 : Int32) (f18 : Nat → Int32) (i20 : Int32) (i21 : Int32) (n22 : Nat) (f23 : Nat → Int32) (i2 : Int32) (h0 : 2 ≤ i12.toInt ∧ i12.toInt ≤ 9) (h1 : CT n22 i21 f23) : Ok (fL_roomText i12 f18 i20 i21 n22 f23 i2) (fun z => CT z.2.2.2.1 z.2.2.1 z.2.2.2.2) := by
  unfold fL_roomText
  refine Ok_xc (ok_X6_roomText i12 f18 i20 i21 n22 f23 i2 (by first | omega | assumption | (try simp only [tl0, tl1, tl2, tl3, tl4, tl5, tl6, tl8, tl9, tl10, tl50, tl81, tl100, tl1000, tl9999, tlm1, tlm9, tlm50, tl2147483647]; omega)) (by first | omega | assumption | (try simp only [tl0, tl1, tl2, tl3, tl4, tl5, tl6, tl8, tl9, tl10, tl50, tl81, tl100, tl1000, tl9999, tlm1, tlm9, tlm50, tl2147483647]; omega))) ?_ (fun z26 hz26 => ?_)
  · intro en hen hn
    simp only [List.mem_cons, List.not_mem_nil, or_false] at hen
    subst hen
    rw [if_pos rfl]
    refine Ok_some ?_
    try dsimp only
    try simp only [tl0, tl1, tl2, tl3, tl4, tl5, tl6, tl8, tl9, tl10, tl50, tl81, tl100, tl1000, tl9999, tlm1, tlm9, tlm50, tl2147483647]
    first | trivial | omega | (repeat' first | assumption | omega | apply And.intro)
  · try dsimp only at hz26
    try simp only [tl0, tl1, tl2, tl3, tl4, tl5, tl6, tl8, tl9, tl10, tl50, tl81, tl100, tl1000, tl9999, tlm1, tlm9, tlm50, tl2147483647] at hz26
    have ctz26 := hz26
    refine Ok_some ?_
    try dsimp only
    try simp only [tl0, tl1, tl2, tl3, tl4, tl5, tl6, tl8, tl9, tl10, tl50, tl81, tl100, tl1000, tl9999, tlm1, tlm9, tlm50, tl2147483647]
    first | trivial | omega | (repeat' first | assumption | omega | apply And.intro)
set_option maxRecDepth 4000 in
theorem ok_L_cut (i12 : Int32) (i13 : Int32) (i14 : Int32) (f18 : Nat → Int32) (l19 : Int64) (i2 : Int32) (h0 : 2 ≤ i12.toInt ∧ i12.toInt ≤ 9) : Ok (fL_cut i12 i13 i14 f18 l19 i2) (fun z => True) := by
  unfold fL_cut
  refine Ok_xc (ok_X6_cut i12 i13 i14 f18 i2 (by first | omega | assumption | (try simp only [tl0, tl1, tl2, tl3, tl4, tl5, tl6, tl8, tl9, tl10, tl50, tl81, tl100, tl1000, tl9999, tlm1, tlm9, tlm50, tl2147483647]; omega))) ?_ (fun z21 hz21 => ?_)
  · intro en hen hn
    simp only [List.mem_cons, List.not_mem_nil, or_false] at hen
    subst hen
    rw [if_pos rfl]
    exact Ok_some trivial
  · skip
    exact Ok_some trivial
set_option maxRecDepth 4000 in
theorem ok_L_isLeast (i12 : Int32) (i13 : Int32) (i14 : Int32) (f18 : Nat → Int32) (l19 : Int64) (i2 : Int32) (h0 : 2 ≤ i12.toInt ∧ i12.toInt ≤ 9) : Ok (fL_isLeast i12 i13 i14 f18 l19 i2) (fun z => True) := by
  unfold fL_isLeast
  refine Ok_xc (ok_X6_isLeast i12 i13 i14 f18 i2 (by first | omega | assumption | (try simp only [tl0, tl1, tl2, tl3, tl4, tl5, tl6, tl8, tl9, tl10, tl50, tl81, tl100, tl1000, tl9999, tlm1, tlm9, tlm50, tl2147483647]; omega))) ?_ (fun z21 hz21 => ?_)
  · intro en hen hn
    simp only [List.mem_cons, List.not_mem_nil, or_false] at hen
    subst hen
    rw [if_pos rfl]
    exact Ok_some trivial
  · skip
    refine Ok_jn (fun k22 wk22 => ?_)
    refine Ok_if ?_ ?_
    · intro h
      have c455 : z21.toInt = 0 := i32eq h
      rw [wk22]
      show Ok (some ((0 : Int32), (0 : Int64))) _
      exact Ok_some trivial
    · intro h
      have c456 : z21.toInt ≠ 0 := i32ne h
      rw [wk22]
      show Ok (some ((0 : Int32), (1 : Int64))) _
      exact Ok_some trivial
set_option maxRecDepth 4000 in
theorem ok_L_nthLeast (i12 : Int32) (i13 : Int32) (i14 : Int32) (f18 : Nat → Int32) (l19 : Int64) (i2 : Int32) (h0 : 2 ≤ i12.toInt ∧ i12.toInt ≤ 9) : Ok (fL_nthLeast i12 i13 i14 f18 l19 i2) (fun z => True) := by
  unfold fL_nthLeast
  refine Ok_xc (ok_X6_nthLeast i12 i13 i14 f18 i2 (by first | omega | assumption | (try simp only [tl0, tl1, tl2, tl3, tl4, tl5, tl6, tl8, tl9, tl10, tl50, tl81, tl100, tl1000, tl9999, tlm1, tlm9, tlm50, tl2147483647]; omega))) ?_ (fun z21 hz21 => ?_)
  · intro en hen hn
    simp only [List.mem_cons, List.not_mem_nil, or_false] at hen
    subst hen
    rw [if_pos rfl]
    exact Ok_some trivial
  · skip
    exact Ok_some trivial
set_option maxRecDepth 4000 in
theorem ok_L_track (i12 : Int32) (i13 : Int32) (i14 : Int32) (f18 : Nat → Int32) (f20 : Nat → Int32) (i23 : Int32) (i25 : Int32) (f26 : Nat → Int32) (f27 : Nat → Int32) (i29 : Int32) (i30 : Int32) (n31 : Nat) (f32 : Nat → Int32) (i2 : Int32) (h0 : 2 ≤ i12.toInt ∧ i12.toInt ≤ 9) (h1 : 0 ≤ i23.toInt ∧ i23.toInt ≤ 9) (h2 : 0 ≤ i25.toInt ∧ i25.toInt ≤ 10) (h3 : CT n31 i30 f32) : Ok (fL_track i12 i13 i14 f18 f20 i23 i25 f26 f27 i29 i30 n31 f32 i2) (fun z => (0 ≤ z.2.1.toInt ∧ z.2.1.toInt ≤ 9) ∧ (0 ≤ z.2.2.1.toInt ∧ z.2.2.1.toInt ≤ 10) ∧ CT z.2.2.2.2.2.2.2.1 z.2.2.2.2.2.2.1 z.2.2.2.2.2.2.2.2) := by
  unfold fL_track
  refine Ok_xc (ok_X6_track i12 i13 i14 f18 f20 f26 f27 i29 i30 n31 f32 i2 (by first | omega | assumption | (try simp only [tl0, tl1, tl2, tl3, tl4, tl5, tl6, tl8, tl9, tl10, tl50, tl81, tl100, tl1000, tl9999, tlm1, tlm9, tlm50, tl2147483647]; omega)) (by first | omega | assumption | (try simp only [tl0, tl1, tl2, tl3, tl4, tl5, tl6, tl8, tl9, tl10, tl50, tl81, tl100, tl1000, tl9999, tlm1, tlm9, tlm50, tl2147483647]; omega))) ?_ (fun z35 hz35 => ?_)
  · intro en hen hn
    simp only [List.mem_cons, List.not_mem_nil, or_false] at hen
    subst hen
    rw [if_pos rfl]
    refine Ok_some ?_
    try dsimp only
    try simp only [tl0, tl1, tl2, tl3, tl4, tl5, tl6, tl8, tl9, tl10, tl50, tl81, tl100, tl1000, tl9999, tlm1, tlm9, tlm50, tl2147483647]
    first | trivial | omega | (repeat' first | assumption | omega | apply And.intro)
  · try dsimp only at hz35
    try simp only [tl0, tl1, tl2, tl3, tl4, tl5, tl6, tl8, tl9, tl10, tl50, tl81, tl100, tl1000, tl9999, tlm1, tlm9, tlm50, tl2147483647] at hz35
    have ctz35 := hz35.2
    refine Ok_some ?_
    try dsimp only
    try simp only [tl0, tl1, tl2, tl3, tl4, tl5, tl6, tl8, tl9, tl10, tl50, tl81, tl100, tl1000, tl9999, tlm1, tlm9, tlm50, tl2147483647]
    first | trivial | omega | (repeat' first | assumption | omega | apply And.intro)
set_option maxRecDepth 4000 in
theorem ok_L_layer (i12 : Int32) (i13 : Int32) (f18 : Nat → Int32) (f20 : Nat → Int32) (i23 : Int32) (f24 : Nat → Int32) (l25 : Int64) (i2 : Int32) (h0 : 2 ≤ i12.toInt ∧ i12.toInt ≤ 9) (h1 : 0 ≤ i23.toInt ∧ i23.toInt ≤ 9) : Ok (fL_layer i12 i13 f18 f20 i23 f24 l25 i2) (fun z => (0 ≤ z.2.1.toInt ∧ z.2.1.toInt ≤ 9)) := by
  unfold fL_layer
  refine Ok_xc (ok_X6_layer i12 i13 f18 f20 f24 i2 (by first | omega | assumption | (try simp only [tl0, tl1, tl2, tl3, tl4, tl5, tl6, tl8, tl9, tl10, tl50, tl81, tl100, tl1000, tl9999, tlm1, tlm9, tlm50, tl2147483647]; omega))) ?_ (fun z27 hz27 => ?_)
  · intro en hen hn
    simp only [List.mem_cons, List.not_mem_nil, or_false] at hen
    subst hen
    rw [if_pos rfl]
    refine Ok_some ?_
    try dsimp only
    try simp only [tl0, tl1, tl2, tl3, tl4, tl5, tl6, tl8, tl9, tl10, tl50, tl81, tl100, tl1000, tl9999, tlm1, tlm9, tlm50, tl2147483647]
    first | trivial | omega | (repeat' first | assumption | omega | apply And.intro)
  · try dsimp only at hz27
    try simp only [tl0, tl1, tl2, tl3, tl4, tl5, tl6, tl8, tl9, tl10, tl50, tl81, tl100, tl1000, tl9999, tlm1, tlm9, tlm50, tl2147483647] at hz27
    refine Ok_some ?_
    try dsimp only
    try simp only [tl0, tl1, tl2, tl3, tl4, tl5, tl6, tl8, tl9, tl10, tl50, tl81, tl100, tl1000, tl9999, tlm1, tlm9, tlm50, tl2147483647]
    first | trivial | omega | (repeat' first | assumption | omega | apply And.intro)
set_option maxRecDepth 4000 in
theorem ok_L_through (i12 : Int32) (i13 : Int32) (i14 : Int32) (f18 : Nat → Int32) (l19 : Int64) (i2 : Int32) (h0 : 2 ≤ i12.toInt ∧ i12.toInt ≤ 9) : Ok (fL_through i12 i13 i14 f18 l19 i2) (fun z => True) := by
  unfold fL_through
  refine Ok_xc (ok_X6_through i12 i13 i14 f18 i2 (by first | omega | assumption | (try simp only [tl0, tl1, tl2, tl3, tl4, tl5, tl6, tl8, tl9, tl10, tl50, tl81, tl100, tl1000, tl9999, tlm1, tlm9, tlm50, tl2147483647]; omega))) ?_ (fun z21 hz21 => ?_)
  · intro en hen hn
    simp only [List.mem_cons, List.not_mem_nil, or_false] at hen
    subst hen
    rw [if_pos rfl]
    exact Ok_some trivial
  · skip
    exact Ok_some trivial
set_option maxRecDepth 4000 in
theorem ok_L_flowText (i12 : Int32) (f18 : Nat → Int32) (i20 : Int32) (i21 : Int32) (n22 : Nat) (f23 : Nat → Int32) (i2 : Int32) (h0 : 2 ≤ i12.toInt ∧ i12.toInt ≤ 9) (h1 : CT n22 i21 f23) : Ok (fL_flowText i12 f18 i20 i21 n22 f23 i2) (fun z => CT z.2.2.2.1 z.2.2.1 z.2.2.2.2) := by
  unfold fL_flowText
  refine Ok_xc (ok_X6_flowText i12 f18 i20 i21 n22 f23 i2 (by first | omega | assumption | (try simp only [tl0, tl1, tl2, tl3, tl4, tl5, tl6, tl8, tl9, tl10, tl50, tl81, tl100, tl1000, tl9999, tlm1, tlm9, tlm50, tl2147483647]; omega)) (by first | omega | assumption | (try simp only [tl0, tl1, tl2, tl3, tl4, tl5, tl6, tl8, tl9, tl10, tl50, tl81, tl100, tl1000, tl9999, tlm1, tlm9, tlm50, tl2147483647]; omega))) ?_ (fun z26 hz26 => ?_)
  · intro en hen hn
    simp only [List.mem_cons, List.not_mem_nil, or_false] at hen
    subst hen
    rw [if_pos rfl]
    refine Ok_some ?_
    try dsimp only
    try simp only [tl0, tl1, tl2, tl3, tl4, tl5, tl6, tl8, tl9, tl10, tl50, tl81, tl100, tl1000, tl9999, tlm1, tlm9, tlm50, tl2147483647]
    first | trivial | omega | (repeat' first | assumption | omega | apply And.intro)
  · try dsimp only at hz26
    try simp only [tl0, tl1, tl2, tl3, tl4, tl5, tl6, tl8, tl9, tl10, tl50, tl81, tl100, tl1000, tl9999, tlm1, tlm9, tlm50, tl2147483647] at hz26
    have ctz26 := hz26
    refine Ok_some ?_
    try dsimp only
    try simp only [tl0, tl1, tl2, tl3, tl4, tl5, tl6, tl8, tl9, tl10, tl50, tl81, tl100, tl1000, tl9999, tlm1, tlm9, tlm50, tl2147483647]
    first | trivial | omega | (repeat' first | assumption | omega | apply And.intro)