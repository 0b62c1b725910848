/-! the class's methods that write texts -/
def CT (n : Nat) (c : Int32) (f : Nat → Int32) : Prop := (14 ≤ n ∧ n ≤ 26700) ∧ 0 ≤ c.toInt ∧ BY f
theorem TS.ct {n : Nat} {c : Int32} {f : Nat → Int32} {m : Int} (h : TS n c f m) : CT n c f := ⟨h.1.1, h.2.1.1, h.2.2⟩
theorem rt_loop {i12 : Int32} {f23 : Nat → Int32} {i3 : Int32} (hm : i12.toInt ≤ 9) {P : Int32 × Int32 × Nat × (Nat → Int32) × Nat × (Nat → Int32) → Prop} {k1 : Int32 → Nat → (Nat → Int32) → Option (Int32 × Int32 × Nat × (Nat → Int32) × Nat × (Nat → Int32))} (hk : ∀ c m f, TS m c f 300 → Ok (k1 c m f) P) : ∀ (n : Nat) (i c : Int32) (m : Nat) (f : Nat → Int32), (0 ≤ i.toInt ∧ i.toInt ≤ 9) → i12.toInt - i.toInt < n → 0 < n → TS m c f (24 * i.toInt) → Ok (LX6_rowText_L10 i12 f23 i3 n i c m f k1) P := by
  intro n
  induction n with
  | zero => intro i c m f hi hn h0; exact absurd h0 (Nat.lt_irrefl 0)
  | succ n ih =>
    intro i c m f hi hn h0 hT
    show Ok (BX6_rowText_L10 i12 f23 i3 i c m f (fun a b d e => LX6_rowText_L10 i12 f23 i3 n a b d e k1) k1) P
    unfold BX6_rowText_L10
    refine Ok_if (fun h => hk _ _ _ (hT.le (by omega))) (fun h => ?_)
    have h := i32nle h
    have e := inc_iv (x := i) (by omega)
    have next : ∀ c m f, TS m c f (24 * i.toInt + 24) → Ok (LX6_rowText_L10 i12 f23 i3 n (i + (1 : Int32)) c m f k1) P := fun c m f hT2 => ih _ c m f ⟨by omega, by omega⟩ (by omega) (by omega) (hT2.le (by omega))
    refine Ok_bind (ok_X1_at f23 i3 i) (fun z76 _ => Ok_jn (fun k77 w77 => ?_))
    have h77 : ∀ c m f, TS m c f (24 * i.toInt + 24) → Ok (k77 c m f) P := by rw [w77]; exact next
    refine Ok_if (fun _ => h77 _ _ _ (hT.le (by omega))) (fun _ => ?_)
    refine Ok_bind (R := fun _ => True) (by unfold fJ4_length_8abf5 fJ5_length_8abf5; exact ⟨c, rfl, trivial⟩) (fun z79 _ => Ok_jn (fun k80 w80 => ?_))
    have h80 : ∀ c m f, TS m c f (24 * i.toInt + 1) → Ok (k80 c m f) P := by
      intro c m f hT
      rw [w80]
      obtain ⟨g1, g2⟩ := tsI i hT (by omega)
      refine Ok_gd g1 (Ok_bind g2 (fun z88 h88 => ?_))
      obtain ⟨g3, g4⟩ := tsC (x := 58) h88.2 (by omega) (by decide)
      refine Ok_gd g3 (Ok_bind g4 (fun z90 h90 => ?_))
      obtain ⟨g5, g6⟩ := tsI z76 h90.2 (by omega)
      refine Ok_gd g5 (Ok_bind g6 (fun z92 h92 => ?_))
      exact h77 _ _ _ (h92.2.le (by omega))
    refine Ok_if (fun _ => h80 _ _ _ (hT.le (by omega))) (fun _ => ?_)
    obtain ⟨g1, g2⟩ := tsC (x := 32) hT (by omega) (by decide)
    exact Ok_gd g1 (Ok_bind g2 (fun z82 h82 => h80 _ _ _ h82.2))
theorem ok_X6_rowText (i12 i18 i19 : Int32) (n20 : Nat) (f21 f23 : Nat → Int32) (i3 : Int32) (h0 : 2 ≤ i12.toInt ∧ i12.toInt ≤ 9) (h1 : CT n20 i19 f21) : Ok (fX6_rowText i12 i18 i19 n20 f21 f23 i3) (fun z => CT z.2.2.1 z.2.1 z.2.2.2.1) := by
  have t0 : (0 : Int32).toInt = 0 := rfl
  unfold fX6_rowText
  refine Ok_gd ⟨Nat.le_refl _, by have := h1.1; omega⟩ (Ok_bind (ts0 h1.1 h1.2.2 i18 i19 h1.2.1) (fun z24 h24 => ?_))
  refine rt_loop h0.2 (fun c m f hT => ?_) 12 0 0 n20 z24.2 ⟨by omega, by omega⟩ (by omega) (by omega) (h24.le (by omega))
  exact Ok_bind (tsStr hT (by omega)) (fun _ _ => Ok_some hT.ct)
theorem ok_X6_roomText (i11 : Int32) (f17 : Nat → Int32) (i19 i20 : Int32) (n21 : Nat) (f22 : Nat → Int32) (i2 : Int32) (h0 : 2 ≤ i11.toInt ∧ i11.toInt ≤ 9) (h1 : CT n21 i20 f22) : Ok (fX6_roomText i11 f17 i19 i20 n21 f22 i2) (Sx ["java/lang/IndexOutOfBoundsException"] False (fun z => CT z.2.2.1 z.2.1 z.2.2.2)) := by
  unfold fX6_roomText
  refine Ok_xb (ok_X6_needPlace i11 i2 h0) (fun e he hn => ⟨he, id⟩) (fun z23 _ => ?_)
  exact Ok_bind (ok_X6_rowText i11 i19 i20 n21 f22 f17 i2 h0 h1) (fun z24 h24 => Ok_some h24)
theorem ok_X6_flowText (i11 : Int32) (f17 : Nat → Int32) (i19 i20 : Int32) (n21 : Nat) (f22 : Nat → Int32) (i2 : Int32) (h0 : 2 ≤ i11.toInt ∧ i11.toInt ≤ 9) (h1 : CT n21 i20 f22) : Ok (fX6_flowText i11 f17 i19 i20 n21 f22 i2) (Sx ["java/lang/IndexOutOfBoundsException"] False (fun z => CT z.2.2.1 z.2.1 z.2.2.2)) := by
  unfold fX6_flowText
  refine Ok_xb (ok_X6_needPlace i11 i2 h0) (fun e he hn => ⟨he, id⟩) (fun z23 _ => ?_)
  exact Ok_bind (ok_X6_rowText i11 i19 i20 n21 f22 f17 i2 h0 h1) (fun z24 h24 => Ok_some h24)
theorem ok_X6_track (i11 i12 i13 : Int32) (f17 f19 f25 f26 : Nat → Int32) (i28 i29 : Int32) (n30 : Nat) (f31 : Nat → Int32) (i2 : Int32) (h0 : 2 ≤ i11.toInt ∧ i11.toInt ≤ 9) (h1 : CT n30 i29 f31) : Ok (fX6_track i11 i12 i13 f17 f19 f25 f26 i28 i29 n30 f31 i2) (Sx ["java/lang/IllegalArgumentException"] False (fun z => (0 ≤ z.1.toInt ∧ z.1.toInt ≤ 10) ∧ CT z.2.2.2.2.2.1 z.2.2.2.2.1 z.2.2.2.2.2.2)) := by
  unfold fX6_track
  refine Ok_xb (ok_X6_needWithin i2 0 2) (fun e he hn => ⟨he, id⟩) (fun z32 _ => ?_)
  refine Ok_bind (ok_X5_find f25 f26 i11 i12 i13 f17 f19 i2 h0) (fun z33 h33 => ?_)
  refine Ok_gd ⟨Nat.le_refl _, by have := h1.1; omega⟩ (Ok_bind (ts0 h1.1 h1.2.2 i28 i29 h1.2.1) (fun z34 h34 => ?_))
  obtain ⟨g1, g2⟩ := tsW (i4 := z33.1) (f5 := z33.2.1) h33 h34 (by omega)
  refine Ok_gd g1 (Ok_bind g2 (fun z36 h36 => ?_))
  exact Ok_bind (tsStr h36 (by omega)) (fun z38 _ => Ok_some ⟨h33, h36.ct⟩)
theorem wp_loop {i10 i11 i12 : Int32} {f97 : Nat → Int32} {i104 : Int32} (h9 : 2 ≤ i10.toInt ∧ i10.toInt ≤ 9) : ∀ (n : Nat) (i : Int32) (f98 : Nat → Int32) (i99 i100 i101 : Int32) (f102 : Nat → Int32) (c : Int32) (m : Nat) (f : Nat → Int32), (0 ≤ i.toInt ∧ i.toInt ≤ 100) → 100 - i.toInt < n → (0 ≤ i101.toInt ∧ i101.toInt ≤ 10) → TS m c f (133 * i.toInt) → Ok (LX6_writeParts_L21 i10 i11 i12 f97 i104 n i f98 i99 i100 i101 f102 c m f) (fun z => (0 ≤ z.2.2.2.2.1.toInt ∧ z.2.2.2.2.1.toInt ≤ 10) ∧ TS z.2.2.2.2.2.2.2.2.1 z.2.2.2.2.2.2.2.1 z.2.2.2.2.2.2.2.2.2 13300) := by
  intro n
  induction n with
  | zero => intro i f98 i99 i100 i101 f102 c m f hi hn; omega
  | succ n ih =>
    intro i f98 i99 i100 i101 f102 c m f hi hn hl hT
    show Ok (BX6_writeParts_L21 i10 i11 i12 f97 i104 i f98 i99 i100 i101 f102 c m f (fun a1 a2 a3 a4 a5 a6 a7 a8 a9 => LX6_writeParts_L21 i10 i11 i12 f97 i104 n a1 a2 a3 a4 a5 a6 a7 a8 a9)) _
    unfold BX6_writeParts_L21
    have t100 : (100 : Int32).toInt = 100 := rfl
    refine Ok_if (fun h => Ok_some ⟨hl, hT.le (by omega)⟩) (fun h => ?_)
    have h := i32nle h
    have e := inc_iv (x := i) (by omega)
    refine Ok_bind (ok_X3_find i99 i100 i101 f102 i10 i11 i12 f98 hl h9) (fun z108 h108 => ?_)
    refine Ok_if (fun _ => Ok_some ⟨h108, hT.le (by omega)⟩) (fun _ => ?_)
    refine Ok_bind (ok_X3_takeFrom z108.2.1 z108.2.2.2.1 z108.2.2.2.2 f98 h108) (fun z109 _ => Ok_jn (fun k110 w110 => ?_))
    have h110 : ∀ c m f, TS m c f (133 * i.toInt + 1) → Ok (k110 c m f) (fun z => (0 ≤ z.2.2.2.2.1.toInt ∧ z.2.2.2.2.1.toInt ≤ 10) ∧ TS z.2.2.2.2.2.2.2.2.1 z.2.2.2.2.2.2.2.1 z.2.2.2.2.2.2.2.2.2 13300) := by
      intro c m f hT
      rw [w110]
      obtain ⟨g1, g2⟩ := tsW (i4 := z108.2.2.2.1) (f5 := z108.2.2.2.2) h108 hT (by omega)
      refine Ok_gd g1 (Ok_bind g2 (fun z118 h118 => ?_))
      obtain ⟨g3, g4⟩ := tsC (x := 58) h118 (by omega) (by decide)
      refine Ok_gd g3 (Ok_bind g4 (fun z120 h120 => ?_))
      obtain ⟨g5, g6⟩ := tsI z108.2.1 h120.2 (by omega)
      refine Ok_gd g5 (Ok_bind g6 (fun z122 h122 => ?_))
      exact ih (i + (1 : Int32)) _ _ _ _ _ _ _ _ ⟨by omega, by omega⟩ (by omega) h108 (h122.2.le (by omega))
    refine Ok_if (fun _ => h110 _ _ _ (hT.le (by omega))) (fun _ => ?_)
    obtain ⟨g1, g2⟩ := tsC (x := 32) hT (by omega) (by decide)
    exact Ok_gd g1 (Ok_bind g2 (fun z112 h112 => h110 _ _ _ h112.2))
theorem ok_X6_writeParts0 (i10 i11 i12 : Int32) (f16 f18 f25 f27 : Nat → Int32) (i29 i30 i32 : Int32) (f33 : Nat → Int32) (i35 i36 : Int32) (n37 : Nat) (f38 : Nat → Int32) (h0 : 2 ≤ i10.toInt ∧ i10.toInt ≤ 9) (h1 : 0 ≤ i32.toInt ∧ i32.toInt ≤ 10) (h2 : CT n37 i36 f38) : Ok (fX6_writeParts i10 i11 i12 f16 f18 f25 f27 i29 i30 i32 f33 i35 i36 n37 f38) (fun z => (0 ≤ z.2.2.2.2.1.toInt ∧ z.2.2.2.2.1.toInt ≤ 10) ∧ TS z.2.2.2.2.2.2.2.2.1 z.2.2.2.2.2.2.2.1 z.2.2.2.2.2.2.2.2.2 13300) := by
  have t0 : (0 : Int32).toInt = 0 := rfl
  unfold fX6_writeParts
  refine Ok_bind (ok_X2_become f25 f27 f16 f18) (fun z39 _ => ?_)
  refine Ok_gd ⟨Nat.le_refl _, by have := h2.1; omega⟩ (Ok_bind (ts0 h2.1 h2.2.2 i35 i36 h2.2.1) (fun z40 h40 => ?_))
  exact wp_loop h0 102 0 _ i29 i30 i32 f33 0 n37 z40.2 ⟨by omega, by omega⟩ (by omega) h1 (h40.le (by omega))
theorem ok_X6_writeParts (i10 i11 i12 : Int32) (f16 f18 f25 f27 : Nat → Int32) (i29 i30 i32 : Int32) (f33 : Nat → Int32) (i35 i36 : Int32) (n37 : Nat) (f38 : Nat → Int32) (h0 : 2 ≤ i10.toInt ∧ i10.toInt ≤ 9) (h1 : 0 ≤ i32.toInt ∧ i32.toInt ≤ 10) (h2 : CT n37 i36 f38) : Ok (fX6_writeParts i10 i11 i12 f16 f18 f25 f27 i29 i30 i32 f33 i35 i36 n37 f38) (fun z => (0 ≤ z.2.2.2.2.1.toInt ∧ z.2.2.2.2.1.toInt ≤ 10) ∧ CT z.2.2.2.2.2.2.2.2.1 z.2.2.2.2.2.2.2.1 z.2.2.2.2.2.2.2.2.2) := Ok_mono (ok_X6_writeParts0 i10 i11 i12 f16 f18 f25 f27 i29 i30 i32 f33 i35 i36 n37 f38 h0 h1 h2) (fun z hz => ⟨hz.1, hz.2.ct⟩)
theorem ok_X6_partsText (i10 i11 i12 : Int32) (f16 f18 f25 f27 : Nat → Int32) (i29 i30 i32 : Int32) (f33 : Nat → Int32) (i35 i36 : Int32) (n37 : Nat) (f38 : Nat → Int32) (h0 : 2 ≤ i10.toInt ∧ i10.toInt ≤ 9) (h1 : 0 ≤ i32.toInt ∧ i32.toInt ≤ 10) (h2 : CT n37 i36 f38) : Ok (fX6_partsText i10 i11 i12 f16 f18 f25 f27 i29 i30 i32 f33 i35 i36 n37 f38) (fun z => (0 ≤ z.2.2.2.2.1.toInt ∧ z.2.2.2.2.1.toInt ≤ 10) ∧ CT z.2.2.2.2.2.2.2.2.1 z.2.2.2.2.2.2.2.1 z.2.2.2.2.2.2.2.2.2) := by
  unfold fX6_partsText
  refine Ok_bind (ok_X6_writeParts0 i10 i11 i12 f16 f18 f25 f27 i29 i30 i32 f33 i35 i36 n37 f38 h0 h1 h2) (fun z39 h39 => ?_)
  exact Ok_bind (tsStr h39.2 (by omega)) (fun z41 _ => Ok_some ⟨h39.1, h39.2.ct⟩)
