/-! the length of the parts' text: both sides -/
theorem rx_loop {n s g : Nat} {R : Nat → Int32} {i2 i5 i6 : Int32} (h2 : i2.toInt = n) (h5 : i5.toInt = s) (h6 : i6.toInt = g) {P : Nat × (Nat → Int32) → Prop} {k1 : Int32 → Nat → (Nat → Int32) → Option (Nat × (Nat → Int32))} : ∀ (fu : Nat) (f99 : Nat → Int32) (c : Int32) (m : Nat) (f : Nat → Int32) (N : Nat) (f105 : Nat → Int32), FI n s g R f99 → mu n s f99 < fu → fu ≤ 64 → (3 ≤ N ∧ N ≤ 12) → (∀ i, 2 ≤ i → i < N → 0 ≤ (f105 i).toInt ∧ (f105 i).toInt < 10) → (0 ≤ (f105 1).toInt ∧ (f105 1).toInt < 100) → RS m c f (23 * (36 - (mu n s f99 : Int))) → (∀ c' m' f', RS m' c' f' 1150 → (∃ l, prts n s g l f99 ∧ c'.toInt = c.toInt + (if c.toInt = 0 then 0 else 1) + 2 * ((N : Int) - 2) + (dg (f105 1).toInt.natAbs : Int) + lenL false l) → Ok (k1 c' m' f') P) → Ok (LX8_partsNowText_L19 i2 i5 i6 fu f99 c m f N f105 k1) P := by
  intro fu
  have t1 : (1 : Int32).toInt = 1 := rfl
  have n1 : (1 : Int32).toNatClampNeg = 1 := rfl
  induction fu with
  | zero => intro f99 c m f N f105 hI hmu; omega
  | succ fu ih =>
    intro f99 c m f N f105 hI hmu hfu hN hf h1 hT hk
    show Ok (BX8_partsNowText_L19 i2 i5 i6 f99 c m f N f105 (fun a b d e p q => LX8_partsNowText_L19 i2 i5 i6 fu a b d e p q k1) k1) P
    unfold BX8_partsNowText_L19
    have hT0 := hT.1.2.1
    refine rx_L26 (M0 := 23 * (36 - (mu n s f99 : Int))) (c0 := c.toInt) ⟨by omega, by omega⟩ (by omega) hT0.1 hf (fun c1 m1 f1 hT1 hX => ?_) (N - 2) 64 2 c m f 2 (by omega) (by omega) (by omega) rfl (hT.le (by omega)) (if_pos rfl).symm
    obtain ⟨a1, a2⟩ := rxK hT1 (by omega) k5
    refine Ok_gd a1 (Ok_bind a2 (fun z153 h153 => Ok_inB (vp_of (by omega) (by omega)) ?_))
    rw [n1]
    obtain ⟨b1, b2⟩ := rxI (x := f105 1) (d := 2) h153.1 (by omega) (dg2 h1) (by omega)
    refine Ok_gd b1 (Ok_bind b2 (fun z155 h155 => ?_))
    have es : sI (f105 1) = dg (f105 1).toInt.natAbs := by
      unfold sI
      rw [if_neg (by omega)]
      omega
    have hX2 : z155.1.toInt = c.toInt + (if c.toInt = 0 then 0 else 1) + 2 * ((N : Int) - 2) + (dg (f105 1).toInt.natAbs : Int) := by
      rw [h155.2, h153.2, hX, l5, es]
      push_cast
      omega
    have dpos := dg_le (f105 1).toInt.natAbs
    have znz : ¬ z155.1.toInt = 0 := by
      rw [hX2]
      split <;> omega
    refine Ok_bind (nextPart_iv h2 h5 h6 hI) (fun z hz => Ok_oc (fun e => ?_) (fun k f e => ?_))
    · rcases hz with ⟨e2, q⟩ | ⟨w, M, b, way2, m2, md, e2, hP, hcar, d0, d1, d2⟩
      · exact hk _ _ _ (h155.1.le (by omega)) ⟨[], q, by rw [hX2]; show _ = _ + 0; omega⟩
      · rw [e2] at e; cases e
    · rcases hz with ⟨e2, q⟩ | ⟨w, M, b, way2, m2, md, e2, hP, hcar, d0, d1, d2⟩
      · rw [e2] at e; cases e
      · rw [e] at e2
        cases e2
        have am := hP.amount hI
        have ls := hP.less hI hcar
        have lt := hP.lt hI
        have hM := hP.2.1
        have n9 := hI.1
        refine ih z.1 _ _ _ _ f (hP.keeps hI hcar).1 (by omega) (by omega) ⟨by omega, by omega⟩ (fun i i1 i2 => ?_) (by omega) (h155.1.le (by omega)) (fun c' m' f' hr hl => hk c' m' f' hr ?_)
        · have := d2 (i - 2) (by omega)
          rw [show i - 2 + 2 = i by omega] at this
          have := lt (b + (i - 2)) (by omega)
          omega
        · obtain ⟨l, l1, l2⟩ := hl
          refine ⟨(way2, m2, (List.range (M - b + 1)).map (fun i => w (b + i))) :: l, ⟨z.1, w, M, b, hP, rfl, hcar, l1⟩, ?_⟩
          rw [l2, if_neg znz, hX2, d1]
          show _ = _ + ((if false = true then 0 else 1) + lenQ (way2, m2, (List.range (M - b + 1)).map (fun i => w (b + i))) + lenL false l)
          unfold lenQ
          rw [List.length_map, List.length_range, if_neg (show ¬ (false = true) by decide)]
          push_cast
          omega
theorem textLen_iv {n s g : Nat} {R F : Nat → Int32} {i2 i5 i6 : Int32} (hI : FI n s g R F) (h2 : i2.toInt = n) (h5 : i5.toInt = s) (h6 : i6.toInt = g) : Ok (fX8_partsNowText i2 i5 i6 F) (fun z => ∃ l, prts n s g l F ∧ (z.1 : Int) = lenL true l ∧ z.1 ≤ 13400) := by
  have n9 := hI.1
  have se := hI.2.1
  have t0 : (0 : Int32).toInt = 0 := rfl
  unfold fX8_partsNowText
  refine Ok_bind (flowRow_iv F) (fun z13 h13 => Ok_bind ini_iv (fun _ _ => ?_))
  have I2 : FI n s g R z13 := hI.ofsame (fun _ _ _ _ => rfl) h13
  refine Ok_bind (nextPart_iv h2 h5 h6 I2) (fun z hz => Ok_oc (fun e => ?_) (fun k f e => ?_))
  · rcases hz with ⟨e2, q⟩ | ⟨w, M, b, way2, m2, md, e2, hP, hcar, d0, d1, d2⟩
    · exact Ok_bind (txStr rs0.1 (by omega)) (fun y hy => Ok_some ⟨[], empt_same h13 n9.2 se.1 q, by show (y.1 : Int) = 0; omega, by show y.1 ≤ 13400; omega⟩)
    · rw [e2] at e; cases e
  · rcases hz with ⟨e2, q⟩ | ⟨w, M, b, way2, m2, md, e2, hP, hcar, d0, d1, d2⟩
    · rw [e2] at e; cases e
    · rw [e] at e2
      cases e2
      have am := hP.amount I2
      have ls := hP.less I2 hcar
      have lt := hP.lt I2
      have hM := hP.2.1
      have mb := mu_bd n s z13
      refine rx_loop h2 h5 h6 64 z.1 0 16 _ _ f (hP.keeps I2 hcar).1 (by omega) (by omega) ⟨by omega, by omega⟩ (fun i i1 i2 => ?_) (by omega) (rs0.le (by omega)) (fun c m f hT hl => Ok_bind (txStr hT.1 (by omega)) (fun y hy => Ok_some ?_))
      · have := d2 (i - 2) (by omega)
        rw [show i - 2 + 2 = i by omega] at this
        have := lt (b + (i - 2)) (by omega)
        omega
      · obtain ⟨l, l1, l2⟩ := hl
        have cb := hT.1.2.1
        refine ⟨(way2, m2, (List.range (M - b + 1)).map (fun i => w (b + i))) :: l, prts_same n9.2 se.1 _ h13 ⟨z.1, w, M, b, hP, rfl, hcar, l1⟩, ?_, by show y.1 ≤ 13400; omega⟩
        show (y.1 : Int) = (if true = true then 0 else 1) + lenQ (way2, m2, (List.range (M - b + 1)).map (fun i => w (b + i))) + lenL false l
        rw [hy, l2, if_pos t0, d1, if_pos rfl]
        unfold lenQ
        rw [List.length_map, List.length_range]
        push_cast
        omega
