/-! HOW LONG THE TEXT OF THE PARTS IS, on both sides -/
theorem txW_loop {i4 : Int32} {f5 : Nat → Int32} {c0 : Nat} (h10 : i4.toInt ≤ 10) : ∀ (k n : Nat) (i c : Int32) (m : Nat) (f : Nat → Int32) (M : Int), k < n → (0 ≤ i.toInt ∧ i.toInt + k = i4.toInt) → c0 = (capX f5 k i.toNatClampNeg m c).1 → TS m c f M → M + 12 * (k : Int) ≤ 13300 → (∀ j : Nat, i.toInt ≤ j → (j : Int) < i4.toInt → sI (f5 j) = 1) → 1 ≤ k + i.toInt → Ok (LX4_write_L2 i4 f5 c0 n i c m f) (fun z => TS c0 z.1 z.2 (M + 12 * (k : Int)) ∧ z.1.toInt = c.toInt + 2 * (k : Int) - (if i.toInt = 0 then 1 else 0)) := by
  intro k
  induction k with
  | zero =>
    intro n i c m f M hn hi hc hT hM hd hk1
    cases n with
    | zero => omega
    | succ n =>
      show Ok (BX4_write_L2 i4 f5 c0 i c m f (fun a b d e => LX4_write_L2 i4 f5 c0 n a b d e)) _
      unfold BX4_write_L2
      refine Ok_if (fun _ => Ok_gd hc.symm (Ok_some ?_)) (fun h => ?_)
      · refine ⟨by rw [hc]; exact hT.le (by omega), ?_⟩
        show c.toInt = _
        rw [if_neg (by omega)]
        omega
      · have h := i32nle h
        omega
  | succ k ih =>
    intro n i c m f M hn hi hc hT hM hd hk1
    cases n with
    | zero => omega
    | succ n =>
      have e1 := inc_iv (x := i) (by omega)
      have en : (i + (1 : Int32)).toNatClampNeg = i.toNatClampNeg + 1 := by
        have a : i.toNatClampNeg = i.toInt.toNat := rfl
        have b : (i + (1 : Int32)).toNatClampNeg = (i + (1 : Int32)).toInt.toNat := rfl
        omega
      have t0 : (0 : Int32).toInt = 0 := rfl
      have a0 : i.toNatClampNeg = i.toInt.toNat := rfl
      have hs := sI_le (f5 i.toNatClampNeg)
      have hz := (szI_iv (f5 i.toNatClampNeg)).1
      have hd1 : sI (f5 i.toNatClampNeg) = 1 := hd i.toNatClampNeg (by omega) (by omega)
      have step : ∀ (c' : Int32) (m' : Nat) (f' : Nat → Int32) (M' : Int), TS m' c' f' M' → M' ≤ M + 1 → c0 = (capX f5 k (i.toNatClampNeg + 1) (capE m' (c' + szI (f5 i.toNatClampNeg))) (c' + szI (f5 i.toNatClampNeg))).1 → Ok ((fX4_at f5 i).bind (fun z44 => gd (m' ≤ (capE m' (c' + szI z44)) ∧ (capE m' (c' + szI z44)) ≤ c0) inferInstance ((fJ4_append_bf812 c' m' f' z44 (capE m' (c' + szI z44))).bind (fun z45 => LX4_write_L2 i4 f5 c0 n (i + (1 : Int32)) z45.1 (capE m' (c' + szI z44)) z45.2)))) (fun z => TS c0 z.1 z.2 (M + 12 * ((k + 1 : Nat) : Int)) ∧ z.1.toInt = c'.toInt + 1 + 2 * (k : Int)) := by
        intro c' m' f' M' hT' hM' hc'
        refine Ok_bind (at4 f5 hi.1 (by omega)) (fun z hz44 => ?_)
        rw [hz44]
        obtain ⟨g1, g2⟩ := tsI (f5 i.toNatClampNeg) hT' (by omega)
        obtain ⟨⟨⟨u1, u2⟩, u3⟩, ⟨u4, u5⟩, u6⟩ := hT'
        have e : (c' + szI (f5 i.toNatClampNeg)).toInt = c'.toInt + sI (f5 i.toNatClampNeg) := by rw [add_iv (by omega) (by omega), hz]
        obtain ⟨k1, k2, k3, -, -, -⟩ := capE_ok (m := c' + szI (f5 i.toNatClampNeg)) u1 u2 (by omega) (by omega)
        have q := capX_ok f5 k (i.toNatClampNeg + 1) (capE m' (c' + szI (f5 i.toNatClampNeg))) (c' + szI (f5 i.toNatClampNeg)) ⟨by omega, k2⟩ (by omega) (by omega)
        refine Ok_gd ⟨g1.1, by rw [hc']; exact q.1⟩ (Ok_bind g2 (fun z45 h45 => ?_))
        exact Ok_mono (ih n (i + (1 : Int32)) z45.1 _ z45.2 (M' + 11) (by omega) ⟨by omega, by omega⟩ (by rw [en, h45.1]; exact hc') h45.2 (by omega) (fun j j1 j2 => hd j (by omega) j2) (by omega)) (fun z hz => ⟨hz.1.le (by omega), by
          have q1 := hz.2
          rw [if_neg (by omega), h45.1, e, hd1] at q1
          omega⟩)
      show Ok (BX4_write_L2 i4 f5 c0 i c m f (fun a b d e => LX4_write_L2 i4 f5 c0 n a b d e)) _
      unfold BX4_write_L2
      refine Ok_if (fun h => ?_) (fun h => ?_)
      · have h := i32le h; omega
      · refine Ok_jn (fun kk wk => ?_)
        rw [wk]
        refine Ok_if (fun h0 => ?_) (fun h0 => ?_)
        · have h0 := i32le h0
          refine Ok_mono (step c m f M hT (by omega) ?_) (fun z hz => ⟨hz.1, by rw [hz.2, if_pos (by omega)]; omega⟩)
          rw [hc, capX_z (show i.toNatClampNeg = 0 by omega)]
        · have h0 := i32nle h0
          have hc2 : c0 = (capX f5 k (i.toNatClampNeg + 1) (capE (capE m (c + 1)) (c + 1 + szI (f5 i.toNatClampNeg))) (c + 1 + szI (f5 i.toNatClampNeg))).1 := by
            rw [hc, capX_p (show ¬ i.toNatClampNeg = 0 by omega)]
          obtain ⟨g1, g2⟩ := tsC (x := 45) hT (by omega) (by decide)
          obtain ⟨⟨⟨u1, u2⟩, u3⟩, ⟨u4, u5⟩, u6⟩ := id hT
          have ec := inc_iv (x := c) (by omega)
          obtain ⟨a1, a2, a3, -, -, -⟩ := capE_ok (m := c + 1) u1 u2 (by omega) (by omega)
          have e : (c + 1 + szI (f5 i.toNatClampNeg)).toInt = c.toInt + 1 + sI (f5 i.toNatClampNeg) := by rw [add_iv (by omega) (by omega), hz, ec]
          obtain ⟨k1, k2, k3, -, -, -⟩ := capE_ok (n := capE m (c + 1)) (m := c + 1 + szI (f5 i.toNatClampNeg)) (by omega) a2 (by omega) (by omega)
          have q := capX_ok f5 k (i.toNatClampNeg + 1) (capE (capE m (c + 1)) (c + 1 + szI (f5 i.toNatClampNeg))) (c + 1 + szI (f5 i.toNatClampNeg)) ⟨by omega, k2⟩ (by omega) (by omega)
          refine Ok_gd ⟨g1.1, by rw [hc2]; exact Nat.le_trans k1 q.1⟩ (Ok_bind g2 (fun z38 h38 => ?_))
          have s2 := h38.2
          rw [h38.1] at s2 ⊢
          exact Ok_mono (step (c + 1) (capE m (c + 1)) z38.2 (M + 1) s2 (by omega) hc2) (fun z hz => ⟨hz.1, by rw [hz.2, ec, if_neg (by omega)]; omega⟩)
theorem txW {i4 : Int32} {f5 : Nat → Int32} {c : Int32} {n : Nat} {f : Nat → Int32} {M : Int} (hl : 1 ≤ i4.toInt ∧ i4.toInt ≤ 10) (hT : TS n c f M) (hM : M ≤ 13170) (hd : ∀ j : Nat, (j : Int) < i4.toInt → sI (f5 j) = 1) : (n ≤ (capX f5 i4.toNatClampNeg 0 n c).1 ∧ (capX f5 i4.toNatClampNeg 0 n c).1 ≤ 27000) ∧ Ok (fX4_write i4 f5 c n f (capX f5 i4.toNatClampNeg 0 n c).1) (fun z => TS (capX f5 i4.toNatClampNeg 0 n c).1 z.1 z.2 (M + 120) ∧ z.1.toInt = c.toInt + 2 * i4.toInt - 1) := by
  obtain ⟨⟨⟨u1, u2⟩, u3⟩, ⟨u4, u5⟩, u6⟩ := id hT
  have a : i4.toNatClampNeg = i4.toInt.toNat := rfl
  have t0 : (0 : Int32).toInt = 0 := rfl
  have q := capX_ok f5 i4.toNatClampNeg 0 n c ⟨u1, u2⟩ u4 (by omega)
  refine ⟨⟨q.1, by omega⟩, ?_⟩
  unfold fX4_write
  exact Ok_mono (txW_loop hl.2 i4.toNatClampNeg 12 0 c n f M (by omega) ⟨by decide, by omega⟩ rfl hT (by omega) (fun j _ j2 => hd j j2) (by omega)) (fun z hz => ⟨hz.1.le (by omega), by rw [hz.2, if_pos t0]; omega⟩)
def lenQ (q : Int × Int × List Nat) : Int := 2 * (q.2.2.length : Int) + (dg q.2.1.natAbs : Int)
def lenL : Bool → List (Int × Int × List Nat) → Int
  | _, [] => 0
  | b, q :: l => (if b = true then 0 else 1) + lenQ q + lenL false l
theorem wx_loop {n s g : Nat} {R f97 : Nat → Int32} {i10 i11 i12 i104 : Int32} (h10 : i10.toInt = n) (h11 : i11.toInt = s) (h12 : i12.toInt = g) : ∀ (fu : Nat) (i : Int32) (F : Nat → Int32) (i99 i100 i101 : Int32) (f102 : Nat → Int32) (c : Int32) (m : Nat) (f : Nat → Int32), FI n s g R F → mu n s F < fu → (0 ≤ i.toInt ∧ i.toInt + (mu n s F : Int) < 100) → (0 ≤ i101.toInt ∧ i101.toInt ≤ 10) → TS m c f (133 * i.toInt) → Ok (LX6_writeParts_L21 i10 i11 i12 f97 i104 fu i F i99 i100 i101 f102 c m f) (fun z => ((0 ≤ z.2.2.2.2.1.toInt ∧ z.2.2.2.2.1.toInt ≤ 10) ∧ TS z.2.2.2.2.2.2.2.2.1 z.2.2.2.2.2.2.2.1 z.2.2.2.2.2.2.2.2.2 13300) ∧ ∃ l, prts n s g l F ∧ z.2.2.2.2.2.2.2.1.toInt = c.toInt + lenL (decide (i.toInt = 0)) l) := by
  intro fu
  have t100 : (100 : Int32).toInt = 100 := rfl
  have t0 : (0 : Int32).toInt = 0 := rfl
  induction fu with
  | zero => intro i F i99 i100 i101 f102 c m f _ h; omega
  | succ fu ih =>
    intro i F i99 i100 i101 f102 c m f hI hmu hi hl hT
    show Ok (BX6_writeParts_L21 i10 i11 i12 f97 i104 i F i99 i100 i101 f102 c m f (fun a1 a2 a3 a4 a5 a6 a7 a8 a9 => LX6_writeParts_L21 i10 i11 i12 f97 i104 fu a1 a2 a3 a4 a5 a6 a7 a8 a9)) _
    unfold BX6_writeParts_L21
    have n9 := hI.1
    refine Ok_if (fun h => ?_) (fun _ => Ok_bind (cpart_iv hI h10 h11 h12) (fun z hz => ?_))
    · have h := i32le h
      omega
    · rcases hz with ⟨e, q⟩ | ⟨e, w, M, b, way, mm, hP, e1, e2, e3, e4⟩
      · subst e
        exact Ok_if (fun _ => Ok_some ⟨⟨hl, hT.le (by omega)⟩, [], q, by show c.toInt = c.toInt + 0; omega⟩) (fun h => absurd rfl h)
      · have hM := hP.2.1
        have am := hP.amount hI
        have lt := hP.lt hI
        refine Ok_if (fun h => absurd (h.symm.trans e) (by decide)) (fun _ => Ok_bind (ctake_iv hI hP e1 e3 e4) (fun F1 hF1 => Ok_jn (fun k110 w110 => ?_)))
        have k1 := hP.keeps hI hF1
        have k2 := hP.less hI hF1
        have ei := inc_iv (x := i) (by omega)
        have rr : 1 ≤ z.2.2.2.1.toInt ∧ z.2.2.2.1.toInt ≤ 10 := by omega
        have dgs : ∀ j : Nat, (j : Int) < z.2.2.2.1.toInt → sI (z.2.2.2.2 j) = 1 := fun j hj => by
          have a := e4 j (by omega)
          have b := lt (b + j) (by omega)
          have c := dg1 (x := z.2.2.2.2 j) ⟨by omega, by omega⟩
          have d := sI_le (z.2.2.2.2 j)
          omega
        have h110 : ∀ (c' : Int32) (m' : Nat) (f' : Nat → Int32), TS m' c' f' (133 * i.toInt + 1) → c'.toInt = c.toInt + (if decide (i.toInt = 0) = true then 0 else 1) → Ok (k110 c' m' f') (fun z => ((0 ≤ z.2.2.2.2.1.toInt ∧ z.2.2.2.2.1.toInt ≤ 10) ∧ TS z.2.2.2.2.2.2.2.2.1 z.2.2.2.2.2.2.2.1 z.2.2.2.2.2.2.2.2.2 13300) ∧ ∃ l, prts n s g l F ∧ z.2.2.2.2.2.2.2.1.toInt = c.toInt + lenL (decide (i.toInt = 0)) l) := by
          intro c' m' f' hT' hc'
          rw [w110]
          obtain ⟨g1, g2⟩ := txW (i4 := z.2.2.2.1) (f5 := z.2.2.2.2) rr hT' (by omega) dgs
          refine Ok_gd g1 (Ok_bind g2 (fun z118 h118 => ?_))
          obtain ⟨g3, g4⟩ := tsC (x := 58) h118.1 (by omega) (by decide)
          refine Ok_gd g3 (Ok_bind g4 (fun z120 h120 => ?_))
          obtain ⟨g5, g6⟩ := tsI z.2.1 h120.2 (by omega)
          have hz := (szI_iv z.2.1).1
          have b1 := h118.1.2.1
          have b2 := h120.2.2.1
          have s1 : z120.1.toInt = z118.1.toInt + 1 := by rw [h120.1]; exact inc_iv (by omega)
          have sl := sI_le z.2.1
          have se : sI z.2.1 = dg mm.natAbs := by
            unfold sI
            rw [e1, if_neg (by omega)]
            omega
          refine Ok_gd g5 (Ok_bind g6 (fun z122 h122 => ?_))
          have s2 : z122.1.toInt = z120.1.toInt + sI z.2.1 := by rw [h122.1, add_iv (by omega) (by omega), hz]
          refine Ok_mono (ih (i + (1 : Int32)) F1 _ _ _ _ _ _ _ k1.1 (by omega) (by omega) ⟨by omega, rr.2⟩ (h122.2.le (by omega))) (fun v hv => ?_)
          obtain ⟨v1, l, l1, l2⟩ := hv
          refine ⟨v1, (way, mm, (List.range (M - b + 1)).map (fun i => w (b + i))) :: l, ⟨F1, w, M, b, hP, rfl, hF1, l1⟩, ?_⟩
          have dn : decide ((i + (1 : Int32)).toInt = 0) = false := decide_eq_false (by omega)
          rw [l2, dn, s2, s1, h118.2, hc', e3, se]
          show _ = c.toInt + ((if decide (i.toInt = 0) = true then 0 else 1) + lenQ (way, mm, (List.range (M - b + 1)).map (fun i => w (b + i))) + lenL false l)
          unfold lenQ
          rw [List.length_map, List.length_range]
          push_cast
          omega
        refine Ok_if (fun h => h110 _ _ _ (hT.le (by omega)) ?_) (fun h => ?_)
        · have h := i32le h
          rw [decide_eq_true (by omega), if_pos rfl]
          omega
        · have h := i32nle h
          obtain ⟨g1, g2⟩ := tsC (x := 32) hT (by omega) (by decide)
          have b1 := hT.2.1
          refine Ok_gd g1 (Ok_bind g2 (fun z112 h112 => h110 _ _ _ h112.2 ?_))
          rw [decide_eq_false (by omega), if_neg (by decide), h112.1]
          exact inc_iv (by omega)
