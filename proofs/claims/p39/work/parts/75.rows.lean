/-! the class's texts: rows written out, and all that is made of them -/
theorem at4 (f : Nat → Int32) {i : Int32} (h1 : 0 ≤ i.toInt) (h2 : i.toInt < 10) : Ok (fX4_at f i) (fun z => z = f i.toNatClampNeg) := by
  have t0 : (0 : Int32).toInt = 0 := rfl
  have t10 : (10 : Int32).toInt = 10 := rfl
  unfold fX4_at
  refine Ok_if (fun h => ?_) (fun h => ?_)
  · have h := i32lt h; omega
  · refine Ok_if (fun g => ?_) (fun g => ?_)
    · have g := i32le g; omega
    · exact Ok_inB (vp_of (by omega) (by omega)) (Ok_some rfl)
theorem capX_z {f : Nat → Int32} {k i n : Nat} {c : Int32} (hi : i = 0) : capX f (k + 1) i n c = capX f k (i + 1) (capE n (c + szI (f i))) (c + szI (f i)) := by
  show capX f k (i + 1) (capE (if i = 0 then (n, c) else (capE n (c + 1), c + 1)).1 ((if i = 0 then (n, c) else (capE n (c + 1), c + 1)).2 + szI (f i))) ((if i = 0 then (n, c) else (capE n (c + 1), c + 1)).2 + szI (f i)) = _
  rw [if_pos hi]
theorem capX_p {f : Nat → Int32} {k i n : Nat} {c : Int32} (hi : ¬ i = 0) : capX f (k + 1) i n c = capX f k (i + 1) (capE (capE n (c + 1)) (c + 1 + szI (f i))) (c + 1 + szI (f i)) := by
  show capX f k (i + 1) (capE (if i = 0 then (n, c) else (capE n (c + 1), c + 1)).1 ((if i = 0 then (n, c) else (capE n (c + 1), c + 1)).2 + szI (f i))) ((if i = 0 then (n, c) else (capE n (c + 1), c + 1)).2 + szI (f i)) = _
  rw [if_neg hi]
theorem capX_ok (f : Nat → Int32) : ∀ (k i n : Nat) (c : Int32), (14 ≤ n ∧ n ≤ 26700) → 0 ≤ c.toInt → c.toInt + 12 * (k : Int) ≤ 13300 → n ≤ (capX f k i n c).1 ∧ (capX f k i n c).1 ≤ 26700
  | 0, i, n, c, h1, h2, h3 => ⟨Nat.le_refl _, h1.2⟩
  | k + 1, i, n, c, h1, h2, h3 => by
    have hs := sI_le (f i)
    have hz := (szI_iv (f i)).1
    by_cases hi : i = 0
    · rw [capX_z hi]
      have e : (c + szI (f i)).toInt = c.toInt + sI (f i) := by rw [add_iv (by omega) (by omega), hz]
      obtain ⟨k1, k2, k3, -, -, -⟩ := capE_ok (m := c + szI (f i)) h1.1 h1.2 (by omega) (by omega)
      have q := capX_ok f k (i + 1) (capE n (c + szI (f i))) (c + szI (f i)) ⟨by omega, k2⟩ (by omega) (by omega)
      exact ⟨Nat.le_trans k1 q.1, q.2⟩
    · rw [capX_p hi]
      have e1 := inc_iv (x := c) (by omega)
      obtain ⟨a1, a2, a3, -, -, -⟩ := capE_ok (m := c + 1) h1.1 h1.2 (by omega) (by omega)
      have e : (c + 1 + szI (f i)).toInt = c.toInt + 1 + sI (f i) := by rw [add_iv (by omega) (by omega), hz, e1]
      obtain ⟨k1, k2, k3, -, -, -⟩ := capE_ok (n := capE n (c + 1)) (m := c + 1 + szI (f i)) (by omega) a2 (by omega) (by omega)
      have q := capX_ok f k (i + 1) (capE (capE n (c + 1)) (c + 1 + szI (f i))) (c + 1 + szI (f i)) ⟨by omega, k2⟩ (by omega) (by omega)
      exact ⟨Nat.le_trans a1 (Nat.le_trans k1 q.1), q.2⟩
theorem tsW_loop {i4 : Int32} {f5 : Nat → Int32} {c0 : Nat} (h10 : i4.toInt ≤ 10) : ∀ (k n : Nat) (i c : Int32) (m : Nat) (f : Nat → Int32) (M : Int), k < n → (0 ≤ i.toInt ∧ i.toInt + k = i4.toInt) → c0 = (capX f5 k i.toNatClampNeg m c).1 → TS m c f M → M + 12 * (k : Int) ≤ 13300 → Ok (LX4_write_L2 i4 f5 c0 n i c m f) (fun z => TS c0 z.1 z.2 (M + 12 * (k : Int))) := by
  intro k
  induction k with
  | zero =>
    intro n i c m f M hn hi hc hT hM
    cases n with
    | zero => omega
    | succ n =>
      show Ok (BX4_write_L2 i4 f5 c0 i c m f (fun a b d e => LX4_write_L2 i4 f5 c0 n a b d e)) _
      unfold BX4_write_L2
      refine Ok_if (fun _ => Ok_gd hc.symm (Ok_some ?_)) (fun h => ?_)
      · rw [hc]
        exact hT.le (by omega)
      · have h := i32nle h
        omega
  | succ k ih =>
    intro n i c m f M hn hi hc hT hM
    cases n with
    | zero => omega
    | succ n =>
      have e1 := inc_iv (x := i) (by omega)
      have en : (i + (1 : Int32)).toNatClampNeg = i.toNatClampNeg + 1 := by
        have a : i.toNatClampNeg = i.toInt.toNat := rfl
        have b : (i + (1 : Int32)).toNatClampNeg = (i + (1 : Int32)).toInt.toNat := rfl
        omega
      have t0 : (0 : Int32).toInt = 0 := rfl
      have a0 : i.toNatClampNeg = i.toInt.toNat := rfl
      have hs := sI_le (f5 i.toNatClampNeg)
      have hz := (szI_iv (f5 i.toNatClampNeg)).1
      have step : ∀ (c' : Int32) (m' : Nat) (f' : Nat → Int32) (M' : Int), TS m' c' f' M' → M' ≤ M + 1 → c0 = (capX f5 k (i.toNatClampNeg + 1) (capE m' (c' + szI (f5 i.toNatClampNeg))) (c' + szI (f5 i.toNatClampNeg))).1 → Ok ((fX4_at f5 i).bind (fun z44 => gd (m' ≤ (capE m' (c' + szI z44)) ∧ (capE m' (c' + szI z44)) ≤ c0) inferInstance ((fJ4_append_bf812 c' m' f' z44 (capE m' (c' + szI z44))).bind (fun z45 => LX4_write_L2 i4 f5 c0 n (i + (1 : Int32)) z45.1 (capE m' (c' + szI z44)) z45.2)))) (fun z => TS c0 z.1 z.2 (M + 12 * ((k + 1 : Nat) : Int))) := by
        intro c' m' f' M' hT' hM' hc'
        refine Ok_bind (at4 f5 hi.1 (by omega)) (fun z hz44 => ?_)
        rw [hz44]
        obtain ⟨g1, g2⟩ := tsI (f5 i.toNatClampNeg) hT' (by omega)
        obtain ⟨⟨⟨u1, u2⟩, u3⟩, ⟨u4, u5⟩, u6⟩ := hT'
        have e : (c' + szI (f5 i.toNatClampNeg)).toInt = c'.toInt + sI (f5 i.toNatClampNeg) := by rw [add_iv (by omega) (by omega), hz]
        obtain ⟨k1, k2, k3, -, -, -⟩ := capE_ok (m := c' + szI (f5 i.toNatClampNeg)) u1 u2 (by omega) (by omega)
        have q := capX_ok f5 k (i.toNatClampNeg + 1) (capE m' (c' + szI (f5 i.toNatClampNeg))) (c' + szI (f5 i.toNatClampNeg)) ⟨by omega, k2⟩ (by omega) (by omega)
        refine Ok_gd ⟨g1.1, by rw [hc']; exact q.1⟩ (Ok_bind g2 (fun z45 h45 => ?_))
        exact Ok_mono (ih n (i + (1 : Int32)) z45.1 _ z45.2 (M' + 11) (by omega) ⟨by omega, by omega⟩ (by rw [en, h45.1]; exact hc') h45.2 (by omega)) (fun z hz => hz.le (by omega))
      show Ok (BX4_write_L2 i4 f5 c0 i c m f (fun a b d e => LX4_write_L2 i4 f5 c0 n a b d e)) _
      unfold BX4_write_L2
      refine Ok_if (fun h => ?_) (fun h => ?_)
      · have h := i32le h; omega
      · refine Ok_jn (fun kk wk => ?_)
        rw [wk]
        refine Ok_if (fun h0 => ?_) (fun h0 => ?_)
        · have h0 := i32le h0
          refine step c m f M hT (by omega) ?_
          rw [hc, capX_z (show i.toNatClampNeg = 0 by omega)]
        · have h0 := i32nle h0
          have hc2 : c0 = (capX f5 k (i.toNatClampNeg + 1) (capE (capE m (c + 1)) (c + 1 + szI (f5 i.toNatClampNeg))) (c + 1 + szI (f5 i.toNatClampNeg))).1 := by
            rw [hc, capX_p (show ¬ i.toNatClampNeg = 0 by omega)]
          obtain ⟨g1, g2⟩ := tsC (x := 45) hT (by omega) (by decide)
          obtain ⟨⟨⟨u1, u2⟩, u3⟩, ⟨u4, u5⟩, u6⟩ := id hT
          have ec := inc_iv (x := c) (by omega)
          obtain ⟨a1, a2, a3, -, -, -⟩ := capE_ok (m := c + 1) u1 u2 (by omega) (by omega)
          have e : (c + 1 + szI (f5 i.toNatClampNeg)).toInt = c.toInt + 1 + sI (f5 i.toNatClampNeg) := by rw [add_iv (by omega) (by omega), hz, ec]
          obtain ⟨k1, k2, k3, -, -, -⟩ := capE_ok (n := capE m (c + 1)) (m := c + 1 + szI (f5 i.toNatClampNeg)) (by omega) a2 (by omega) (by omega)
          have q := capX_ok f5 k (i.toNatClampNeg + 1) (capE (capE m (c + 1)) (c + 1 + szI (f5 i.toNatClampNeg))) (c + 1 + szI (f5 i.toNatClampNeg)) ⟨by omega, k2⟩ (by omega) (by omega)
          refine Ok_gd ⟨g1.1, by rw [hc2]; exact Nat.le_trans k1 q.1⟩ (Ok_bind g2 (fun z38 h38 => ?_))
          have s2 := h38.2
          rw [h38.1] at s2 ⊢
          exact step (c + 1) (capE m (c + 1)) z38.2 (M + 1) s2 (by omega) hc2
theorem tsW {i4 : Int32} {f5 : Nat → Int32} {c : Int32} {n : Nat} {f : Nat → Int32} {M : Int} (hl : 0 ≤ i4.toInt ∧ i4.toInt ≤ 10) (hT : TS n c f M) (hM : M ≤ 13170) : (n ≤ (capX f5 i4.toNatClampNeg 0 n c).1 ∧ (capX f5 i4.toNatClampNeg 0 n c).1 ≤ 27000) ∧ Ok (fX4_write i4 f5 c n f (capX f5 i4.toNatClampNeg 0 n c).1) (fun z => TS (capX f5 i4.toNatClampNeg 0 n c).1 z.1 z.2 (M + 120)) := by
  obtain ⟨⟨⟨u1, u2⟩, u3⟩, ⟨u4, u5⟩, u6⟩ := id hT
  have a : i4.toNatClampNeg = i4.toInt.toNat := rfl
  have q := capX_ok f5 i4.toNatClampNeg 0 n c ⟨u1, u2⟩ u4 (by omega)
  refine ⟨⟨q.1, by omega⟩, ?_⟩
  unfold fX4_write
  exact Ok_mono (tsW_loop hl.2 i4.toNatClampNeg 12 0 c n f M (by omega) ⟨by decide, by have t0 : (0 : Int32).toInt = 0 := rfl; omega⟩ rfl hT (by omega)) (fun z hz => hz.le (by omega))
