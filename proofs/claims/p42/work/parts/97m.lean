/-! the same, the reference's side -/
theorem Ok_and {α : Type} {x : Option α} {P Q : α → Prop} (h1 : Ok x P) (h2 : Ok x Q) : Ok x (fun z => P z ∧ Q z) := by
  obtain ⟨z, e, p⟩ := h1
  obtain ⟨y, e', q⟩ := h2
  rw [e] at e'
  cases e'
  exact ⟨z, e, p, q⟩
theorem txStr {n : Nat} {c : Int32} {f : Nat → Int32} {m : Int} (h : TS n c f m) (hm : m ≤ 13400) : Ok (fJ4_toString_0e30d c n f) (fun z => (z.1 : Int) = c.toInt) := by
  obtain ⟨⟨⟨h1, h2⟩, hcn⟩, ⟨h3, h4⟩, h5⟩ := h
  have e0 : (0 : Int32).toInt = 0 := rfl
  have en := ofNat_iv (n := n) (by omega)
  unfold fJ4_toString_0e30d fJ0_init_81219 fJ0_init_db425
  refine Ok_bind (R := fun z => (z.1 : Int) = c.toInt) (Ok_bind (R := fun z => (z.1 : Int) = c.toInt) ?_ (fun z hz => Ok_some hz)) (fun z hz => Ok_some hz)
  refine Ok_bind (R := fun _ => True) (Ok_some trivial) (fun _ _ => ?_)
  refine Ok_bind (R := fun z => z = c) (Ok_bind (R := fun z => z = c) (Ok_some rfl) (fun z hz => Ok_some hz)) (fun z12 hz12 => ?_)
  subst hz12
  refine Ok_bind (R := fun _ => True) (Ok_if (fun h => absurd h (by decide)) (fun _ => Ok_if (fun _ => Ok_some trivial) (fun h => absurd rfl h))) (fun _ _ => ?_)
  refine Ok_if (fun h => absurd h (by decide)) (fun _ => ?_)
  refine Ok_bind (R := fun z => (z.1 : Int) = z12.toInt) ?_ (fun z hz => Ok_some hz)
  have copy : Ok ((fJ7_copyOfRangeByte_39247 n f 0 z12).bind (fun z9 => some (z9.1, z9.2))) (fun z => (z.1 : Int) = z12.toInt) := by
    refine Ok_bind (R := fun z => (z.1 : Int) = z12.toInt) ?_ (fun z hz => Ok_some hz)
    unfold fJ7_copyOfRangeByte_39247 fJ7_checkLength_df160
    refine Ok_bind (R := fun _ => True) (Ok_if (fun _ => Ok_some trivial) (fun h => by have h := i32nle h; omega)) (fun _ _ => ?_)
    refine Ok_nm (fun y wy => ?_)
    have ey : y.toInt = z12.toInt := by rw [wy, sub_iv (by omega) (by omega)]; omega
    have e2 : (Int32.ofNat n - (0 : Int32)).toInt = n := by rw [sub_iv (by omega) (by omega)]; omega
    have em : (if y < Int32.ofNat n - (0 : Int32) then y else Int32.ofNat n - (0 : Int32)).toInt = y.toInt := by
      split
      · rfl
      · rename_i g; have g := i32nlt g; omega
    have em2 := toNat_iv (n := y.toInt.toNat) (x := if y < Int32.ofNat n - (0 : Int32) then y else Int32.ofNat n - (0 : Int32)) (by omega)
    have ey2 := toNat_iv (n := y.toInt.toNat) (x := y) (by omega)
    have z0 : (0 : Int32).toNatClampNeg = 0 := rfl
    refine Ok_nN (by omega) (by omega) (Ok_gP ⟨by decide, by decide, ?_, by rw [em2, z0]; omega, by rw [em2, ey2, z0]; omega, fun i _ => h5 _⟩ (Ok_some (by show ((y.toNatClampNeg : Nat) : Int) = z12.toInt; rw [ey2]; omega)))
    intro g
    have g := i32lt g
    omega
  unfold fJ7_copyOfRange_39247
  refine Ok_jn (fun k wk => ?_)
  rw [wk]
  refine Ok_if (fun _ => Ok_if (fun g => ?_) (fun _ => copy)) (fun _ => copy)
  have g := i32eq g
  exact Ok_gP ⟨by omega, fun i _ => h5 i⟩ (Ok_some (by show (n : Int) = z12.toInt; omega))
theorem rxK {k n : Nat} {c : Int32} {f : Nat → Int32} {m : Int} (h : RS n c f m) (hm : m ≤ 1150) (hk : strL.getD k 0 ≤ 1) : (n ≤ capE n (c + szK k) ∧ capE n (c + szK k) ≤ 2400) ∧ Ok (fJ4_append_15ec4 k c n f (capE n (c + szK k))) (fun z => RS (capE n (c + szK k)) z.1 z.2 (m + 1) ∧ z.1.toInt = c.toInt + strL.getD k 0) := by
  obtain ⟨a, b⟩ := rsK h hm hk
  obtain ⟨⟨⟨⟨h1, h2⟩, hcn⟩, ⟨h3, h4⟩, h5⟩, h6⟩ := h
  exact ⟨a, Ok_and b (Ok_mono (ok_appK h1 h2 h3 (by omega) h5 rfl) (fun z hz => hz.1))⟩
theorem rxI {n d : Nat} {c x : Int32} {f : Nat → Int32} {m : Int} (h : RS n c f m) (hm : m ≤ 1150) (hx : sI x ≤ d) (hd : d ≤ 2) : (n ≤ capE n (c + szI x) ∧ capE n (c + szI x) ≤ 2400) ∧ Ok (fJ4_append_bf812 c n f x (capE n (c + szI x))) (fun z => RS (capE n (c + szI x)) z.1 z.2 (m + d) ∧ z.1.toInt = c.toInt + sI x) := by
  obtain ⟨a, b⟩ := rsI h hm hx hd
  have hz := (szI_iv x).1
  have hs := sI_le x
  have hc := h.1.2.1
  exact ⟨a, Ok_and b (Ok_mono (tsI x h.1 (by omega)).2 (fun z hz1 => by rw [hz1.1, add_iv (by omega) (by omega), hz]))⟩
theorem l3 : strL.getD 3 0 = 0 := by decide
theorem l4 : strL.getD 4 0 = 1 := by decide
theorem l5 : strL.getD 5 0 = 1 := by decide
theorem l6 : strL.getD 6 0 = 1 := by decide
theorem rx_L26 {N : Nat} {f105 : Nat → Int32} {M0 c0 : Int} (hN : 3 ≤ N ∧ N ≤ 14) (hM : M0 ≤ 1000) (hc0 : 0 ≤ c0) (hf : ∀ i, 2 ≤ i → i < N → 0 ≤ (f105 i).toInt ∧ (f105 i).toInt < 10) {P : Nat × (Nat → Int32) → Prop} {k1 : Int32 → Nat → (Nat → Int32) → Option (Nat × (Nat → Int32))} (hk : ∀ c m f, RS m c f (M0 + 2 * ((N : Int) - 2)) → c.toInt = c0 + (if c0 = 0 then 0 else 1) + 2 * ((N : Int) - 2) - 1 → Ok (k1 c m f) P) : ∀ (r fu : Nat) (i c : Int32) (m : Nat) (f : Nat → Int32) (k : Nat), k + r = N → r < fu → 2 ≤ k → i.toInt = k → RS m c f (M0 + 2 * ((k : Int) - 2)) → c.toInt = (if k = 2 then c0 else c0 + (if c0 = 0 then 0 else 1) + 2 * ((k : Int) - 2) - 1) → Ok (LX8_partsNowText_L26 N f105 fu i c m f k1) P := by
  intro r
  have en := ofNat_iv (n := N) (by omega)
  induction r with
  | zero =>
    intro fu i c m f k hk2 hfu h2 hi hT hX
    cases fu with
    | zero => omega
    | succ fu =>
      show Ok (BX8_partsNowText_L26 N f105 i c m f (fun a b d e => LX8_partsNowText_L26 N f105 fu a b d e k1) k1) P
      unfold BX8_partsNowText_L26
      refine Ok_if (fun _ => hk _ _ _ (hT.le (by omega)) ?_) (fun h => ?_)
      · rw [hX, if_neg (by omega)]
        omega
      · have h := i32nle h
        omega
  | succ r ih =>
    intro fu i c m f k hk2 hfu h2 hi hT hX
    cases fu with
    | zero => omega
    | succ fu =>
      show Ok (BX8_partsNowText_L26 N f105 i c m f (fun a b d e => LX8_partsNowText_L26 N f105 fu a b d e k1) k1) P
      unfold BX8_partsNowText_L26
      have ei := inc_iv (x := i) (by omega)
      have t2 : (2 : Int32).toInt = 2 := rfl
      have t0 : (0 : Int32).toInt = 0 := rfl
      refine Ok_if (fun h => ?_) (fun _ => Ok_jn (fun k65 w65 => ?_))
      · have h := i32le h
        omega
      · rw [toNat_iv hi] at w65
        have sep : ∀ q : Nat, strL.getD q 0 ≤ 1 → q < 7 → c.toInt + strL.getD q 0 + 1 = c0 + (if c0 = 0 then 0 else 1) + 2 * ((k : Int) + 1 - 2) - 1 → Ok (k65 q) P := by
          intro q hq hq7 hX2
          rw [w65]
          obtain ⟨a1, a2⟩ := rxK hT (by omega) hq
          refine Ok_gd ⟨a1.1, a1.2, hq7⟩ (Ok_bind a2 (fun z68 h68 => Ok_inB (vp_of (by omega) (by omega)) ?_))
          have d1 := dg1 (hf k h2 (by omega))
          have d2 := sI_le (f105 k)
          obtain ⟨b1, b2⟩ := rxI (x := f105 k) (d := 1) h68.1 (by omega) d1 (by omega)
          refine Ok_gd b1 (Ok_bind b2 (fun z70 h70 => ?_))
          refine ih fu (i + 1) _ _ _ (k + 1) (by omega) (by omega) (by omega) (by omega) (h70.1.le (by omega)) ?_
          rw [if_neg (by omega), h70.2, h68.2]
          push_cast
          omega
        refine Ok_if (fun h => Ok_bind (len_iv c) (fun z hz => ?_)) (fun h => sep 6 k6 (by omega) ?_)
        · have h := i32le h
          have ek : k = 2 := by omega
          subst ek
          rw [if_pos rfl] at hX
          rw [hz]
          refine Ok_if (fun h => sep 3 k3 (by omega) ?_) (fun h => sep 4 k4 (by omega) ?_)
          · have h := i32le h
            rw [l3, if_pos (by omega)]
            omega
          · have h := i32nle h
            rw [l4, if_neg (by omega)]
            omega
        · have h := i32nle h
          rw [if_neg (by omega)] at hX
          rw [l6]
          omega
