/-! builders of texts: what their pure functions give, for every text that stays short -/
def BY (f : Nat → Int32) : Prop := ∀ i, fits .byte (.int (f i)) = true
theorem BY_0 : BY (fun _ => 0) := fun _ => (by decide : fits .byte (.int (0 : Int32)) = true)
theorem BY_upd {f : Nat → Int32} (h : BY f) (k : Nat) (x : Int32) : BY (upd f k (vp_nar .byte x)) := by
  intro i
  unfold upd
  split
  · exact fits_narrow_byte x
  · exact h i
theorem BY_cpy {f g : Nat → Int32} (hf : BY f) (hg : BY g) (a b c : Nat) : BY (va_cpy f g a b c) := by
  intro i
  unfold va_cpy
  split
  · exact hf _
  · exact hg _
theorem BY_str (k : Nat) : BY (strF k) := by
  intro j
  unfold strF
  by_cases hk : k < strB.length
  · by_cases hj : j < (strB.getD k []).length
    · have h : ∀ k : Nat, k < strB.length → ∀ j : Nat, j < (strB.getD k []).length → fits .byte (.int ((strB.getD k []).getD j 0)) = true := by decide +kernel
      exact h k hk j hj
    · have e : (strB.getD k []).getD j 0 = 0 := by
        rw [List.getD_eq_getElem?_getD, List.getElem?_eq_none (by omega)]
        rfl
      rw [e]; decide
  · have e : strB.getD k [] = [] := by
      rw [List.getD_eq_getElem?_getD, List.getElem?_eq_none (by omega)]
      rfl
    rw [e]
    exact (by decide : fits .byte (.int (0 : Int32)) = true)
theorem strL_le (k : Nat) : strL.getD k 0 ≤ 30 := by
  by_cases hk : k < strL.length
  · have h : ∀ k : Nat, k < strL.length → strL.getD k 0 ≤ 30 := by decide +kernel
    exact h k hk
  · rw [List.getD_eq_getElem?_getD, List.getElem?_eq_none (by omega)]
    decide
theorem cZ31 : (cZ &&& 31 : Int32) = 0 := rfl
theorem shr0 (x : Int32) : x >>> (cZ &&& 31) = x := by rw [cZ31]; exact Int32.shiftRight_zero
theorem shl0 (x : Int32) : x <<< (cZ &&& 31) = x := by rw [cZ31]; exact Int32.shiftLeft_zero
theorem toNat_iv {x : Int32} {n : Nat} (h : x.toInt = n) : x.toNatClampNeg = n := by
  have e : x.toNatClampNeg = x.toInt.toNat := rfl
  omega
theorem ofNat_iv {n : Nat} (h : n < 2 ^ 31) : (Int32.ofNat n).toInt = n := nI_toInt h
theorem capE_ok {n : Nat} {m : Int32} (h1 : 14 ≤ n) (h2 : n ≤ 26700) (h3 : 0 ≤ m.toInt) (h4 : m.toInt ≤ 13300) : n ≤ capE n m ∧ capE n m ≤ 26700 ∧ m.toInt ≤ capE n m ∧ (¬ (m - Int32.ofNat n ≤ 0) → capE n m = n + max (m.toInt.toNat - n) (n + 2)) ∧ (m - Int32.ofNat n ≤ 0 → capE n m = n ∧ m.toInt ≤ n) ∧ (¬ (m - Int32.ofNat n ≤ 0) → n < m.toInt) := by
  have e := ofNat_iv (n := n) (by omega)
  have e2 : (m - Int32.ofNat n).toInt = m.toInt - n := by rw [sub_iv (by omega) (by omega), e]
  have e0 : (0 : Int32).toInt = 0 := rfl
  unfold capE
  by_cases h : m - Int32.ofNat n ≤ 0
  · have g := i32le h
    rw [if_pos h]
    exact ⟨Nat.le_refl _, h2, by omega, fun k => absurd h k, fun _ => ⟨rfl, by omega⟩, fun k => absurd h k⟩
  · have g := i32nle h
    rw [if_neg h]
    have e3 : (m - Int32.ofNat n).toNatClampNeg = m.toInt.toNat - n := by
      have e4 : (m - Int32.ofNat n).toNatClampNeg = (m - Int32.ofNat n).toInt.toNat := rfl
      omega
    rw [e3]
    exact ⟨by omega, by omega, by omega, fun _ => rfl, fun k => absurd k h, fun _ => by omega⟩
theorem ok_ens {n : Nat} {f : Nat → Int32} {m : Int32} {c : Nat} (h1 : 14 ≤ n) (h2 : n ≤ 26700) (h3 : 0 ≤ m.toInt) (h4 : m.toInt ≤ 13300) (hB : BY f) (hc : c = capE n m) : Ok (fJ5_ensureCapacityInternal_d00df n f m c) BY := by
  obtain ⟨k1, k2, k3, k4, k5, k6⟩ := capE_ok h1 h2 h3 h4
  have e := ofNat_iv (n := n) (by omega)
  have e0 : (0 : Int32).toInt = 0 := rfl
  unfold fJ5_ensureCapacityInternal_d00df
  rw [shr0]
  refine Ok_nm (fun i8 w8 => ?_)
  subst w8
  refine Ok_if (fun h => ?_) (fun h => ?_)
  · exact Ok_gd (by rw [hc]; exact (k5 h).1.symm) (Ok_some hB)
  · have g := k6 h
    have g4 := k4 h
    have hmax : (if m - Int32.ofNat n < Int32.ofNat n + (2 : Int32) then Int32.ofNat n + (2 : Int32) else m - Int32.ofNat n).toInt = max (m.toInt.toNat - n : Nat) (n + 2 : Nat) := by
      have e2 : (m - Int32.ofNat n).toInt = m.toInt - n := by rw [sub_iv (by omega) (by omega), e]
      have t2 : (2 : Int32).toInt = 2 := rfl
      have e3 : (Int32.ofNat n + (2 : Int32)).toInt = n + 2 := by rw [add_iv (by omega) (by omega), e, t2]
      split
      · rename_i q; have q := i32lt q; omega
      · rename_i q; have q := i32nlt q; omega
    have hnew : (Int32.ofNat n + (if m - Int32.ofNat n < Int32.ofNat n + (2 : Int32) then Int32.ofNat n + (2 : Int32) else m - Int32.ofNat n)).toInt = capE n m := by
      rw [add_iv (by omega) (by omega), hmax, e, g4]
      omega
    have hcap : Ok (fJ5_newCapacity_0f7a4 n m) (fun z => z.toInt = capE n m) := by
      unfold fJ5_newCapacity_0f7a4
      rw [shl0, shl0]
      refine Ok_nm (fun i8 w8 => ?_)
      refine Ok_nm (fun i9 w9 => ?_)
      refine Ok_nm (fun i10 w10 => ?_)
      subst w10
      subst w8
      rw [w9]
      refine Ok_bind (R := fun z : Int32 => z.toInt = (capE n m : Int)) ?_ (fun z hz => ?_)
      · unfold fJ8_newLength_cabcc
        refine Ok_nm (fun i4 w4 => ?_)
        have hw : i4.toInt = capE n m := by rw [w4]; exact hnew
        refine Ok_if (fun q => ?_) (fun q => ?_)
        · have q := i32le q; omega
        · refine Ok_if (fun q2 => ?_) (fun q2 => Ok_some hw)
          have q2 := i32lt q2
          have t : (2147483639 : Int32).toInt = 2147483639 := rfl
          omega
      · refine Ok_if (fun q => ?_) (fun q => ?_)
        · have q := i32eq q
          have t : (2147483647 : Int32).toInt = 2147483647 := rfl
          omega
        · rw [shr0]; exact Ok_some hz
    refine Ok_bind hcap (fun z9 hz9 => ?_)
    rw [shl0]
    refine Ok_gd ⟨by omega, by omega⟩ ?_
    refine Ok_bind (R := BY) ?_ (fun z10 hz10 => Ok_gd (by rw [hc]; exact toNat_iv hz9) (Ok_some hz10))
    unfold fJ7_copyOf_9075b
    refine Ok_if (fun q => ?_) (fun q => ?_)
    · have q := i32eq q
      rw [e] at q
      omega
    · refine Ok_gd (by omega) (Ok_nN (by omega) (by omega) ?_)
      have hm : (if z9 < Int32.ofNat n then z9 else Int32.ofNat n) = Int32.ofNat n := by
        rw [if_neg]
        intro q
        have q := i32lt q
        omega
      rw [hm]
      have e5 : (Int32.ofNat n).toNatClampNeg = n := toNat_iv e
      refine Ok_gP ⟨by decide, by decide, ?_, ?_, ?_, fun i _ => hB _⟩ (Ok_some (BY_cpy hB BY_0 _ _ _))
      · intro q
        have q := i32lt q
        omega
      · rw [e5]
        have : (0 : Int32).toNatClampNeg = 0 := rfl
        omega
      · rw [e5, toNat_iv hz9]
        have : (0 : Int32).toNatClampNeg = 0 := rfl
        omega
theorem ok_appC {c : Int32} {n : Nat} {f : Nat → Int32} {x : Int32} {T : Nat} (h1 : 14 ≤ n) (h2 : n ≤ 26700) (h3 : 0 ≤ c.toInt) (h4 : c.toInt ≤ 13299) (hB : BY f) (hx : x.toInt ≤ 255) (hT : T = capE n (c + 1)) : Ok (fJ4_append_cf468 c n f x T) (fun z => z.1 = c + 1 ∧ BY z.2) := by
  have e := inc_iv (x := c) (by omega)
  obtain ⟨k1, k2, k3, -, -, -⟩ := capE_ok (m := c + 1) h1 h2 (by omega) (by omega)
  have t255 : (255 : Int32).toInt = 255 := rfl
  unfold fJ4_append_cf468 fJ5_append_3fe6f
  refine Ok_bind (R := fun z => z.1 = c + 1 ∧ BY z.2) ?_ (fun z hz => Ok_some hz)
  refine Ok_bind (ok_ens h1 h2 (by omega) (by omega) hB hT) (fun z8 hz8 => ?_)
  refine Ok_bind (R := fun _ => True) (Ok_some trivial) (fun z10 _ => ?_)
  refine Ok_if (fun h => absurd h (by decide)) (fun _ => ?_)
  refine Ok_bind (R := fun z => z = 1) ?_ (fun z13 hz13 => ?_)
  · unfold fJ1_canEncode_fc78d
    exact Ok_if (fun h => by have h := i32lt h; omega) (fun _ => Ok_some rfl)
  · refine Ok_if (fun h => by rw [hz13] at h; exact absurd h (by decide)) (fun _ => ?_)
    exact Ok_inB (vp_of h3 (by rw [hT]; omega)) (Ok_some ⟨rfl, BY_upd hz8 _ _⟩)
theorem ok_appK {k : Nat} {c : Int32} {n : Nat} {f : Nat → Int32} {T : Nat} (h1 : 14 ≤ n) (h2 : n ≤ 26700) (h3 : 0 ≤ c.toInt) (h4 : c.toInt ≤ 13200) (hB : BY f) (hT : T = capE n (c + szK k)) : Ok (fJ4_append_15ec4 k c n f T) (fun z => z.1.toInt = c.toInt + strL.getD k 0 ∧ BY z.2) := by
  have hk := strL_le k
  have eL := ofNat_iv (n := strL.getD k 0) (by omega)
  have e : (c + szK k).toInt = c.toInt + strL.getD k 0 := by unfold szK; rw [add_iv (by omega) (by omega), eL]
  obtain ⟨k1, k2, k3, -, -, -⟩ := capE_ok (m := c + szK k) h1 h2 (by omega) (by omega)
  unfold fJ4_append_15ec4 fJ5_append_cf1ce
  refine Ok_bind (R := fun z => z.1.toInt = c.toInt + strL.getD k 0 ∧ BY z.2) ?_ (fun z hz => Ok_some hz)
  refine Ok_bind (R := fun z => z = szK k) ?_ (fun z7 hz7 => ?_)
  · unfold fJ0_length_8abf5 fJ0_coder_7d493
    refine Ok_bind (R := fun _ => True) (Ok_if (fun h => absurd h (by decide)) (fun _ => Ok_some trivial)) (fun _ _ => Ok_some (shr0 _))
  · subst hz7
    refine Ok_bind (ok_ens h1 h2 (by omega) (by omega) hB hT) (fun z8 hz8 => ?_)
    refine Ok_bind (R := BY) ?_ (fun z10 hz10 => Ok_some ⟨e, hz10⟩)
    unfold fJ5_putStringAt_47b60 fJ5_inflateIfNeededFor_a7421 fJ0_getBytes_840e7 fJ0_coder_7d493
    refine Ok_bind (R := fun _ => True) (Ok_if (fun h => absurd h (by decide)) (fun _ => Ok_bind (R := fun _ => True) (Ok_if (fun h => absurd h (by decide)) (fun _ => Ok_some trivial)) (fun _ _ => Ok_if (fun _ => Ok_some trivial) (fun h => absurd rfl h)))) (fun _ _ => ?_)
    refine Ok_bind (R := BY) ?_ (fun z hz => Ok_some hz)
    refine Ok_bind (R := fun _ => True) (Ok_if (fun h => absurd h (by decide)) (fun _ => Ok_some trivial)) (fun _ _ => ?_)
    refine Ok_if (fun _ => ?_) (fun h => absurd rfl h)
    rw [shl0]
    have e5 : (Int32.ofNat (strL.getD k 0)).toNatClampNeg = strL.getD k 0 := toNat_iv eL
    have e6 : c.toNatClampNeg = c.toInt.toNat := rfl
    have e0 : (0 : Int32).toInt = 0 := rfl
    refine Ok_gP ⟨by decide, ?_, ?_, ?_, ?_, fun i _ => BY_str k _⟩ (Ok_some (BY_cpy (BY_str k) hz8 _ _ _))
    · intro q; have q := i32lt q; omega
    · intro q; have q := i32lt q; omega
    · rw [e5]; have : (0 : Int32).toNatClampNeg = 0 := rfl; omega
    · rw [e5, e6, hT]; omega
/-! numbers as texts -/
def dg (u : Nat) : Nat := if u < 10 then 1 else if u < 100 then 2 else if u < 1000 then 3 else if u < 10000 then 4 else if u < 100000 then 5 else if u < 1000000 then 6 else if u < 10000000 then 7 else if u < 100000000 then 8 else if u < 1000000000 then 9 else 10
theorem dg_le (u : Nat) : 1 ≤ dg u ∧ dg u ≤ 10 := by unfold dg; split <;> (try omega); split <;> (try omega); split <;> (try omega); split <;> (try omega); split <;> (try omega); split <;> (try omega); split <;> (try omega); split <;> (try omega); split <;> omega
theorem dg_div {u : Nat} (h : 100 ≤ u) (h2 : u ≤ 2147483648) : dg (u / 100) + 2 = dg u := by
  unfold dg
  by_cases a3 : u < 1000
  · rw [if_pos (show u / 100 < 10 by omega), if_neg (by omega), if_neg (by omega), if_pos a3]
  by_cases a4 : u < 10000
  · rw [if_neg (show ¬ u / 100 < 10 by omega), if_pos (show u / 100 < 100 by omega), if_neg (by omega), if_neg (by omega), if_neg a3, if_pos a4]
  by_cases a5 : u < 100000
  · rw [if_neg (show ¬ u / 100 < 10 by omega), if_neg (show ¬ u / 100 < 100 by omega), if_pos (show u / 100 < 1000 by omega), if_neg (by omega), if_neg (by omega), if_neg a3, if_neg a4, if_pos a5]
  by_cases a6 : u < 1000000
  · rw [if_neg (show ¬ u / 100 < 10 by omega), if_neg (show ¬ u / 100 < 100 by omega), if_neg (show ¬ u / 100 < 1000 by omega), if_pos (show u / 100 < 10000 by omega), if_neg (by omega), if_neg (by omega), if_neg a3, if_neg a4, if_neg a5, if_pos a6]
  by_cases a7 : u < 10000000
  · rw [if_neg (show ¬ u / 100 < 10 by omega), if_neg (show ¬ u / 100 < 100 by omega), if_neg (show ¬ u / 100 < 1000 by omega), if_neg (show ¬ u / 100 < 10000 by omega), if_pos (show u / 100 < 100000 by omega), if_neg (by omega), if_neg (by omega), if_neg a3, if_neg a4, if_neg a5, if_neg a6, if_pos a7]
  by_cases a8 : u < 100000000
  · rw [if_neg (show ¬ u / 100 < 10 by omega), if_neg (show ¬ u / 100 < 100 by omega), if_neg (show ¬ u / 100 < 1000 by omega), if_neg (show ¬ u / 100 < 10000 by omega), if_neg (show ¬ u / 100 < 100000 by omega), if_pos (show u / 100 < 1000000 by omega), if_neg (by omega), if_neg (by omega), if_neg a3, if_neg a4, if_neg a5, if_neg a6, if_neg a7, if_pos a8]
  by_cases a9 : u < 1000000000
  · rw [if_neg (show ¬ u / 100 < 10 by omega), if_neg (show ¬ u / 100 < 100 by omega), if_neg (show ¬ u / 100 < 1000 by omega), if_neg (show ¬ u / 100 < 10000 by omega), if_neg (show ¬ u / 100 < 100000 by omega), if_neg (show ¬ u / 100 < 1000000 by omega), if_pos (show u / 100 < 10000000 by omega), if_neg (by omega), if_neg (by omega), if_neg a3, if_neg a4, if_neg a5, if_neg a6, if_neg a7, if_neg a8, if_pos a9]
  · rw [if_neg (show ¬ u / 100 < 10 by omega), if_neg (show ¬ u / 100 < 100 by omega), if_neg (show ¬ u / 100 < 1000 by omega), if_neg (show ¬ u / 100 < 10000 by omega), if_neg (show ¬ u / 100 < 100000 by omega), if_neg (show ¬ u / 100 < 1000000 by omega), if_neg (show ¬ u / 100 < 10000000 by omega), if_pos (show u / 100 < 100000000 by omega), if_neg (by omega), if_neg (by omega), if_neg a3, if_neg a4, if_neg a5, if_neg a6, if_neg a7, if_neg a8, if_neg a9]
theorem sz_step {x d p p' : Int32} {j j' : Int32} {n : Nat} {P : Int32 → Prop} (hj : ¬ (10 : Int32) ≤ j) (hp : (10 : Int32) * p = p') (hj' : j + 1 = j') (h1 : x ≤ p → Ok (LJ6_stringSize_0f7a4_L16 x d n p' j') P) (h2 : ¬ x ≤ p → P (j + d)) : Ok (LJ6_stringSize_0f7a4_L16 x d (n + 1) p j) P := by
  show Ok (BJ6_stringSize_0f7a4_L16 x d p j (fun i12 i13 => LJ6_stringSize_0f7a4_L16 x d n i12 i13)) P
  unfold BJ6_stringSize_0f7a4_L16
  refine Ok_if (fun h => absurd h hj) (fun _ => Ok_if (fun h => ?_) (fun h => Ok_some (h2 h)))
  refine Ok_nm (fun y w => ?_)
  subst w
  rw [hp, hj']
  exact h1 h
theorem sz_neg {x d : Int32} (hx : x.toInt ≤ 0) (hd : 0 ≤ d.toInt ∧ d.toInt ≤ 1) : Ok (LJ6_stringSize_0f7a4_L16 x d 12 (-10) 1) (fun z => z.toInt = dg (x.toInt.natAbs) + d.toInt) := by
  have key : ∀ (j : Int32) (J : Nat), j.toInt = J → J ≤ 10 → dg x.toInt.natAbs = J → (j + d).toInt = dg x.toInt.natAbs + d.toInt := fun j J h1 h2 h3 => by rw [add_iv (by omega) (by omega), h1, h3]
  refine sz_step (by decide) (show _ = (-100 : Int32) by decide) (show _ = (2 : Int32) by decide) (fun h1 => ?_) (fun h => key 1 1 rfl (by omega) (by have h := i32nle h; have t : (-10 : Int32).toInt = -10 := rfl; unfold dg; rw [if_pos (by omega)]))
  refine sz_step (by decide) (show _ = (-1000 : Int32) by decide) (show _ = (3 : Int32) by decide) (fun h2 => ?_) (fun h => key 2 2 rfl (by omega) (by have h := i32nle h; have h1 := i32le h1; have t : (-10 : Int32).toInt = -10 := rfl; have t2 : (-100 : Int32).toInt = -100 := rfl; unfold dg; rw [if_neg (by omega), if_pos (by omega)]))
  refine sz_step (by decide) (show _ = (-10000 : Int32) by decide) (show _ = (4 : Int32) by decide) (fun h3 => ?_) (fun h => key 3 3 rfl (by omega) (by have h := i32nle h; have h2 := i32le h2; have t : (-1000 : Int32).toInt = -1000 := rfl; have t2 : (-100 : Int32).toInt = -100 := rfl; unfold dg; rw [if_neg (by omega), if_neg (by omega), if_pos (by omega)]))
  refine sz_step (by decide) (show _ = (-100000 : Int32) by decide) (show _ = (5 : Int32) by decide) (fun h4 => ?_) (fun h => key 4 4 rfl (by omega) (by have h := i32nle h; have h2 := i32le h3; have t : (-10000 : Int32).toInt = -10000 := rfl; have t2 : (-1000 : Int32).toInt = -1000 := rfl; unfold dg; rw [if_neg (by omega), if_neg (by omega), if_neg (by omega), if_pos (by omega)]))
  refine sz_step (by decide) (show _ = (-1000000 : Int32) by decide) (show _ = (6 : Int32) by decide) (fun h5 => ?_) (fun h => key 5 5 rfl (by omega) (by have h := i32nle h; have h2 := i32le h4; have t : (-100000 : Int32).toInt = -100000 := rfl; have t2 : (-10000 : Int32).toInt = -10000 := rfl; unfold dg; rw [if_neg (by omega), if_neg (by omega), if_neg (by omega), if_neg (by omega), if_pos (by omega)]))
  refine sz_step (by decide) (show _ = (-10000000 : Int32) by decide) (show _ = (7 : Int32) by decide) (fun h6 => ?_) (fun h => key 6 6 rfl (by omega) (by have h := i32nle h; have h2 := i32le h5; have t : (-1000000 : Int32).toInt = -1000000 := rfl; have t2 : (-100000 : Int32).toInt = -100000 := rfl; unfold dg; rw [if_neg (by omega), if_neg (by omega), if_neg (by omega), if_neg (by omega), if_neg (by omega), if_pos (by omega)]))
  refine sz_step (by decide) (show _ = (-100000000 : Int32) by decide) (show _ = (8 : Int32) by decide) (fun h7 => ?_) (fun h => key 7 7 rfl (by omega) (by have h := i32nle h; have h2 := i32le h6; have t : (-10000000 : Int32).toInt = -10000000 := rfl; have t2 : (-1000000 : Int32).toInt = -1000000 := rfl; unfold dg; rw [if_neg (by omega), if_neg (by omega), if_neg (by omega), if_neg (by omega), if_neg (by omega), if_neg (by omega), if_pos (by omega)]))
  refine sz_step (by decide) (show _ = (-1000000000 : Int32) by decide) (show _ = (9 : Int32) by decide) (fun h8 => ?_) (fun h => key 8 8 rfl (by omega) (by have h := i32nle h; have h2 := i32le h7; have t : (-100000000 : Int32).toInt = -100000000 := rfl; have t2 : (-10000000 : Int32).toInt = -10000000 := rfl; unfold dg; rw [if_neg (by omega), if_neg (by omega), if_neg (by omega), if_neg (by omega), if_neg (by omega), if_neg (by omega), if_neg (by omega), if_pos (by omega)]))
  refine sz_step (by decide) rfl (show _ = (10 : Int32) by decide) (fun h9 => ?_) (fun h => key 9 9 rfl (by omega) (by have h := i32nle h; have h2 := i32le h8; have t : (-1000000000 : Int32).toInt = -1000000000 := rfl; have t2 : (-100000000 : Int32).toInt = -100000000 := rfl; unfold dg; rw [if_neg (by omega), if_neg (by omega), if_neg (by omega), if_neg (by omega), if_neg (by omega), if_neg (by omega), if_neg (by omega), if_neg (by omega), if_pos (by omega)]))
  show Ok (BJ6_stringSize_0f7a4_L16 x d _ 10 _) _
  unfold BJ6_stringSize_0f7a4_L16
  refine Ok_if (fun _ => Ok_some (key 10 10 rfl (by omega) ?_)) (fun h => absurd (by decide) h)
  have h2 := i32le h9
  have t2 : (-1000000000 : Int32).toInt = -1000000000 := rfl
  unfold dg
  rw [if_neg (by omega), if_neg (by omega), if_neg (by omega), if_neg (by omega), if_neg (by omega), if_neg (by omega), if_neg (by omega), if_neg (by omega), if_neg (by omega)]
