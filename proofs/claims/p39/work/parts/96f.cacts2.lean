/-! THE CLASS'S ACTS, sharply, on -/
def C_circle (n : Nat) (R F : Nat → Int32) (i9 i10 : Int32) (f18 : Nat → Int32) (l21 : Int64) (i2 : Int32) (z : Int32 × Int32 × Int32 × (Nat → Int32) × Int64) : Prop :=
  (¬ rm i2 ∧ z = (1, i9, i10, f18, l21)) ∨ (rm i2 ∧ ¬ (∀ p, p < n → G F p (nxC n p) ≤ i2.toInt) ∧ z = (0, i9, i10 + 1, f18, (-9 : Int32).toInt64)) ∨
  (rm i2 ∧ (∀ p, p < n → G F p (nxC n p) ≤ i2.toInt) ∧ z.1 = 0 ∧ z.2.1 = i9 + 1 ∧ z.2.2.1 = i10 ∧ circ n R z.2.2.2.1 i2.toInt ∧ ∃ v : Int32, z.2.2.2.2 = v.toInt64 ∧ v.toInt = cirC n R i2.toInt n)
theorem ccircle_L10 {n : Nat} {F Fc : Nat → Int32} {i11 i2 : Int32} {P : String ⊕ (Int32 × Int32 × Int32 × (Nat → Int32)) → Prop} {k1 k2 : Unit → Option (String ⊕ (Int32 × Int32 × Int32 × (Nat → Int32)))} (h11 : i11.toInt = n) (hn : n ≤ 9) (hF : same Fc F) (hk1 : ¬ (∀ p, p < n → G F p (nxC n p) ≤ i2.toInt) → Ok (k1 ()) P) (hk2 : (∀ p, p < n → G F p (nxC n p) ≤ i2.toInt) → Ok (k2 ()) P) : ∀ (r c : Nat) (i42 : Int32) (k : Nat), k + r = n → r < c → i42.toInt = k → (∀ p, p < k → G F p (nxC n p) ≤ i2.toInt) → Ok (LX6_circle_L10 i11 Fc i2 c i42 k1 k2) P := by
  intro r
  induction r with
  | zero =>
    intro c i42 k hk hc h42 hf
    cases c with
    | zero => omega
    | succ c =>
      show Ok (BX6_circle_L10 i11 Fc i2 i42 (fun a => LX6_circle_L10 i11 Fc i2 c a k1 k2) k1 k2) P
      unfold BX6_circle_L10
      have e : k = n := by omega
      subst e
      refine Ok_if (fun _ => hk2 hf) (fun h => ?_)
      have h := i32nle h
      omega
  | succ r ih =>
    intro c i42 k hk hc h42 hf
    cases c with
    | zero => omega
    | succ c =>
      show Ok (BX6_circle_L10 i11 Fc i2 i42 (fun a => LX6_circle_L10 i11 Fc i2 c a k1 k2) k1 k2) P
      unfold BX6_circle_L10
      have ei := inc_iv (x := i42) (by omega)
      have hx := nxC_lt (n := n) (p := k) (by omega)
      refine Ok_if (fun h => ?_) (fun _ => Ok_bind (cnext_iv h11 hn h42 (by omega)) (fun z43 h43 => Ok_bind (at_iv h42 h43 (by omega) (by omega)) (fun z44 h44 => ?_)))
      · have h := i32le h
        omega
      · rw [hF _ _ (by omega) (by omega)] at h44
        refine Ok_if (fun h => ?_) (fun h => ?_)
        · have h := i32le h
          refine ih c (i42 + 1) (k + 1) (by omega) (by omega) (by omega) (fun p hp => ?_)
          by_cases e : p = k
          · rw [e]; omega
          · exact hf p (by omega)
        · have h := i32nle h
          exact hk1 (fun q => by have := q k (by omega); omega)
theorem ccircle_L59 {n : Nat} {R : Nat → Int32} {i11 i2 : Int32} {P : String ⊕ (Int32 × Int32 × Int32 × (Nat → Int32)) → Prop} {k1 : Int32 → (Nat → Int32) → Option (String ⊕ (Int32 × Int32 × Int32 × (Nat → Int32)))} (h11 : i11.toInt = n) (hn : 2 ≤ n ∧ n ≤ 9) (hk : ∀ i f, i.toInt = cirC n R i2.toInt n → circ n R f i2.toInt → Ok (k1 i f) P) : ∀ (r c : Nat) (i72 i73 : Int32) (f : Nat → Int32) (k : Nat), k + r = n → r < c → i73.toInt = k → i72.toInt = cirC n R i2.toInt k → (∀ x y, x < 9 → y < 9 → G f x y = if x < k ∧ y = nxC n x then i2.toInt else G R x y) → Ok (LX6_circle_L59 i11 i2 c i72 i73 f k1) P := by
  intro r
  induction r with
  | zero =>
    intro c i72 i73 f k hk2 hc h73 h72 hf
    cases c with
    | zero => omega
    | succ c =>
      show Ok (BX6_circle_L59 i11 i2 i72 i73 f (fun a b d => LX6_circle_L59 i11 i2 c a b d k1) k1) P
      unfold BX6_circle_L59
      have e : k = n := by omega
      subst e
      refine Ok_if (fun _ => hk _ _ h72 hf) (fun h => ?_)
      have h := i32nle h
      omega
  | succ r ih =>
    intro c i72 i73 f k hk2 hc h73 h72 hf
    cases c with
    | zero => omega
    | succ c =>
      show Ok (BX6_circle_L59 i11 i2 i72 i73 f (fun a b d => LX6_circle_L59 i11 i2 c a b d k1) k1) P
      unfold BX6_circle_L59
      have ei := inc_iv (x := i73) (by omega)
      have hx := nxC_lt (n := n) (p := k) (by omega)
      have cb := cirC_bd n R i2.toInt k
      have e72 := inc_iv (x := i72) (by omega)
      refine Ok_if (fun h => ?_) (fun _ => Ok_bind (cnext_iv h11 hn.2 h73 (by omega)) (fun z75 h75 => Ok_bind (at_iv h73 h75 (by omega) (by omega)) (fun z76 h76 => Ok_jn (fun k77 w77 => ?_))))
      · have h := i32le h
        omega
      · rw [hf k (nxC n k) (by omega) (by omega), if_neg (fun q => absurd q.1 (Nat.lt_irrefl k))] at h76
        have go : ∀ i79 : Int32, i79.toInt = cirC n R i2.toInt (k + 1) → Ok (k77 i79) P := by
          intro i79 h79
          rw [w77]
          refine Ok_bind (put_iv h73 h75 (by omega) (by omega)) (fun z80 h80 => ?_)
          refine ih c i79 (i73 + 1) z80 (k + 1) (by omega) (by omega) (by omega) h79 (fun x y hx2 hy => ?_)
          rw [h80 x y hx2 hy, hf x y hx2 hy]
          by_cases c1 : x = k ∧ y = nxC n k
          · rw [if_pos c1, if_pos ⟨by omega, by rw [c1.1]; exact c1.2⟩]
          · rw [if_neg c1]
            by_cases c2 : x < k ∧ y = nxC n x
            · rw [if_pos c2, if_pos ⟨by omega, c2.2⟩]
            · rw [if_neg c2, if_neg (fun q => by
                by_cases e : x = k
                · exact c1 ⟨e, by rw [← e]; exact q.2⟩
                · exact c2 ⟨by omega, q.2⟩)]
        have es : cirC n R i2.toInt (k + 1) = cirC n R i2.toInt k + (if G R k (nxC n k) = i2.toInt then 0 else 1) := rfl
        refine Ok_if (fun q => ?_) (fun q => ?_)
        · have q := i32eq q
          exact go i72 (by rw [es, if_pos (by omega)]; omega)
        · exact go (i72 + 1) (by rw [es, if_neg (fun e => q (Int32.toInt_inj.mp (by omega)))]; omega)
theorem ccircle_iv {n s g : Nat} {R F Rc Fc : Nat → Int32} {i9 i10 i12 i2 : Int32} {l21 : Int64} (hI : FI n s g R F) (hR : same Rc R) (hF : same Fc F) (h12 : i12.toInt = n) : Ok (fL_circle i9 i10 i12 Rc Fc l21 i2) (C_circle n R F i9 i10 Rc l21 i2) := by
  have n9 := hI.1
  unfold fL_circle
  refine xc_of ?_
  unfold fX6_circle
  refine xb_need (needWithin_iv (lo := 0) (hi := 50) rfl rfl) (fun q => ?_) (fun q => ?_)
  · show Ok (if _ then _ else _) _
    rw [if_pos rfl]
    exact ⟨_, rfl, Or.inl ⟨q, rfl⟩⟩
  · refine ccircle_L10 (F := F) h12 n9.2 hF (fun h => ⟨_, rfl, ⟨_, rfl, Or.inr (Or.inl ⟨q, h, rfl⟩)⟩⟩) (fun h => ?_) n 12 0 0 (by omega) (by omega) rfl (fun p hp => by omega)
    refine ccircle_L59 (R := R) h12 n9 (fun i f hi hf => ⟨_, rfl, ⟨_, rfl, Or.inr (Or.inr ⟨q, h, rfl, rfl, rfl, hf, i, rfl, hi⟩)⟩⟩) n 12 0 0 Rc 0 (by omega) (by omega) rfl rfl (fun x y hx hy => by rw [if_neg (by omega)]; exact hR x y hx hy)
theorem cstrew_L34 {n e a : Nat} {R : Nat → Int32} {i11 i2 i74 : Int32} {P : String ⊕ (Int32 × Int32 × (Nat → Int32) × (Nat → Int32)) → Prop} {k1 : (Nat → Int32) → Option (String ⊕ (Int32 × Int32 × (Nat → Int32) × (Nat → Int32)))} (h11 : i11.toInt = n) (hn : n ≤ 9) (h2 : i2.toInt = e) (he : e ≤ 9999) (h74 : i74.toInt = a) (ha : a < n) (hk : ∀ f, (∀ x y, x < 9 → y < 9 → G f x y = if y < n ∧ (x < a ∨ (x = a ∧ y < n)) then strewn e x y else G R x y) → Ok (k1 f) P) : ∀ (r c : Nat) (i102 : Int32) (f : Nat → Int32) (k : Nat), k + r = n → r < c → i102.toInt = k → (∀ x y, x < 9 → y < 9 → G f x y = if y < n ∧ (x < a ∨ (x = a ∧ y < k)) then strewn e x y else G R x y) → Ok (LX6_strew_L34 i11 i2 i74 c i102 f k1) P := by
  intro r
  induction r with
  | zero =>
    intro c i102 f k hk2 hc h102 hf
    cases c with
    | zero => omega
    | succ c =>
      show Ok (BX6_strew_L34 i11 i2 i74 i102 f (fun a b => LX6_strew_L34 i11 i2 i74 c a b k1) k1) P
      unfold BX6_strew_L34
      have e : k = n := by omega
      subst e
      refine Ok_if (fun _ => hk _ hf) (fun h => ?_)
      have h := i32nle h
      omega
  | succ r ih =>
    intro c i102 f k hk2 hc h102 hf
    cases c with
    | zero => omega
    | succ c =>
      show Ok (BX6_strew_L34 i11 i2 i74 i102 f (fun a b => LX6_strew_L34 i11 i2 i74 c a b k1) k1) P
      unfold BX6_strew_L34
      have ei := inc_iv (x := i102) (by omega)
      have t0 : (0 : Int32).toInt = 0 := rfl
      have num := strew_num h2 he h74 h102 (show a < 9 by omega) (show k < 9 by omega)
      refine Ok_if (fun h => ?_) (fun _ => Ok_nm (fun i104 w104 => Ok_jn (fun k105 w105 => ?_)))
      · have h := i32le h
        omega
      · rw [← w104] at num
        clear w104
        have go : ∀ i107 : Int32, i107.toInt = strewn e a k → Ok (k105 i107) P := by
          intro i107 h107
          rw [w105]
          refine Ok_bind (put_iv h74 h102 (by omega) (by omega)) (fun z108 h108 => ?_)
          refine ih c (i102 + 1) z108 (k + 1) (by omega) (by omega) (by omega) (fun x y hx hy => ?_)
          rw [h108 x y hx hy, hf x y hx hy]
          by_cases c1 : x = a ∧ y = k
          · rw [if_pos c1, if_pos (by omega), h107, c1.1, c1.2]
          · rw [if_neg c1]
            by_cases c2 : y < n ∧ (x < a ∨ (x = a ∧ y < k))
            · rw [if_pos c2, if_pos (by omega)]
            · rw [if_neg c2, if_neg (by omega)]
        refine Ok_if (fun h => ?_) (fun h => ?_)
        · have h := i32eq h
          exact go 0 (by unfold strewn; rw [if_pos (by omega)]; rfl)
        · have ne : a ≠ k := fun q => h (Int32.toInt_inj.mp (by omega))
          refine go _ ?_
          unfold strewn
          rw [if_neg ne, max0_iv, num]
theorem cstrew_L21 {n e : Nat} {R : Nat → Int32} {i11 i2 : Int32} {P : String ⊕ (Int32 × Int32 × (Nat → Int32) × (Nat → Int32)) → Prop} {k1 : (Nat → Int32) → Option (String ⊕ (Int32 × Int32 × (Nat → Int32) × (Nat → Int32)))} (h11 : i11.toInt = n) (hn : n ≤ 9) (h2 : i2.toInt = e) (he : e ≤ 9999) (hk : ∀ f, isstrewn n e R f → Ok (k1 f) P) : ∀ (r c : Nat) (i74 : Int32) (f : Nat → Int32) (k : Nat), k + r = n → r < c → i74.toInt = k → (∀ x y, x < 9 → y < 9 → G f x y = if x < k ∧ y < n then strewn e x y else G R x y) → Ok (LX6_strew_L21 i11 i2 c i74 f k1) P := by
  intro r
  induction r with
  | zero =>
    intro c i74 f k hk2 hc h74 hf
    cases c with
    | zero => omega
    | succ c =>
      show Ok (BX6_strew_L21 i11 i2 i74 f (fun a b => LX6_strew_L21 i11 i2 c a b k1) k1) P
      unfold BX6_strew_L21
      have e : k = n := by omega
      subst e
      refine Ok_if (fun _ => hk _ hf) (fun h => ?_)
      have h := i32nle h
      omega
  | succ r ih =>
    intro c i74 f k hk2 hc h74 hf
    cases c with
    | zero => omega
    | succ c =>
      show Ok (BX6_strew_L21 i11 i2 i74 f (fun a b => LX6_strew_L21 i11 i2 c a b k1) k1) P
      unfold BX6_strew_L21
      have ei := inc_iv (x := i74) (by omega)
      refine Ok_if (fun h => ?_) (fun _ => ?_)
      · have h := i32le h
        omega
      · refine cstrew_L34 (R := R) (a := k) h11 hn h2 he h74 (by omega) (fun f2 hf2 => ?_) n 12 0 f 0 (by omega) (by omega) rfl (fun x y hx hy => ?_)
        · refine ih c (i74 + 1) f2 (k + 1) (by omega) (by omega) (by omega) (fun x y hx hy => ?_)
          rw [hf2 x y hx hy]
          by_cases c2 : x < k + 1 ∧ y < n
          · rw [if_pos c2, if_pos (by omega)]
          · rw [if_neg c2, if_neg (by omega)]
        · rw [hf x y hx hy]
          by_cases c2 : x < k ∧ y < n
          · rw [if_pos c2, if_pos (by omega)]
          · rw [if_neg c2, if_neg (by omega)]
def C_strew (n : Nat) (R : Nat → Int32) (i9 : Int32) (f18 f20 : Nat → Int32) (l21 : Int64) (i2 : Int32) (z : Int32 × Int32 × (Nat → Int32) × (Nat → Int32) × Int64) : Prop :=
  (¬ seed i2 ∧ z = (1, i9, f18, f20, l21)) ∨ (seed i2 ∧ z.1 = 0 ∧ z.2.1 = i9 + 1 ∧ isstrewn n (tn i2) R z.2.2.1 ∧ zero z.2.2.2.1 ∧ ∃ v : Int32, z.2.2.2.2 = v.toInt64 ∧ v.toInt = sumN n (outF n z.2.2.1))
theorem cstrew_iv {n s g : Nat} {R F Rc Fc : Nat → Int32} {i9 i12 i2 : Int32} {l21 : Int64} (hI : FI n s g R F) (hR : same Rc R) (h12 : i12.toInt = n) : Ok (fL_strew i9 i12 Rc Fc l21 i2) (C_strew n R i9 Rc Fc l21 i2) := by
  have n9 := hI.1
  unfold fL_strew
  refine xc_of ?_
  unfold fX6_strew
  refine xb_need (needWithin_iv (lo := 0) (hi := 9999) rfl rfl) (fun q => ?_) (fun q => ?_)
  · show Ok (if _ then _ else _) _
    rw [if_pos rfl]
    exact ⟨_, rfl, Or.inl ⟨q, rfl⟩⟩
  · refine Ok_bind (clear_iv Fc) (fun z21 h21 => ?_)
    have q1 := q.1
    have e2 : i2.toInt = tn i2 := by unfold tn; omega
    refine cstrew_L21 (R := R) (e := tn i2) h12 n9.2 e2 (by omega) (fun f hf => ?_) n 12 0 Rc 0 (by omega) (by omega) rfl (fun x y hx hy => by rw [if_neg (by omega)]; exact hR x y hx hy)
    refine Ok_bind (croom_iv (hI.ofstrewn hf h21) h12) (fun z111 h111 => ?_)
    exact ⟨_, rfl, ⟨_, rfl, Or.inr ⟨q, rfl, rfl, hf, h21, z111, rfl, h111⟩⟩⟩
theorem turned.ofsame {n : Nat} {F F' z : Nat → Int32} (h : same F F') (hz : turned n F z) : turned n F' z := fun x y hx hy => by rw [hz x y hx hy, h x y hx hy, h y x hy hx]
theorem swapt.ofsame {n p q : Nat} {F F' z : Nat → Int32} (hp : p < n) (hq : q < n) (hn : n ≤ 9) (h : same F F') (hz : swapt n p q F z) : swapt n p q F' z := fun x y hx hy => by
  rw [hz x y hx hy]
  by_cases c : x < n ∧ y < n
  · have a := sw_lt hp hq c.1
    have b := sw_lt hp hq c.2
    rw [if_pos c, if_pos c, h _ _ (by omega) (by omega)]
  · rw [if_neg c, if_neg c]
def C_turn (n s : Nat) (R F : Nat → Int32) (i7 : Int32) (z : Int32 × Int32 × (Nat → Int32) × (Nat → Int32)) : Prop := z.1.toInt = outF n F s ∧ z.2.1 = i7 + 1 ∧ turned n R z.2.2.1 ∧ turned n F z.2.2.2
theorem cturnRound_iv {n s g : Nat} {R F Rc Fc : Nat → Int32} {i7 i10 i12 : Int32} (hI : FI n s g R F) (hR : same Rc R) (hF : same Fc F) (h10 : i10.toInt = n) (h12 : i12.toInt = g) : Ok (fX6_turnRound i7 i10 i12 Rc Fc) (C_turn n s R F i7) := by
  have n9 := hI.1
  have se := hI.2.1
  unfold fX6_turnRound fX2_turn
  refine Ok_bind (R := fun z => turned n R z.1 ∧ turned n F z.2) (Ok_bind (cturn_iv h10 n9.2) (fun z11 h11 => Ok_bind (cturn_iv h10 n9.2) (fun z12 h12 => Ok_some ⟨h11.ofsame hR, h12.ofsame hF⟩))) (fun z19 h19 => ?_)
  obtain ⟨I2, v2⟩ := hI.ofturn h19.1 h19.2
  refine Ok_bind (cvalue_iv h10 h12 n9.2 (by omega) I2.smF) (fun z20 h20 => ?_)
  exact ⟨_, rfl, by rw [← v2]; exact h20, rfl, h19.1, h19.2⟩
theorem cexch_iv {i1 i2 i3 : Int32} {x p q : Nat} (h1 : i1.toInt = x) (h2 : i2.toInt = p) (h3 : i3.toInt = q) : Ok (fX2_exchanged i1 i2 i3) (fun z => z.toInt = sw p q x) := by
  unfold fX2_exchanged sw
  refine Ok_if (fun h => ?_) (fun h => Ok_if (fun h' => ?_) (fun h' => ?_))
  · have h := i32eq h
    exact Ok_some (by rw [if_pos (show x = p by omega)]; exact h3)
  · have h : x ≠ p := fun e => h (Int32.toInt_inj.mp (by omega))
    have h' := i32eq h'
    exact Ok_some (by rw [if_neg h, if_pos (show x = q by omega)]; exact h2)
  · have h : x ≠ p := fun e => h (Int32.toInt_inj.mp (by omega))
    have h' : x ≠ q := fun e => h' (Int32.toInt_inj.mp (by omega))
    exact Ok_some (by rw [if_neg h, if_neg h']; exact h1)
def C_swap (n s g : Nat) (R F : Nat → Int32) (i10 i14 i15 : Int32) (f19 f21 : Nat → Int32) (l22 : Int64) (i2 i3 : Int32) (z : Int32 × Int32 × Int32 × Int32 × (Nat → Int32) × (Nat → Int32) × Int64) : Prop :=
  (¬ (pl n i2 ∧ pl n i3) ∧ z = (1, i10, i14, i15, f19, f21, l22)) ∨ ((pl n i2 ∧ pl n i3) ∧ z.1 = 0 ∧ z.2.1 = i10 + 1 ∧ z.2.2.1.toInt = sw (tn i2) (tn i3) s ∧ z.2.2.2.1.toInt = sw (tn i2) (tn i3) g ∧ swapt n (tn i2) (tn i3) R z.2.2.2.2.1 ∧ swapt n (tn i2) (tn i3) F z.2.2.2.2.2.1 ∧ z.2.2.2.2.2.2 = z.2.2.2.1.toInt64)
theorem cswapL_iv {n s g : Nat} {R F Rc Fc : Nat → Int32} {i10 i13 i14 i15 i2 i3 : Int32} {l22 : Int64} (hI : FI n s g R F) (hR : same Rc R) (hF : same Fc F) (h13 : i13.toInt = n) (h14 : i14.toInt = s) (h15 : i15.toInt = g) : Ok (fL_swap i10 i13 i14 i15 Rc Fc l22 i2 i3) (C_swap n s g R F i10 i14 i15 Rc Fc l22 i2 i3) := by
  have n9 := hI.1
  have hIc : FI n s g Rc Fc := hI.ofsame hR hF
  unfold fL_swap
  refine xc_of ?_
  unfold fX6_swap
  refine xb_need (needPlace_iv h13) (fun q => ?_) (fun q => xb_need (needPlace_iv h13) (fun p => ?_) (fun p => ?_))
  · show Ok (if _ then _ else _) _
    rw [if_pos rfl]
    exact ⟨_, rfl, Or.inl ⟨fun c => q c.1, rfl⟩⟩
  · show Ok (if _ then _ else _) _
    rw [if_pos rfl]
    exact ⟨_, rfl, Or.inl ⟨fun c => p c.2, rfl⟩⟩
  · obtain ⟨e2, l2⟩ := q.eq
    obtain ⟨e3, l3⟩ := p.eq
    unfold fX2_exchange
    refine Ok_bind (R := fun (z : Int32 × Int32 × (Nat → Int32) × (Nat → Int32)) => z.1.toInt = sw (tn i2) (tn i3) s ∧ z.2.1.toInt = sw (tn i2) (tn i3) g ∧ swapt n (tn i2) (tn i3) R z.2.2.1 ∧ swapt n (tn i2) (tn i3) F z.2.2.2) (Ok_bind (cswap_iv h13 n9.2 e2 e3 l2 l3 hIc.outR) (fun z13 h13' => Ok_bind (cswap_iv h13 n9.2 e2 e3 l2 l3 hIc.out0) (fun z14 h14' => Ok_bind (cexch_iv h14 e2 e3) (fun z15 h15' => Ok_bind (cexch_iv h15 e2 e3) (fun z16 h16' => Ok_some ⟨h15', h16', h13'.ofsame l2 l3 n9.2 hR, h14'.ofsame l2 l3 n9.2 hF⟩))))) (fun z23 h23 => ?_)
    exact ⟨_, rfl, ⟨_, rfl, Or.inr ⟨⟨q, p⟩, rfl, rfl, h23.1, h23.2.1, h23.2.2.1, h23.2.2.2, rfl⟩⟩⟩
/-! flow -/
def C_step (n s g : Nat) (R F : Nat → Int32) (i9 : Int32) (f20 : Nat → Int32) (l28 : Int64) (i2 : Int32) (z : Int32 × Int32 × (Nat → Int32) × Int32 × Int32 × (Nat → Int32) × (Nat → Int32) × Int64) : Prop :=
  (¬ rl i2 ∧ z.1 = 1 ∧ z.2.1 = i9 ∧ z.2.2.1 = f20 ∧ z.2.2.2.2.2.2.2 = l28) ∨ (rl i2 ∧ z.1 = 0 ∧ z.2.1 = i9 + 1 ∧ ∃ v : Int32, z.2.2.2.2.2.2.2 = v.toInt64 ∧ ((¬ tracks n s g R F ∧ same z.2.2.1 F ∧ v.toInt = 0) ∨ stepped n s g R i2.toInt F z.2.2.1 v.toInt))
theorem cstepL_iv {n s g : Nat} {R F Rc Fc f26 f27 : Nat → Int32} {i9 i12 i13 i14 i23 i25 i2 : Int32} {l28 : Int64} (hI : FI n s g R F) (hR : same Rc R) (hF : same Fc F) (h12 : i12.toInt = n) (h13 : i13.toInt = s) (h14 : i14.toInt = g) (h23 : 0 ≤ i23.toInt ∧ i23.toInt ≤ 9) (h25 : 0 ≤ i25.toInt ∧ i25.toInt ≤ 10) : Ok (fL_step i9 i12 i13 i14 Rc Fc i23 i25 f26 f27 l28 i2) (fun z => C_step n s g R F i9 Fc l28 i2 z ∧ (0 ≤ z.2.2.2.1.toInt ∧ z.2.2.2.1.toInt ≤ 9) ∧ (0 ≤ z.2.2.2.2.1.toInt ∧ z.2.2.2.2.1.toInt ≤ 10)) := by
  have n9 := hI.1
  have se := hI.2.1
  have hIc : FI n s g Rc Fc := hI.ofsame hR hF
  unfold fL_step
  refine xc_of ?_
  unfold fX6_step
  refine xb_need (needWithin_iv (lo := 0) (hi := 2) rfl rfl) (fun q => ?_) (fun q => ?_)
  · show Ok (if _ then _ else _) _
    rw [if_pos rfl]
    exact ⟨_, rfl, Or.inl ⟨q, rfl, rfl, rfl, rfl⟩, h23, h25⟩
  · refine Ok_bind (cvalue_iv h12 h13 n9.2 (by omega) hIc.smF) (fun z27 h27 => Ok_bind (cone_iv hIc h12 h13 h14 q) (fun z29 h29 => ?_))
    obtain ⟨r1, r2, h29⟩ := h29
    have v0 := hIc.value400
    rcases h29 with ⟨a, b⟩ | ⟨m, a⟩
    · have hsm : sm z29.2.2.2.2.2 := by rw [b]; exact hIc.smF
      refine Ok_bind (cvalue_iv h12 h13 n9.2 (by omega) hsm) (fun z30 h30 => ?_)
      rw [b] at h30
      have ev : (z30 - z27).toInt = 0 := by rw [sub_iv (by omega) (by omega)]; omega
      exact ⟨_, rfl, ⟨_, rfl, Or.inr ⟨q, rfl, rfl, z30 - z27, rfl, Or.inl ⟨fun z => a (tracks_same hR.symm hF.symm n9.2 z), by show same z29.2.2.2.2.2 F; rw [b]; exact hF, ev⟩⟩, r1, r2⟩⟩
    · obtain ⟨I2, v2, m1, m2⟩ := hIc.ofstep a
      refine Ok_bind (cvalue_iv h12 h13 n9.2 (by omega) I2.smF) (fun z30 h30 => ?_)
      have v3 := I2.value400
      have ev : (z30 - z27).toInt = m := by rw [sub_iv (by omega) (by omega)]; omega
      exact ⟨_, rfl, ⟨_, rfl, Or.inr ⟨q, rfl, rfl, z30 - z27, rfl, Or.inr (by rw [ev]; exact stepped_same hR hF n9.2 a)⟩, r1, r2⟩⟩
def C_fill (n s g : Nat) (R F : Nat → Int32) (i9 : Int32) (f20 : Nat → Int32) (l28 : Int64) (i2 : Int32) (z : Int32 × Int32 × (Nat → Int32) × Int32 × Int32 × (Nat → Int32) × (Nat → Int32) × Int64) : Prop :=
  (¬ rl i2 ∧ z.1 = 1 ∧ z.2.1 = i9 ∧ z.2.2.1 = f20 ∧ z.2.2.2.2.2.2.2 = l28) ∨ (rl i2 ∧ z.1 = 0 ∧ z.2.1 = i9 + 1 ∧ ∃ (v : Int32) (j : Nat) (F0 : Nat → Int32), z.2.2.2.2.2.2.2 = v.toInt64 ∧ v.toInt = j ∧ same F0 F ∧ filled n s g R i2.toInt j F0 z.2.2.1)
theorem filled_R {n s g : Nat} {R R' : Nat → Int32} {rule : Int} (hR : same R R') (hn : n ≤ 9) : ∀ (j : Nat) (F F' : Nat → Int32), filled n s g R rule j F F' → filled n s g R' rule j F F'
  | 0, F, F', h => ⟨h.1, fun q => h.2 (tracks_same hR.symm (fun _ _ _ _ => rfl) hn q)⟩
  | j + 1, F, F', ⟨F1, m, h1, h2⟩ => ⟨F1, m, stepped_same hR (fun _ _ _ _ => rfl) hn h1, filled_R hR hn j F1 F' h2⟩
theorem cfillL_iv {n s g : Nat} {R F Rc Fc f26 f27 : Nat → Int32} {i9 i12 i13 i14 i23 i25 i2 : Int32} {l28 : Int64} (hI : FI n s g R F) (hR : same Rc R) (hF : same Fc F) (h12 : i12.toInt = n) (h13 : i13.toInt = s) (h14 : i14.toInt = g) (h23 : 0 ≤ i23.toInt ∧ i23.toInt ≤ 9) (h25 : 0 ≤ i25.toInt ∧ i25.toInt ≤ 10) : Ok (fL_fill i9 i12 i13 i14 Rc Fc i23 i25 f26 f27 l28 i2) (fun z => C_fill n s g R F i9 Fc l28 i2 z ∧ (0 ≤ z.2.2.2.1.toInt ∧ z.2.2.2.1.toInt ≤ 9) ∧ (0 ≤ z.2.2.2.2.1.toInt ∧ z.2.2.2.2.1.toInt ≤ 10)) := by
  have n9 := hI.1
  have hIc : FI n s g Rc Fc := hI.ofsame hR hF
  unfold fL_fill
  refine xc_of ?_
  unfold fX6_fill
  refine xb_need (needWithin_iv (lo := 0) (hi := 2) rfl rfl) (fun q => ?_) (fun q => ?_)
  · show Ok (if _ then _ else _) _
    rw [if_pos rfl]
    exact ⟨_, rfl, Or.inl ⟨q, rfl, rfl, rfl, rfl⟩, h23, h25⟩
  · refine Ok_bind (cfill_iv hIc h12 h13 h14 q) (fun z28 h28 => ?_)
    obtain ⟨r1, r2, j, h1, h2⟩ := h28
    exact ⟨_, rfl, ⟨_, rfl, Or.inr ⟨q, rfl, rfl, z28.1, j, Fc, rfl, h2, hF, filled_R hR n9.2 j _ _ h1⟩, r1, r2⟩⟩
theorem carry_more {F0 F : Nat → Int32} {t : Nat → Nat} {k K : Nat} {i2 i3 i4 : Int32} (hC : carried F0 F t i4.toInt k) (hd : dis t K) (hk : k < K) (h2 : i2.toInt = t k) (h3 : i3.toInt = t (k + 1)) (ha : t k < 9) (hb : t (k + 1) < 9) (hm : 0 ≤ i4.toInt ∧ i4.toInt ≤ 200) (hF : ∀ a b, a < 9 → b < 9 → -100 ≤ G F0 a b ∧ G F0 a b ≤ 100) : Ok (fX2_carry F i2 i3 i4) (fun z => carried F0 z t i4.toInt (k + 1)) := by
  have hne : t k ≠ t (k + 1) := fun e => (hd k k hk hk).2 ⟨e, e.symm⟩
  refine Ok_mono (carry_iv h2 h3 ha hb hne (by omega) (fun x y hx hy => ?_)) (fun z hz x y hx hy => ?_)
  · have k1 := hF x y hx hy
    have k2 := hC x y hx hy
    rcases mvs3 hd i4.toInt x y k (by omega) with ⟨i, -, -, -, i4⟩ | ⟨i, -, -, -, i4⟩ | ⟨i4, -⟩ <;> omega
  · rw [hz x y hx hy, hC x y hx hy]
    show _ = G F0 x y + (mvs t i4.toInt x y k + (if x = t k ∧ y = t (k + 1) then i4.toInt else 0) - (if x = t (k + 1) ∧ y = t k then i4.toInt else 0))
    omega
theorem lf_same {R R' F F' : Nat → Int32} {a b : Nat} (hR : same R R') (hF : same F F') (ha : a < 9) (hb : b < 9) : lf R F a b = lf R' F' a b := by
  unfold lf
  rw [hR a b ha hb, hF a b ha hb]
def C_send (n s g : Nat) (R F : Nat → Int32) (i10 i11 : Int32) (f21 : Nat → Int32) (l22 : Int64) (i2 i3 : Int32) (z : Int32 × Int32 × Int32 × (Nat → Int32) × Int64) : Prop :=
  (¬ pl n i2 ∧ z = (1, i10, i11, f21, l22)) ∨ (pl n i2 ∧ ¬ rm i3 ∧ z = (2, i10, i11, f21, l22)) ∨
  (pl n i2 ∧ rm i3 ∧ ¬ lets R F (sendT s g (tn i2)) (sendK s g (tn i2)) i3.toInt ∧ z = (0, i10, i11 + 1, f21, (-9 : Int32).toInt64)) ∨
  (pl n i2 ∧ rm i3 ∧ lets R F (sendT s g (tn i2)) (sendK s g (tn i2)) i3.toInt ∧ z.1 = 0 ∧ z.2.1 = i10 + 1 ∧ z.2.2.1 = i11 ∧ carried F z.2.2.2.1 (sendT s g (tn i2)) i3.toInt (sendK s g (tn i2)) ∧ ∃ v : Int32, z.2.2.2.2 = v.toInt64 ∧ v.toInt = outF n z.2.2.2.1 s)
theorem csend_iv {n s g : Nat} {R F Rc Fc : Nat → Int32} {i10 i11 i13 i14 i15 i2 i3 : Int32} {l22 : Int64} (hI : FI n s g R F) (hR : same Rc R) (hF : same Fc F) (h13 : i13.toInt = n) (h14 : i14.toInt = s) (h15 : i15.toInt = g) : Ok (fL_send i10 i11 i13 i14 i15 Rc Fc l22 i2 i3) (C_send n s g R F i10 i11 Fc l22 i2 i3) := by
  have n9 := hI.1
  have se := hI.2.1
  have hIc : FI n s g Rc Fc := hI.ofsame hR hF
  have t0 : (0 : Int32).toInt = 0 := rfl
  unfold fL_send
  refine xc_of ?_
  unfold fX6_send
  refine xb_need (needPlace_iv h13) (fun q => ?_) (fun q => xb_need (needWithin_iv (lo := 0) (hi := 50) rfl rfl) (fun p => ?_) (fun p => ?_))
  · show Ok (if _ then _ else _) _
    rw [if_pos rfl]
    exact ⟨_, rfl, Or.inl ⟨q, rfl⟩⟩
  · show Ok (if _ then _ else _) _
    rw [if_neg (by decide), if_pos rfl]
    exact ⟨_, rfl, Or.inr (Or.inl ⟨q, p, rfl⟩)⟩
  · obtain ⟨e2, l2⟩ := q.eq
    have p1 := p.1
    have p2 := p.2
    have hd := sendT_dis (s := s) (g := g) (o := tn i2) se.2.2
    have hlt := sendT_lt (n := n) (o := tn i2) se.1 se.2.1 l2
    have lsg : lf Rc Fc s g = lf R F s g := lf_same hR hF (by omega) (by omega)
    have lso : lf Rc Fc s (tn i2) = lf R F s (tn i2) := lf_same hR hF (by omega) (by omega)
    have log_ : lf Rc Fc (tn i2) g = lf R F (tn i2) g := lf_same hR hF (by omega) (by omega)
    generalize hQ : XP _ _ _ = Q
    refine Ok_jn (fun k23 w23 => ?_)
    have once : (tn i2 = s ∨ tn i2 = g) → Ok (k23 ()) Q := by
      intro c
      have eK : sendK s g (tn i2) = 1 := by unfold sendK; rw [if_pos c]
      have e1 : sendT s g (tn i2) 1 = g := by unfold sendT; rw [if_neg (by omega), if_pos rfl, if_pos c]
      rw [w23]
      unfold fX6_sendAtOnce
      refine Ok_bind (R := fun z => (¬ lets R F (sendT s g (tn i2)) (sendK s g (tn i2)) i3.toInt ∧ z = (-9, i10, i11 + 1, Fc)) ∨ (lets R F (sendT s g (tn i2)) (sendK s g (tn i2)) i3.toInt ∧ z.2.1 = i10 + 1 ∧ z.2.2.1 = i11 ∧ carried F z.2.2.2 (sendT s g (tn i2)) i3.toInt (sendK s g (tn i2)) ∧ z.1.toInt = outF n z.2.2.2 s)) ?_ (fun z34 h34 => ?_)
      · refine Ok_bind (cleft_iv h14 h15 (by omega) (by omega) hIc.smR hIc.smF) (fun z20 h20 => ?_)
        rw [lsg] at h20
        refine Ok_if (fun h => ?_) (fun h => ?_)
        · have h := i32le h
          have hl : lets R F (sendT s g (tn i2)) (sendK s g (tn i2)) i3.toInt := by
            rw [eK]
            intro i hi
            have : i = 0 := by omega
            subst this
            show i3.toInt ≤ lf R F s (sendT s g (tn i2) 1)
            rw [e1]; omega
          refine Ok_bind (carry_more (k := 0) (carried0 Fc (sendT s g (tn i2)) i3.toInt) hd (by rw [eK]; omega) h14 (by rw [show (0 : Nat) + 1 = 1 from rfl, e1]; exact h15) (by have := hlt 0; omega) (by have := hlt (0 + 1); omega) (by omega) hIc.f100) (fun z21 h21 => ?_)
          have hc : carried F z21 (sendT s g (tn i2)) i3.toInt (sendK s g (tn i2)) := by rw [eK]; exact carried_same hF h21
          have I2 := hI.ofsend l2 p1 hl hc
          refine Ok_bind (cvalue_iv h13 h14 n9.2 (by omega) I2.smF) (fun z22 h22 => ?_)
          exact ⟨_, rfl, Or.inr ⟨hl, rfl, rfl, hc, h22⟩⟩
        · have h := i32nle h
          refine ⟨_, rfl, Or.inl ⟨fun hl => ?_, rfl⟩⟩
          have := hl 0 (by rw [eK]; omega)
          have this : i3.toInt ≤ lf R F s (sendT s g (tn i2) 1) := this
          rw [e1] at this
          omega
      · subst hQ
        rcases h34 with ⟨a, b⟩ | ⟨a, b, c2, d, e⟩
        · subst b
          exact ⟨_, rfl, ⟨_, rfl, Or.inr (Or.inr (Or.inl ⟨q, p, a, rfl⟩))⟩⟩
        · exact ⟨_, rfl, ⟨_, rfl, Or.inr (Or.inr (Or.inr ⟨q, p, a, rfl, b, c2, d, z34.1, rfl, e⟩))⟩⟩
    refine Ok_if (fun h => once (Or.inl (by have := i32eq h; omega))) (fun hns => Ok_if (fun h => once (Or.inr (by have := i32eq h; omega))) (fun hng => ?_))
    have c1 : tn i2 ≠ s := fun e => hns (Int32.toInt_inj.mp (by omega))
    have c2 : tn i2 ≠ g := fun e => hng (Int32.toInt_inj.mp (by omega))
    have c : ¬ (tn i2 = s ∨ tn i2 = g) := fun e => e.elim c1 c2
    have eK : sendK s g (tn i2) = 2 := by unfold sendK; rw [if_neg c]
    have e1 : sendT s g (tn i2) 1 = tn i2 := by unfold sendT; rw [if_neg (by omega), if_pos rfl, if_neg c]
    have e22 : sendT s g (tn i2) 2 = g := by unfold sendT; rw [if_neg (by omega), if_neg (by omega)]
    refine Ok_bind (cleft_iv h14 e2 (by omega) (by omega) hIc.smR hIc.smF) (fun z25 h25 => Ok_jn (fun k26 w26 => ?_))
    rw [lso] at h25
    have fin : ¬ lets R F (sendT s g (tn i2)) (sendK s g (tn i2)) i3.toInt → Ok (k26 ()) Q := fun h => by
      rw [w26]
      subst hQ
      exact ⟨_, rfl, ⟨_, rfl, Or.inr (Or.inr (Or.inl ⟨q, p, h, rfl⟩))⟩⟩
    refine Ok_if (fun h => ?_) (fun h => ?_)
    · have h := i32lt h
      refine fin (fun hl => ?_)
      have := hl 0 (by rw [eK]; omega)
      have this : i3.toInt ≤ lf R F s (sendT s g (tn i2) 1) := this
      rw [e1] at this
      omega
    · have h := i32nlt h
      refine Ok_bind (cleft_iv e2 h15 (by omega) (by omega) hIc.smR hIc.smF) (fun z28 h28 => ?_)
      rw [log_] at h28
      refine Ok_if (fun h' => ?_) (fun h' => ?_)
      · have h' := i32le h'
        have hl : lets R F (sendT s g (tn i2)) (sendK s g (tn i2)) i3.toInt := by
          rw [eK]
          intro i hi
          rcases (show i = 0 ∨ i = 1 by omega) with e | e
          · subst e
            show i3.toInt ≤ lf R F s (sendT s g (tn i2) 1)
            rw [e1]; omega
          · subst e
            show i3.toInt ≤ lf R F (sendT s g (tn i2) 1) (sendT s g (tn i2) 2)
            rw [e1, e22]; omega
        refine Ok_bind (carry_more (k := 0) (carried0 Fc (sendT s g (tn i2)) i3.toInt) hd (by rw [eK]; omega) h14 (by rw [show (0 : Nat) + 1 = 1 from rfl, e1]; exact e2) (by have := hlt 0; omega) (by have := hlt (0 + 1); omega) (by omega) hIc.f100) (fun z29 h29 => ?_)
        refine Ok_bind (carry_more (k := 0 + 1) h29 hd (by rw [eK]; omega) (by rw [show (0 : Nat) + 1 = 1 from rfl, e1]; exact e2) (by rw [show (0 : Nat) + 1 + 1 = 2 from rfl, e22]; exact h15) (by have := hlt (0 + 1); omega) (by have := hlt (0 + 1 + 1); omega) (by omega) hIc.f100) (fun z30 h30 => ?_)
        have hc : carried F z30 (sendT s g (tn i2)) i3.toInt (sendK s g (tn i2)) := by rw [eK]; exact carried_same hF h30
        have I2 := hI.ofsend l2 p1 hl hc
        refine Ok_bind (cvalue_iv h13 h14 n9.2 (by omega) I2.smF) (fun z31 h31 => ?_)
        subst hQ
        exact ⟨_, rfl, ⟨_, rfl, Or.inr (Or.inr (Or.inr ⟨q, p, hl, rfl, rfl, rfl, hc, z31, rfl, h31⟩))⟩⟩
      · have h' := i32nle h'
        refine fin (fun hl => ?_)
        have := hl 1 (by rw [eK]; omega)
        have this : i3.toInt ≤ lf R F (sendT s g (tn i2) 1) (sendT s g (tn i2) 2) := this
        rw [e1, e22] at this
        omega
def C_round (n : Nat) (R F : Nat → Int32) (i12 i13 : Int32) (f23 : Nat → Int32) (l24 : Int64) (i2 i3 i4 i5 : Int32) (z : Int32 × Int32 × Int32 × (Nat → Int32) × Int64) : Prop :=
  (¬ (pl n i2 ∧ pl n i3 ∧ pl n i4) ∧ z = (1, i12, i13, f23, l24)) ∨ ((pl n i2 ∧ pl n i3 ∧ pl n i4) ∧ ¬ rcond i2 i3 i4 i5 ∧ z = (2, i12, i13, f23, l24)) ∨
  ((pl n i2 ∧ pl n i3 ∧ pl n i4) ∧ rcond i2 i3 i4 i5 ∧ ¬ lets R F (ringT (tn i2) (tn i3) (tn i4)) 3 i5.toInt ∧ z = (0, i12, i13 + 1, f23, (-9 : Int32).toInt64)) ∨
  ((pl n i2 ∧ pl n i3 ∧ pl n i4) ∧ rcond i2 i3 i4 i5 ∧ lets R F (ringT (tn i2) (tn i3) (tn i4)) 3 i5.toInt ∧ z.1 = 0 ∧ z.2.1 = i12 + 1 ∧ z.2.2.1 = i13 ∧ carried F z.2.2.2.1 (ringT (tn i2) (tn i3) (tn i4)) i5.toInt 3 ∧ ∃ v : Int32, z.2.2.2.2 = v.toInt64 ∧ v.toInt = cpos n z.2.2.2.1)
theorem cround_iv {n s g : Nat} {R F Rc Fc : Nat → Int32} {i12 i13 i15 i2 i3 i4 i5 : Int32} {l24 : Int64} (hI : FI n s g R F) (hR : same Rc R) (hF : same Fc F) (h15 : i15.toInt = n) : Ok (fL_round i12 i13 i15 Rc Fc l24 i2 i3 i4 i5) (C_round n R F i12 i13 Fc l24 i2 i3 i4 i5) := by
  have n9 := hI.1
  have hIc : FI n s g Rc Fc := hI.ofsame hR hF
  unfold fL_round
  refine xc_of ?_
  unfold fX6_round
  refine xb_need (needPlace_iv h15) (fun q => ?_) (fun q1 => xb_need (needPlace_iv h15) (fun q => ?_) (fun q2 => xb_need (needPlace_iv h15) (fun q => ?_) (fun q3 => xb_need needUnlike_iv (fun q => ?_) (fun u1 => xb_need needUnlike_iv (fun q => ?_) (fun u2 => xb_need needUnlike_iv (fun q => ?_) (fun u3 => xb_need (needWithin_iv (lo := 0) (hi := 50) rfl rfl) (fun q => ?_) (fun p => ?_)))))))
  · show Ok (if _ then _ else _) _
    rw [if_pos rfl]
    exact ⟨_, rfl, Or.inl ⟨fun c => q c.1, rfl⟩⟩
  · show Ok (if _ then _ else _) _
    rw [if_pos rfl]
    exact ⟨_, rfl, Or.inl ⟨fun c => q c.2.1, rfl⟩⟩
  · show Ok (if _ then _ else _) _
    rw [if_pos rfl]
    exact ⟨_, rfl, Or.inl ⟨fun c => q c.2.2, rfl⟩⟩
  · show Ok (if _ then _ else _) _
    rw [if_neg (by decide), if_pos rfl]
    exact ⟨_, rfl, Or.inr (Or.inl ⟨⟨q1, q2, q3⟩, fun c => q c.1, rfl⟩)⟩
  · show Ok (if _ then _ else _) _
    rw [if_neg (by decide), if_pos rfl]
    exact ⟨_, rfl, Or.inr (Or.inl ⟨⟨q1, q2, q3⟩, fun c => q c.2.2.1, rfl⟩)⟩
  · show Ok (if _ then _ else _) _
    rw [if_neg (by decide), if_pos rfl]
    exact ⟨_, rfl, Or.inr (Or.inl ⟨⟨q1, q2, q3⟩, fun c => q (fun e => c.2.1 e.symm), rfl⟩)⟩
  · show Ok (if _ then _ else _) _
    rw [if_neg (by decide), if_pos rfl]
    exact ⟨_, rfl, Or.inr (Or.inl ⟨⟨q1, q2, q3⟩, fun c => q c.2.2.2, rfl⟩)⟩
  · obtain ⟨e2, l2⟩ := q1.eq
    obtain ⟨e3, l3⟩ := q2.eq
    obtain ⟨e4, l4⟩ := q3.eq
    have a1 : tn i2 ≠ tn i3 := fun e => u1 (Int32.toInt_inj.mp (by omega))
    have a2 : tn i2 ≠ tn i4 := fun e => u3 (Int32.toInt_inj.mp (by omega))
    have a3 : tn i3 ≠ tn i4 := fun e => u2 (Int32.toInt_inj.mp (by omega))
    have rc : rcond i2 i3 i4 i5 := ⟨u1, fun e => u3 e.symm, u2, p⟩
    have p1 := p.1
    have p2 := p.2
    have hd := ringT_dis a1 a2 a3
    have s1 : lf Rc Fc (tn i2) (tn i3) = lf R F (tn i2) (tn i3) := lf_same hR hF (by omega) (by omega)
    have s2 : lf Rc Fc (tn i3) (tn i4) = lf R F (tn i3) (tn i4) := lf_same hR hF (by omega) (by omega)
    have s3 : lf Rc Fc (tn i4) (tn i2) = lf R F (tn i4) (tn i2) := lf_same hR hF (by omega) (by omega)
    generalize hQ : XP _ _ _ = Q
    refine Ok_bind (cleft_iv e2 e3 (by omega) (by omega) hIc.smR hIc.smF) (fun z30 h30 => Ok_jn (fun k31 w31 => ?_))
    rw [s1] at h30
    have no : ¬ lets R F (ringT (tn i2) (tn i3) (tn i4)) 3 i5.toInt → Ok (k31 ()) Q := fun h => by
      rw [w31]
      subst hQ
      exact ⟨_, rfl, ⟨_, rfl, Or.inr (Or.inr (Or.inl ⟨⟨q1, q2, q3⟩, rc, h, rfl⟩))⟩⟩
    refine Ok_if (fun h => ?_) (fun h => Ok_bind (cleft_iv e3 e4 (by omega) (by omega) hIc.smR hIc.smF) (fun z33 h33 => ?_))
    · have h := i32lt h
      exact no (fun hl => by have : i5.toInt ≤ lf R F (tn i2) (tn i3) := hl 0 (by omega); omega)
    · rw [s2] at h33
      refine Ok_if (fun h' => ?_) (fun h' => Ok_bind (cleft_iv e4 e2 (by omega) (by omega) hIc.smR hIc.smF) (fun z34 h34 => ?_))
      · have h' := i32lt h'
        exact no (fun hl => by have : i5.toInt ≤ lf R F (tn i3) (tn i4) := hl 1 (by omega); omega)
      · rw [s3] at h34
        have h := i32nlt h
        have h' := i32nlt h'
        refine Ok_if (fun h2 => ?_) (fun h2 => ?_)
        · have h2 := i32le h2
          have hl : lets R F (ringT (tn i2) (tn i3) (tn i4)) 3 i5.toInt := fun i hi => by
            rcases (show i = 0 ∨ i = 1 ∨ i = 2 by omega) with e | e | e <;> subst e
            · show i5.toInt ≤ lf R F (tn i2) (tn i3); omega
            · show i5.toInt ≤ lf R F (tn i3) (tn i4); omega
            · show i5.toInt ≤ lf R F (tn i4) (tn i2); omega
          refine Ok_bind (carry_more (k := 0) (carried0 Fc (ringT (tn i2) (tn i3) (tn i4)) i5.toInt) hd (by omega) e2 e3 (show tn i2 < 9 by omega) (show tn i3 < 9 by omega) (by omega) hIc.f100) (fun z35 h35 => ?_)
          refine Ok_bind (carry_more (k := 0 + 1) h35 hd (by omega) e3 e4 (show tn i3 < 9 by omega) (show tn i4 < 9 by omega) (by omega) hIc.f100) (fun z36 h36 => ?_)
          refine Ok_bind (carry_more (k := 0 + 1 + 1) h36 hd (by omega) e4 e2 (show tn i4 < 9 by omega) (show tn i2 < 9 by omega) (by omega) hIc.f100) (fun z37 h37 => ?_)
          have hc : carried F z37 (ringT (tn i2) (tn i3) (tn i4)) i5.toInt 3 := carried_same hF h37
          refine Ok_bind (count_iv h15 n9.2) (fun z38 h38 => ?_)
          subst hQ
          exact ⟨_, rfl, ⟨_, rfl, Or.inr (Or.inr (Or.inr ⟨⟨q1, q2, q3⟩, rc, hl, rfl, rfl, rfl, hc, z38, rfl, h38⟩))⟩⟩
        · have h2 := i32nle h2
          exact no (fun hl => by have : i5.toInt ≤ lf R F (tn i4) (tn i2) := hl 2 (by omega); omega)
def C_peel (n s g : Nat) (F : Nat → Int32) (i7 : Int32) (z : Int32 × Int32 × (Nat → Int32) × Int32 × Int32 × Int32 × (Nat → Int32)) : Prop := z.2.1 = i7 + 1 ∧ ((empt n s F ∧ z.1 = 0 ∧ same z.2.2.1 F) ∨ ∃ way, taken n s g F z.2.2.1 way z.1.toInt)
theorem cpeel_iv {n s g : Nat} {R F Fc f22 : Nat → Int32} {i7 i10 i11 i12 i18 i19 i21 : Int32} (hI : FI n s g R F) (hF : same Fc F) (h10 : i10.toInt = n) (h11 : i11.toInt = s) (h12 : i12.toInt = g) (h21 : 0 ≤ i21.toInt ∧ i21.toInt ≤ 10) : Ok (fX6_peel i7 i10 i11 i12 Fc i18 i19 i21 f22) (fun z => C_peel n s g F i7 z ∧ (0 ≤ z.2.2.2.2.2.1.toInt ∧ z.2.2.2.2.2.1.toInt ≤ 10)) := by
  have n9 := hI.1
  have se := hI.2.1
  have hIc : FI n s g R Fc := hI.ofsame (fun _ _ _ _ => rfl) hF
  unfold fX6_peel
  refine Ok_bind (cpart_iv hIc h10 h11 h12) (fun z23 h23 => ?_)
  rcases h23 with ⟨e, q⟩ | ⟨e, w, M, b, way, m, hP, e1, e2, e3, e4⟩
  · subst e
    refine Ok_if (fun _ => ?_) (fun h => absurd rfl h)
    exact ⟨_, rfl, ⟨rfl, Or.inl ⟨empt_same hF n9.2 se.1 q, rfl, hF⟩⟩, h21⟩
  · have hM := hP.2.1
    refine Ok_if (fun h => absurd (h.symm.trans e) (by decide)) (fun _ => ?_)
    refine Ok_bind (ctake_iv hIc hP e1 e3 e4) (fun z24 h24 => ?_)
    refine ⟨_, rfl, ⟨rfl, Or.inr ⟨way, w, M, b, ?_, ?_⟩⟩, by show 0 ≤ z23.2.2.2.1.toInt ∧ z23.2.2.2.1.toInt ≤ 10; omega⟩
    · show PRT n s g F w M b way z23.2.1.toInt
      rw [e1]
      exact hP.ofsame hF n9.2 se.1
    · show carried F z24 (fun i => w (b + i)) (-z23.2.1.toInt) (M - b)
      rw [e1]
      exact carried_same hF h24
def C_empty (n s : Nat) (F : Nat → Int32) (i7 : Int32) (z : Int32 × Int32 × (Nat → Int32)) : Prop := z.1.toInt = outF n F s ∧ z.2.1 = i7 + 1 ∧ zero z.2.2
theorem cempty_iv {n s g : Nat} {R F Fc : Nat → Int32} {i7 i10 i11 : Int32} (hI : FI n s g R F) (hF : same Fc F) (h10 : i10.toInt = n) (h11 : i11.toInt = s) : Ok (fX6_empty i7 i10 i11 Fc) (C_empty n s F i7) := by
  have n9 := hI.1
  have se := hI.2.1
  have hIc : FI n s g R Fc := hI.ofsame (fun _ _ _ _ => rfl) hF
  unfold fX6_empty
  refine Ok_bind (cvalue_iv h10 h11 n9.2 (by omega) hIc.smF) (fun z17 h17 => Ok_bind (clear_iv Fc) (fun z18 h18 => ?_))
  exact ⟨_, rfl, by rw [← outF_same hF n9.2 se.1]; exact h17, rfl, h18⟩
