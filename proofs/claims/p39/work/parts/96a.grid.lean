/-! THE CLASS'S GRID AND NET, sharply -/
theorem at_iv {F : Nat → Int32} {i j : Int32} {a b : Nat} (hi : i.toInt = a) (hj : j.toInt = b) (ha : a < 9) (hb : b < 9) : Ok (fX1_at F i j) (fun z => z.toInt = G F a b) := by
  have t0 : (0 : Int32).toInt = 0 := rfl
  have t9 : (9 : Int32).toInt = 9 := rfl
  obtain ⟨g1, g2⟩ := G_idx hi hj ha hb
  unfold fX1_at
  refine Ok_if (fun h => ?_) (fun _ => Ok_if (fun h => ?_) (fun _ => Ok_if (fun h => ?_) (fun _ => Ok_if (fun _ => Ok_inB g1 (by rw [g2]; exact Ok_some rfl)) (fun h => ?_))))
  · have h := i32lt h; omega
  · have h := i32le h; omega
  · have h := i32lt h; omega
  · have h := i32nlt h; omega
theorem put_iv {F : Nat → Int32} {i j v : Int32} {a b : Nat} (hi : i.toInt = a) (hj : j.toInt = b) (ha : a < 9) (hb : b < 9) : Ok (fX1_put F i j v) (fun z => isput F z a b v.toInt) := by
  have t0 : (0 : Int32).toInt = 0 := rfl
  have t9 : (9 : Int32).toInt = 9 := rfl
  obtain ⟨g1, g2⟩ := G_idx hi hj ha hb
  unfold fX1_put
  refine Ok_if (fun h => ?_) (fun _ => Ok_if (fun h => ?_) (fun _ => Ok_if (fun h => ?_) (fun _ => Ok_if (fun h => ?_) (fun _ => Ok_inB g1 (by rw [g2]; exact Ok_some (isput_upd hb))))))
  · have h := i32lt h; omega
  · have h := i32le h; omega
  · have h := i32lt h; omega
  · have h := i32le h; omega
theorem clear_loop : ∀ (r c : Nat) (i : Int32) (f : Nat → Int32) (k : Nat), k + r = 81 → r < c → i.toInt = k → (∀ j, j < k → f j = 0) → Ok (LX1_clear_L2 c i f) (fun z => ∀ j, j < 81 → z j = 0) := by
  intro r
  have t81 : (81 : Int32).toInt = 81 := rfl
  induction r with
  | zero =>
    intro c i f k hk hc hi hf
    cases c with
    | zero => omega
    | succ c =>
      show Ok (BX1_clear_L2 i f (fun a b => LX1_clear_L2 c a b)) _
      unfold BX1_clear_L2
      refine Ok_if (fun _ => Ok_some (fun j hj => hf j (by omega))) (fun h => ?_)
      have h := i32nle h
      omega
  | succ r ih =>
    intro c i f k hk hc hi hf
    cases c with
    | zero => omega
    | succ c =>
      show Ok (BX1_clear_L2 i f (fun a b => LX1_clear_L2 c a b)) _
      unfold BX1_clear_L2
      have ei := inc_iv (x := i) (by omega)
      refine Ok_if (fun h => ?_) (fun _ => Ok_inB (vp_of (by omega) (by omega)) ?_)
      · have h := i32le h
        omega
      · rw [toNat_iv hi]
        refine ih c (i + 1) _ (k + 1) (by omega) (by omega) (by omega) (fun j hj => ?_)
        unfold upd
        by_cases e : j = k
        · rw [if_pos e]
        · rw [if_neg e]; exact hf j (by omega)
theorem clear_iv (f : Nat → Int32) : Ok (fX1_clear f) zero := by
  unfold fX1_clear
  exact Ok_mono (clear_loop 81 90 0 f 0 (by omega) (by omega) rfl (fun j hj => by omega)) (fun z hz => zero_of hz)
theorem sumFrom_loop {F : Nat → Int32} {i2 i3 : Int32} {n a : Nat} (h3 : i3.toInt = n) (h2 : i2.toInt = a) (hn : n ≤ 9) (ha : a < 9) (hF : sm F) : ∀ (r c : Nat) (i14 i15 : Int32) (k : Nat), k + r = n → r < c → i15.toInt = k → i14.toInt = sumN k (G F a) → Ok (LX1_sumFrom_L5 F i2 i3 c i14 i15) (fun z => z.toInt = sumN n (G F a)) := by
  intro r
  induction r with
  | zero =>
    intro c i14 i15 k hk hc h15 h14
    cases c with
    | zero => omega
    | succ c =>
      show Ok (BX1_sumFrom_L5 F i2 i3 i14 i15 (fun x y => LX1_sumFrom_L5 F i2 i3 c x y)) _
      unfold BX1_sumFrom_L5
      have e : k = n := by omega
      subst e
      refine Ok_if (fun _ => Ok_some h14) (fun h => ?_)
      have h := i32nle h
      omega
  | succ r ih =>
    intro c i14 i15 k hk hc h15 h14
    cases c with
    | zero => omega
    | succ c =>
      show Ok (BX1_sumFrom_L5 F i2 i3 i14 i15 (fun x y => LX1_sumFrom_L5 F i2 i3 c x y)) _
      unfold BX1_sumFrom_L5
      have ei := inc_iv (x := i15) (by omega)
      have hb := sumN_b (f := G F a) (c := 1000) k (fun b hb => hF a b ha (by omega))
      have hk2 := hF a k ha (by omega)
      refine Ok_if (fun h => ?_) (fun _ => Ok_bind (at_iv h2 h15 ha (by omega)) (fun z hz => Ok_nm (fun y wy => ?_)))
      · have h := i32le h
        omega
      · refine ih c y (i15 + 1) (k + 1) (by omega) (by omega) (by omega) ?_
        rw [wy, add_iv (by omega) (by omega), h14, hz]
        rfl
theorem sumFrom_iv {F : Nat → Int32} {i2 i3 : Int32} {n a : Nat} (h3 : i3.toInt = n) (h2 : i2.toInt = a) (hn : n ≤ 9) (ha : a < 9) (hF : sm F) : Ok (fX1_sumFrom F i2 i3) (fun z => z.toInt = outF n F a) := by
  unfold fX1_sumFrom
  exact sumFrom_loop h3 h2 hn ha hF n 12 0 0 0 (by omega) (by omega) rfl rfl
theorem max0_iv {x : Int32} : (if (0 : Int32) < x then x else (0 : Int32)).toInt = max 0 x.toInt := by
  have t0 : (0 : Int32).toInt = 0 := rfl
  by_cases h : (0 : Int32) < x
  · rw [if_pos h]; have h := i32lt h; omega
  · rw [if_neg h]; have h := i32nlt h; omega
theorem ind_b {f : Nat → Int} : ∀ k, 0 ≤ sumN k (fun b => if 0 < f b then (1 : Int) else 0) ∧ sumN k (fun b => if 0 < f b then (1 : Int) else 0) ≤ k
  | 0 => ⟨Int.le_refl _, Int.le_refl _⟩
  | k + 1 => by
    have := ind_b (f := f) k
    have e : sumN (k + 1) (fun b => if 0 < f b then (1 : Int) else 0) = sumN k (fun b => if 0 < f b then (1 : Int) else 0) + (if 0 < f k then 1 else 0) := rfl
    rw [e]
    split <;> omega
theorem countIn_loop {F : Nat → Int32} {i2 i28 : Int32} {n a : Nat} {c0 : Int} {P : Int32 → Prop} {k1 : Int32 → Option Int32} (h2 : i2.toInt = n) (h28 : i28.toInt = a) (hn : n ≤ 9) (ha : a < 9) (hc0 : 0 ≤ c0 ∧ c0 ≤ 1000) (hk : ∀ i : Int32, i.toInt = c0 + sumN n (fun b => if 0 < G F a b then 1 else 0) → Ok (k1 i) P) : ∀ (r c : Nat) (i39 i40 : Int32) (k : Nat), k + r = n → r < c → i40.toInt = k → i39.toInt = c0 + sumN k (fun b => if 0 < G F a b then 1 else 0) → Ok (LX1_countAboveZero_L12 F i2 i28 c i39 i40 k1) P := by
  intro r
  have t0 : (0 : Int32).toInt = 0 := rfl
  induction r with
  | zero =>
    intro c i39 i40 k hk2 hc h40 h39
    cases c with
    | zero => omega
    | succ c =>
      show Ok (BX1_countAboveZero_L12 F i2 i28 i39 i40 (fun x y => LX1_countAboveZero_L12 F i2 i28 c x y k1) k1) P
      unfold BX1_countAboveZero_L12
      have e : k = n := by omega
      subst e
      refine Ok_if (fun _ => hk _ h39) (fun h => ?_)
      have h := i32nle h
      omega
  | succ r ih =>
    intro c i39 i40 k hk2 hc h40 h39
    cases c with
    | zero => omega
    | succ c =>
      show Ok (BX1_countAboveZero_L12 F i2 i28 i39 i40 (fun x y => LX1_countAboveZero_L12 F i2 i28 c x y k1) k1) P
      unfold BX1_countAboveZero_L12
      have ei := inc_iv (x := i40) (by omega)
      have bd := ind_b (f := G F a) k
      have e39 := inc_iv (x := i39) (by omega)
      have es : sumN (k + 1) (fun b => if 0 < G F a b then (1 : Int) else 0) = sumN k (fun b => if 0 < G F a b then (1 : Int) else 0) + (if 0 < G F a k then 1 else 0) := rfl
      refine Ok_if (fun h => ?_) (fun _ => Ok_bind (at_iv h28 h40 ha (by omega)) (fun z hz => Ok_jn (fun k42 w42 => ?_)))
      · have h := i32le h
        omega
      · rw [w42]
        refine Ok_if (fun h => ?_) (fun h => ?_)
        · have h := i32le h
          exact ih c i39 (i40 + 1) (k + 1) (by omega) (by omega) (by omega) (by rw [es, if_neg (by omega)]; omega)
        · have h := i32nle h
          exact ih c (i39 + 1) (i40 + 1) (k + 1) (by omega) (by omega) (by omega) (by rw [es, if_pos (by omega)]; omega)
theorem countOut_loop {F : Nat → Int32} {i2 : Int32} {n : Nat} (h2 : i2.toInt = n) (hn : n ≤ 9) : ∀ (r c : Nat) (i27 i28 : Int32) (k : Nat), k + r = n → r < c → i28.toInt = k → i27.toInt = sumN k (fun a => sumN n (fun b => if 0 < G F a b then 1 else 0)) → Ok (LX1_countAboveZero_L4 F i2 c i27 i28) (fun z => z.toInt = cpos n F) := by
  intro r
  induction r with
  | zero =>
    intro c i27 i28 k hk hc h28 h27
    cases c with
    | zero => omega
    | succ c =>
      show Ok (BX1_countAboveZero_L4 F i2 i27 i28 (fun x y => LX1_countAboveZero_L4 F i2 c x y)) _
      unfold BX1_countAboveZero_L4
      have e : k = n := by omega
      subst e
      refine Ok_if (fun _ => Ok_some h27) (fun h => ?_)
      have h := i32nle h
      omega
  | succ r ih =>
    intro c i27 i28 k hk hc h28 h27
    cases c with
    | zero => omega
    | succ c =>
      show Ok (BX1_countAboveZero_L4 F i2 i27 i28 (fun x y => LX1_countAboveZero_L4 F i2 c x y)) _
      unfold BX1_countAboveZero_L4
      have ei := inc_iv (x := i28) (by omega)
      have bd : 0 ≤ sumN k (fun a => sumN n (fun b => if 0 < G F a b then (1 : Int) else 0)) ∧ sumN k (fun a => sumN n (fun b => if 0 < G F a b then (1 : Int) else 0)) ≤ 1000 := by
        have b1 := sumN_b (f := fun a => sumN n (fun b => if 0 < G F a b then (1 : Int) else 0)) (c := 9) k (fun a ha => by
          have := ind_b (f := G F a) n
          show -9 ≤ sumN n (fun b => if 0 < G F a b then (1 : Int) else 0) ∧ sumN n (fun b => if 0 < G F a b then (1 : Int) else 0) ≤ 9
          omega)
        have b2 : 0 ≤ sumN k (fun a => sumN n (fun b => if 0 < G F a b then (1 : Int) else 0)) := by
          have q := sumN_le0 (f := fun a => -sumN n (fun b => if 0 < G F a b then (1 : Int) else 0)) k (fun a ha => by
            have := ind_b (f := G F a) n
            show -sumN n (fun b => if 0 < G F a b then (1 : Int) else 0) ≤ 0
            omega)
          have q1 := q.1
          rw [sumN_neg] at q1
          omega
        omega
      refine Ok_if (fun h => ?_) (fun _ => ?_)
      · have h := i32le h
        omega
      · refine countIn_loop (n := n) (a := k) (c0 := sumN k (fun a => sumN n (fun b => if 0 < G F a b then 1 else 0))) h2 h28 hn (by omega) bd (fun i hi => ?_) n 12 i27 0 0 (by omega) (by omega) rfl (by rw [h27]; exact (Int.add_zero _).symm)
        exact ih c i (i28 + 1) (k + 1) (by omega) (by omega) (by omega) hi
theorem count_iv {F : Nat → Int32} {i2 : Int32} {n : Nat} (h2 : i2.toInt = n) (hn : n ≤ 9) : Ok (fX1_countAboveZero F i2) (fun z => z.toInt = cpos n F) := by
  unfold fX1_countAboveZero
  exact countOut_loop h2 hn n 12 0 0 0 (by omega) (by omega) rfl rfl
theorem cells_iv {F : Nat → Int32} {i2 i3 i4 i5 : Int32} {a b c d : Nat} (h2 : i2.toInt = a) (h3 : i3.toInt = b) (h4 : i4.toInt = c) (h5 : i5.toInt = d) (ha : a < 9) (hb : b < 9) (hc : c < 9) (hd : d < 9) : Ok (fX1_exchangeCells F i2 i3 i4 i5) (fun z => ∀ x y, x < 9 → y < 9 → G z x y = if x = c ∧ y = d then G F a b else if x = a ∧ y = b then G F c d else G F x y) := by
  unfold fX1_exchangeCells
  refine Ok_bind (at_iv h2 h3 ha hb) (fun z8 h8 => Ok_bind (at_iv h4 h5 hc hd) (fun z9 h9 => Ok_bind (put_iv h2 h3 ha hb) (fun z10 h10 => Ok_bind (put_iv h4 h5 hc hd) (fun z11 h11 => Ok_some (fun x y hx hy => ?_)))))
  rw [h11 x y hx hy, h10 x y hx hy, h8, h9]
theorem cturn_L9 {a : Nat} {F : Nat → Int32} {i19 : Int32} {P : (Nat → Int32) → Prop} {k1 : (Nat → Int32) → Option (Nat → Int32)} (h19 : i19.toInt = a) (ha : a < 9) (hk : ∀ f, (∀ x y, x < 9 → y < 9 → G f x y = @ite _ (tp a a x y) (Classical.propDecidable _) (G F y x) (G F x y)) → Ok (k1 f) P) : ∀ (r c : Nat) (i27 : Int32) (f : Nat → Int32) (k : Nat), k + r = a → r < c → i27.toInt = k → (∀ x y, x < 9 → y < 9 → G f x y = @ite _ (tp a k x y) (Classical.propDecidable _) (G F y x) (G F x y)) → Ok (LX1_turn_L9 i19 c i27 f k1) P := by
  intro r
  induction r with
  | zero =>
    intro c i27 f k hk2 hc h27 hf
    cases c with
    | zero => omega
    | succ c =>
      show Ok (BX1_turn_L9 i19 i27 f (fun a b => LX1_turn_L9 i19 c a b k1) k1) P
      unfold BX1_turn_L9
      have e : k = a := by omega
      subst e
      refine Ok_if (fun _ => hk _ hf) (fun h => ?_)
      have h := i32nle h
      omega
  | succ r ih =>
    intro c i27 f k hk2 hc h27 hf
    cases c with
    | zero => omega
    | succ c =>
      show Ok (BX1_turn_L9 i19 i27 f (fun a b => LX1_turn_L9 i19 c a b k1) k1) P
      unfold BX1_turn_L9
      have ei := inc_iv (x := i27) (by omega)
      refine Ok_if (fun h => ?_) (fun _ => ?_)
      · have h := i32le h
        omega
      · refine Ok_bind (cells_iv h19 h27 h27 h19 ha (by omega) (by omega) ha) (fun z hz => ?_)
        refine ih c (i27 + 1) z (k + 1) (by omega) (by omega) (by omega) (turn_step (n := 9) (show k < a by omega) hf (fun x y hx hy => ?_))
        rw [hz x y hx hy]
        by_cases c1 : x = k ∧ y = a
        · rw [if_pos c1, if_pos (Or.inr c1), c1.1, c1.2]
        · rw [if_neg c1]
          by_cases c2 : x = a ∧ y = k
          · rw [if_pos c2, if_pos (Or.inl c2), c2.1, c2.2]
          · rw [if_neg c2, if_neg (fun q => q.elim c2 c1)]
theorem cturn_L2 {n : Nat} {F : Nat → Int32} {i2 : Int32} (h2 : i2.toInt = n) (hn : n ≤ 9) : ∀ (r c : Nat) (i19 : Int32) (f : Nat → Int32) (k : Nat), k + r = n → r < c → i19.toInt = k → (∀ x y, x < 9 → y < 9 → G f x y = @ite _ (tp k 0 x y) (Classical.propDecidable _) (G F y x) (G F x y)) → Ok (LX1_turn_L2 i2 c i19 f) (turned n F) := by
  intro r
  induction r with
  | zero =>
    intro c i19 f k hk hc h19 hf
    cases c with
    | zero => omega
    | succ c =>
      show Ok (BX1_turn_L2 i2 i19 f (fun a b => LX1_turn_L2 i2 c a b)) _
      unfold BX1_turn_L2
      have e : k = n := by omega
      subst e
      refine Ok_if (fun _ => Ok_some (fun x y hx hy => ?_)) (fun h => ?_)
      · rw [hf x y hx hy]
        by_cases c : x < k ∧ y < k
        · rw [if_pos c, if_pos (show tp k 0 x y by unfold tp; omega)]
        · rw [if_neg c, if_neg (show ¬ tp k 0 x y by unfold tp; omega)]
      · have h := i32nle h
        omega
  | succ r ih =>
    intro c i19 f k hk hc h19 hf
    cases c with
    | zero => omega
    | succ c =>
      show Ok (BX1_turn_L2 i2 i19 f (fun a b => LX1_turn_L2 i2 c a b)) _
      unfold BX1_turn_L2
      have ei := inc_iv (x := i19) (by omega)
      refine Ok_if (fun h => ?_) (fun _ => ?_)
      · have h := i32le h
        omega
      · refine cturn_L9 (F := F) h19 (by omega) (fun f2 hf2 => ?_) k 12 0 f 0 (by omega) (by omega) rfl hf
        refine ih c (i19 + 1) f2 (k + 1) (by omega) (by omega) (by omega) (fun x y hx hy => ?_)
        rw [hf2 x y hx hy]
        by_cases c : tp k k x y
        · rw [if_pos c, if_pos (show tp (k + 1) 0 x y by unfold tp at *; omega)]
        · rw [if_neg c]
          by_cases c2 : tp (k + 1) 0 x y
          · have e : x = y := by unfold tp at *; omega
            rw [if_pos c2, e]
          · rw [if_neg c2]
theorem cturn_iv {n : Nat} {F : Nat → Int32} {i2 : Int32} (h2 : i2.toInt = n) (hn : n ≤ 9) : Ok (fX1_turn F i2) (turned n F) := by
  unfold fX1_turn
  exact cturn_L2 h2 hn n 12 0 F 0 (by omega) (by omega) rfl (fun x y _ _ => by rw [if_neg (show ¬ tp 0 0 x y by unfold tp; omega)])
theorem cswap_L28 {n p q : Nat} {F : Nat → Int32} {i2 i3 i4 : Int32} (h4 : i4.toInt = n) (hn : n ≤ 9) (h2 : i2.toInt = p) (h3 : i3.toInt = q) (hp : p < n) (hq : q < n) : ∀ (r c : Nat) (i25 : Int32) (f : Nat → Int32) (k : Nat), k + r = n → r < c → i25.toInt = k → (∀ x y, x < 9 → y < 9 → G f x y = if x < k then G F x (sw p q y) else G F x y) → Ok (LX1_exchangePlaces_L28 i2 i3 i4 c i25 f) (fun z => ∀ x y, x < 9 → y < 9 → G z x y = if x < n then G F x (sw p q y) else G F x y) := by
  intro r
  induction r with
  | zero =>
    intro c i25 f k hk hc h25 hf
    cases c with
    | zero => omega
    | succ c =>
      show Ok (BX1_exchangePlaces_L28 i2 i3 i4 i25 f (fun a b => LX1_exchangePlaces_L28 i2 i3 i4 c a b)) _
      unfold BX1_exchangePlaces_L28
      have e : k = n := by omega
      subst e
      refine Ok_if (fun _ => Ok_some hf) (fun h => ?_)
      have h := i32nle h
      omega
  | succ r ih =>
    intro c i25 f k hk hc h25 hf
    cases c with
    | zero => omega
    | succ c =>
      show Ok (BX1_exchangePlaces_L28 i2 i3 i4 i25 f (fun a b => LX1_exchangePlaces_L28 i2 i3 i4 c a b)) _
      unfold BX1_exchangePlaces_L28
      have ei := inc_iv (x := i25) (by omega)
      refine Ok_if (fun h => ?_) (fun _ => ?_)
      · have h := i32le h
        omega
      · refine Ok_bind (cells_iv h25 h2 h25 h3 (by omega) (by omega) (by omega) (by omega)) (fun z hz => ?_)
        refine ih c (i25 + 1) z (k + 1) (by omega) (by omega) (by omega) (fun x y hx hy => ?_)
        rw [hz x y hx hy]
        by_cases e : x = k
        · subst e
          have n1 : ∀ y, y < 9 → G f x y = G F x y := fun y hy => by rw [hf x y hx hy, if_neg (by omega)]
          rw [n1 p (by omega), n1 q (by omega), n1 y hy, if_pos (show x < x + 1 by omega)]
          unfold sw
          by_cases c1 : y = q
          · rw [if_pos ⟨rfl, c1⟩]
            by_cases c2 : y = p
            · rw [if_pos c2, ← c2, ← c1]
            · rw [if_neg c2, if_pos c1]
          · rw [if_neg (fun q2 => c1 q2.2)]
            by_cases c2 : y = p
            · rw [if_pos ⟨rfl, c2⟩, if_pos c2]
            · rw [if_neg (fun q2 => c2 q2.2), if_neg c2, if_neg c1]
        · rw [if_neg (fun q2 => e q2.1), if_neg (fun q2 => e q2.1), hf x y hx hy]
          by_cases c1 : x < k
          · rw [if_pos c1, if_pos (by omega)]
          · rw [if_neg c1, if_neg (by omega)]
theorem cswap_L3 {n p q : Nat} {F : Nat → Int32} {i2 i3 i4 : Int32} {P : (Nat → Int32) → Prop} {k1 : (Nat → Int32) → Option (Nat → Int32)} (h4 : i4.toInt = n) (hn : n ≤ 9) (h2 : i2.toInt = p) (h3 : i3.toInt = q) (hp : p < n) (hq : q < n) (hk : ∀ f, (∀ x y, x < 9 → y < 9 → G f x y = if y < n then G F (sw p q x) y else G F x y) → Ok (k1 f) P) : ∀ (r c : Nat) (i14 : Int32) (f : Nat → Int32) (k : Nat), k + r = n → r < c → i14.toInt = k → (∀ x y, x < 9 → y < 9 → G f x y = if y < k then G F (sw p q x) y else G F x y) → Ok (LX1_exchangePlaces_L3 i2 i3 i4 c i14 f k1) P := by
  intro r
  induction r with
  | zero =>
    intro c i14 f k hk2 hc h14 hf
    cases c with
    | zero => omega
    | succ c =>
      show Ok (BX1_exchangePlaces_L3 i2 i3 i4 i14 f (fun a b => LX1_exchangePlaces_L3 i2 i3 i4 c a b k1) k1) P
      unfold BX1_exchangePlaces_L3
      have e : k = n := by omega
      subst e
      refine Ok_if (fun _ => hk _ hf) (fun h => ?_)
      have h := i32nle h
      omega
  | succ r ih =>
    intro c i14 f k hk2 hc h14 hf
    cases c with
    | zero => omega
    | succ c =>
      show Ok (BX1_exchangePlaces_L3 i2 i3 i4 i14 f (fun a b => LX1_exchangePlaces_L3 i2 i3 i4 c a b k1) k1) P
      unfold BX1_exchangePlaces_L3
      have ei := inc_iv (x := i14) (by omega)
      refine Ok_if (fun h => ?_) (fun _ => ?_)
      · have h := i32le h
        omega
      · refine Ok_bind (cells_iv h2 h14 h3 h14 (by omega) (by omega) (by omega) (by omega)) (fun z hz => ?_)
        refine ih c (i14 + 1) z (k + 1) (by omega) (by omega) (by omega) (fun x y hx hy => ?_)
        rw [hz x y hx hy]
        by_cases e : y = k
        · subst e
          have n1 : ∀ x, x < 9 → G f x y = G F x y := fun x hx => by rw [hf x y hx hy, if_neg (by omega)]
          rw [n1 p (by omega), n1 q (by omega), n1 x hx, if_pos (show y < y + 1 by omega)]
          unfold sw
          by_cases c1 : x = q
          · rw [if_pos ⟨c1, rfl⟩]
            by_cases c2 : x = p
            · rw [if_pos c2, ← c2, ← c1]
            · rw [if_neg c2, if_pos c1]
          · rw [if_neg (fun q2 => c1 q2.1)]
            by_cases c2 : x = p
            · rw [if_pos ⟨c2, rfl⟩, if_pos c2]
            · rw [if_neg (fun q2 => c2 q2.1), if_neg c2, if_neg c1]
        · rw [if_neg (fun q2 => e q2.2), if_neg (fun q2 => e q2.2), hf x y hx hy]
          by_cases c1 : y < k
          · rw [if_pos c1, if_pos (by omega)]
          · rw [if_neg c1, if_neg (by omega)]
theorem cswap_iv {n p q : Nat} {F : Nat → Int32} {i2 i3 i4 : Int32} (h4 : i4.toInt = n) (hn : n ≤ 9) (h2 : i2.toInt = p) (h3 : i3.toInt = q) (hp : p < n) (hq : q < n) (h0 : ∀ a b, a < 9 → b < 9 → (n ≤ a ∨ n ≤ b) → G F a b = 0) : Ok (fX1_exchangePlaces F i2 i3 i4) (swapt n p q F) := by
  unfold fX1_exchangePlaces
  refine cswap_L3 (F := F) h4 hn h2 h3 hp hq (fun f hf => ?_) n 12 0 F 0 (by omega) (by omega) rfl (fun x y _ _ => by rw [if_neg (by omega)])
  refine Ok_mono (cswap_L28 (F := f) h4 hn h2 h3 hp hq n 12 0 f 0 (by omega) (by omega) rfl (fun x y _ _ => by rw [if_neg (by omega)])) (fun z hz x y hx hy => ?_)
  have sx : sw p q x < 9 := by
    rcases Nat.lt_or_ge x n with c | c
    · have := sw_lt hp hq c; omega
    · rw [sw_ge hp hq c]; exact hx
  have sy : sw p q y < 9 := by
    rcases Nat.lt_or_ge y n with c | c
    · have := sw_lt hp hq c; omega
    · rw [sw_ge hp hq c]; exact hy
  rw [hz x y hx hy]
  by_cases c1 : x < n
  · rw [if_pos c1, hf x (sw p q y) hx sy]
    by_cases c2 : y < n
    · rw [if_pos (sw_lt hp hq c2), if_pos ⟨c1, c2⟩]
    · rw [sw_ge hp hq (show n ≤ y by omega), if_neg c2, if_neg (fun q2 => c2 q2.2)]
      exact h0 x y hx hy (Or.inr (by omega))
  · rw [if_neg c1, if_neg (fun q2 => c1 q2.1), hf x y hx hy]
    have e := sw_ge hp hq (show n ≤ x by omega)
    split
    · rw [e]; exact h0 x y hx hy (Or.inl (by omega))
    · exact h0 x y hx hy (Or.inl (by omega))
/-! the net -/
theorem cnext_iv {n p : Nat} {i3 i2 : Int32} (h3 : i3.toInt = n) (hn : n ≤ 9) (h2 : i2.toInt = p) (hp : p < n) : Ok (fX2_nextInCircle i3 i2) (fun z => z.toInt = nxC n p) := by
  unfold fX2_nextInCircle nxC
  have ei := inc_iv (x := i2) (by omega)
  refine Ok_if (fun h => ?_) (fun h => ?_)
  · have h := i32le h
    exact Ok_some (by rw [if_neg (by omega)]; rfl)
  · have h := i32nle h
    exact Ok_some (by rw [if_pos (by omega)]; omega)
theorem cleft_iv {R F : Nat → Int32} {i2 i3 : Int32} {a b : Nat} (h2 : i2.toInt = a) (h3 : i3.toInt = b) (ha : a < 9) (hb : b < 9) (hR : sm R) (hF : sm F) : Ok (fX2_leftOf R F i2 i3) (fun z => z.toInt = lf R F a b) := by
  unfold fX2_leftOf
  refine Ok_bind (at_iv h2 h3 ha hb) (fun z13 h13 => Ok_bind (at_iv h2 h3 ha hb) (fun z14 h14 => Ok_some ?_))
  have r := hR a b ha hb
  have f := hF a b ha hb
  rw [sub_iv (by omega) (by omega), h13, h14]
  rfl
theorem cvalue_iv {n a : Nat} {F : Nat → Int32} {i2 i3 : Int32} (h2 : i2.toInt = n) (h3 : i3.toInt = a) (hn : n ≤ 9) (ha : a < 9) (hF : sm F) : Ok (fX2_valueNow i2 i3 F) (fun z => z.toInt = outF n F a) := by
  unfold fX2_valueNow
  exact Ok_bind (sumFrom_iv h2 h3 hn ha hF) (fun z hz => Ok_some hz)
theorem croom_loop {n : Nat} {R : Nat → Int32} {i2 : Int32} (h2 : i2.toInt = n) (hn : n ≤ 9) (hR : ∀ a b, a < 9 → b < 9 → -50 ≤ G R a b ∧ G R a b ≤ 50) : ∀ (r c : Nat) (i20 i21 : Int32) (k : Nat), k + r = n → r < c → i21.toInt = k → i20.toInt = sumN k (outF n R) → Ok (LX2_roomInAll_L4 i2 R c i20 i21) (fun z => z.toInt = sumN n (outF n R)) := by
  intro r
  induction r with
  | zero =>
    intro c i20 i21 k hk hc h21 h20
    cases c with
    | zero => omega
    | succ c =>
      show Ok (BX2_roomInAll_L4 i2 R i20 i21 (fun a b => LX2_roomInAll_L4 i2 R c a b)) _
      unfold BX2_roomInAll_L4
      have e : k = n := by omega
      subst e
      refine Ok_if (fun _ => Ok_some h20) (fun h => ?_)
      have h := i32nle h
      omega
  | succ r ih =>
    intro c i20 i21 k hk hc h21 h20
    cases c with
    | zero => omega
    | succ c =>
      show Ok (BX2_roomInAll_L4 i2 R i20 i21 (fun a b => LX2_roomInAll_L4 i2 R c a b)) _
      unfold BX2_roomInAll_L4
      have ei := inc_iv (x := i21) (by omega)
      refine Ok_if (fun h => ?_) (fun _ => ?_)
      · have h := i32le h
        omega
      · refine Ok_bind (sumFrom_iv h2 h21 hn (by omega) (fun a b ha hb => by have := hR a b ha hb; omega)) (fun z hz => Ok_nm (fun y wy => ?_))
        have b1 := sumN_b (f := outF n R) (c := 450) k (fun b hb => by
          have := sumN_b (f := G R b) (c := 50) n (fun y hy => hR b y (by omega) (by omega))
          unfold outF
          omega)
        have b2 := sumN_b (f := G R k) (c := 50) n (fun y hy => hR k y (by omega) (by omega))
        have b3 : -450 ≤ outF n R k ∧ outF n R k ≤ 450 := by unfold outF; omega
        refine ih c y (i21 + 1) (k + 1) (by omega) (by omega) (by omega) ?_
        rw [wy, add_iv (by omega) (by omega), h20, hz]
        rfl
theorem croom_iv {n s g : Nat} {R F : Nat → Int32} {i2 : Int32} (hI : FI n s g R F) (h2 : i2.toInt = n) : Ok (fX2_roomInAll i2 R) (fun z => z.toInt = sumN n (outF n R)) := by
  unfold fX2_roomInAll
  have n9 := hI.1
  exact croom_loop h2 hI.1.2 (fun a b ha hb => by have := (hI.2.2.1 a b ha hb).1; omega) n 12 0 0 0 (by omega) (by omega) rfl rfl
theorem carry_iv {F : Nat → Int32} {i2 i3 i4 : Int32} {a b : Nat} (h2 : i2.toInt = a) (h3 : i3.toInt = b) (ha : a < 9) (hb : b < 9) (hab : a ≠ b) (hm : -1000 ≤ i4.toInt ∧ i4.toInt ≤ 1000) (hF : sm F) : Ok (fX2_carry F i2 i3 i4) (fun z => moved F z a b i4.toInt) := by
  unfold fX2_carry
  have f1 := hF a b ha hb
  have f2 := hF b a hb ha
  refine Ok_bind (at_iv h2 h3 ha hb) (fun z12 h12 => Ok_bind (put_iv h2 h3 ha hb) (fun z13 h13 => Ok_bind (at_iv h3 h2 hb ha) (fun z14 h14 => Ok_bind (put_iv h3 h2 hb ha) (fun z15 h15 => Ok_some (fun x y hx hy => ?_)))))
  have e1 : (z12 + i4).toInt = G F a b + i4.toInt := by rw [add_iv (by omega) (by omega), h12]
  have e2 : z14.toInt = G F b a := by rw [h14, h13 b a hb ha, if_neg (fun q => hab q.2)]
  have e3 : (z14 - i4).toInt = G F b a - i4.toInt := by rw [sub_iv (by omega) (by omega), e2]
  rw [h15 x y hx hy, h13 x y hx hy, e1, e3]
  by_cases c1 : x = b ∧ y = a
  · rw [if_pos c1, if_neg (fun q => hab (q.1.symm.trans c1.1)), if_pos c1, c1.1, c1.2]; omega
  · rw [if_neg c1, if_neg c1]
    by_cases c2 : x = a ∧ y = b
    · rw [if_pos c2, if_pos c2, c2.1, c2.2]; omega
    · rw [if_neg c2, if_neg c2]; omega
theorem rat_iv {f : Nat → Int32} {i : Int32} {k : Nat} (hi : i.toInt = k) (hk : k < 10) : Ok (fX4_at f i) (fun z => z = f k) := by
  have h := at4 f (i := i) (by omega) (by omega)
  rw [toNat_iv hi] at h
  exact h
theorem along_loop {F : Nat → Int32} {n K : Nat} {t : Nat → Nat} {f13 : Nat → Int32} {i12 i3 : Int32} (hn : n ≤ 9) (h12 : i12.toInt = (K : Int) + 1) (hK : K ≤ 9) (ht : ∀ i, i ≤ K → t i < n) (hd : dis t K) (hf : ∀ i, i ≤ K → (f13 i).toInt = t i) (hm : -200 ≤ i3.toInt ∧ i3.toInt ≤ 200) (hF : ∀ a b, a < 9 → b < 9 → -100 ≤ G F a b ∧ G F a b ≤ 100) : ∀ (r c : Nat) (i29 : Int32) (f30 : Nat → Int32) (j : Nat), j + r = K → r < c → i29.toInt = (j : Int) + 1 → carried F f30 t i3.toInt j → Ok (LX2_carryAlong_L2 i12 f13 i3 c i29 f30) (fun z => carried F z t i3.toInt K) := by
  intro r
  induction r with
  | zero =>
    intro c i29 f30 j hj hc h29 hC
    cases c with
    | zero => omega
    | succ c =>
      show Ok (BX2_carryAlong_L2 i12 f13 i3 i29 f30 (fun a b => LX2_carryAlong_L2 i12 f13 i3 c a b)) _
      unfold BX2_carryAlong_L2
      have e : j = K := by omega
      subst e
      refine Ok_if (fun _ => Ok_some hC) (fun h => ?_)
      have h := i32nle h
      omega
  | succ r ih =>
    intro c i29 f30 j hj hc h29 hC
    cases c with
    | zero => omega
    | succ c =>
      show Ok (BX2_carryAlong_L2 i12 f13 i3 i29 f30 (fun a b => LX2_carryAlong_L2 i12 f13 i3 c a b)) _
      unfold BX2_carryAlong_L2
      refine Ok_if (fun h => ?_) (fun _ => ?_)
      · have h := i32le h
        omega
      · have ei := inc_iv (x := i29) (by omega)
        have t1 : (1 : Int32).toInt = 1 := rfl
        have es : (i29 - (1 : Int32)).toInt = (j : Int) := by rw [sub_iv (by omega) (by omega)]; omega
        have h29b : i29.toInt = ((j + 1 : Nat) : Int) := by omega
        refine Ok_bind (rat_iv es (by omega)) (fun z31 h31 => Ok_bind (rat_iv h29b (by omega)) (fun z32 h32 => ?_))
        have a := ht j (by omega)
        have b := ht (j + 1) (by omega)
        have hne : t j ≠ t (j + 1) := fun e => (hd j j (by omega) (by omega)).2 ⟨e, e.symm⟩
        have e31 : z31.toInt = t j := by rw [h31]; exact hf j (by omega)
        have e32 : z32.toInt = t (j + 1) := by rw [h32]; exact hf (j + 1) (by omega)
        refine Ok_bind (carry_iv e31 e32 (by omega) (by omega) hne (by omega) (fun x y hx hy => ?_)) (fun z hz => ?_)
        · have k1 := hF x y hx hy
          have k2 := hC x y hx hy
          rcases mvs3 hd i3.toInt x y j (by omega) with ⟨i, -, -, -, i4⟩ | ⟨i, -, -, -, i4⟩ | ⟨i4, -⟩ <;> omega
        · refine ih c (i29 + 1) z (j + 1) (by omega) (by omega) (by omega) (fun x y hx hy => ?_)
          rw [hz x y hx hy, hC x y hx hy]
          show _ = G F x y + (mvs t i3.toInt x y j + (if x = t j ∧ y = t (j + 1) then i3.toInt else 0) - (if x = t (j + 1) ∧ y = t j then i3.toInt else 0))
          omega
theorem along_iv {F : Nat → Int32} {n K : Nat} {t : Nat → Nat} {f13 : Nat → Int32} {i12 i3 : Int32} (hn : n ≤ 9) (h12 : i12.toInt = (K : Int) + 1) (hK : K ≤ 9) (ht : ∀ i, i ≤ K → t i < n) (hd : dis t K) (hf : ∀ i, i ≤ K → (f13 i).toInt = t i) (hm : -200 ≤ i3.toInt ∧ i3.toInt ≤ 200) (hF : ∀ a b, a < 9 → b < 9 → -100 ≤ G F a b ∧ G F a b ≤ 100) : Ok (fX2_carryAlong F i12 f13 i3) (fun z => carried F z t i3.toInt K) := by
  unfold fX2_carryAlong
  exact along_loop hn h12 hK ht hd hf hm hF K 12 1 F 0 (by omega) (by omega) rfl (carried0 F t i3.toInt)
