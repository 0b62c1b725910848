/-! THE FLOW: sums, the invariant of a net -/
def sumN : Nat → (Nat → Int) → Int
  | 0, _ => 0
  | k + 1, f => sumN k f + f k
theorem sumN_b {f : Nat → Int} {c : Int} : ∀ (k : Nat), (∀ b, b < k → -c ≤ f b ∧ f b ≤ c) → -(c * k) ≤ sumN k f ∧ sumN k f ≤ c * k
  | 0, _ => by simp [sumN]
  | k + 1, h => by
    have h1 := sumN_b k (fun b hb => h b (by omega))
    have h2 := h k (by omega)
    have e : c * ((k + 1 : Nat) : Int) = c * k + c := by push_cast; rw [Int.mul_add, Int.mul_one]
    unfold sumN
    omega
theorem sumN_eq {f g : Nat → Int} : ∀ (k : Nat), (∀ b, b < k → f b = g b) → sumN k f = sumN k g
  | 0, _ => rfl
  | k + 1, h => by
    unfold sumN
    rw [sumN_eq k (fun b hb => h b (by omega)), h k (by omega)]
theorem sumN_add {f g : Nat → Int} : ∀ (k : Nat), sumN k (fun b => f b + g b) = sumN k f + sumN k g
  | 0 => rfl
  | k + 1 => by
    unfold sumN
    rw [sumN_add k]
    show sumN k f + sumN k g + (f k + g k) = _
    omega
theorem sumN_zero : ∀ (k : Nat), sumN k (fun _ => 0) = 0
  | 0 => rfl
  | k + 1 => by
    unfold sumN
    rw [sumN_zero k]
    rfl
def G (f : Nat → Int32) (a b : Nat) : Int := (f (a * 9 + b)).toInt
def outF (n : Nat) (F : Nat → Int32) (a : Nat) : Int := sumN n (G F a)
def FI (n s g : Nat) (R F : Nat → Int32) : Prop :=
  (2 ≤ n ∧ n ≤ 9) ∧ (s < n ∧ g < n ∧ s ≠ g) ∧
  (∀ a b, a < 9 → b < 9 → (0 ≤ G R a b ∧ G R a b ≤ 50) ∧ (a = b ∨ n ≤ a ∨ n ≤ b → G R a b = 0)) ∧
  (∀ a b, a < 9 → b < 9 → G F a b = -G F b a ∧ G F a b ≤ G R a b) ∧
  (∀ a, a < n → a ≠ s → a ≠ g → outF n F a = 0) ∧ 0 ≤ outF n F s
theorem FI.flow {n s g : Nat} {R F : Nat → Int32} (h : FI n s g R F) {a b : Nat} (ha : a < 9) (hb : b < 9) : (-50 ≤ G F a b ∧ G F a b ≤ 50) ∧ (a = b ∨ n ≤ a ∨ n ≤ b → G F a b = 0) := by
  obtain ⟨-, -, h3, h4, -, -⟩ := h
  have r1 := h3 a b ha hb
  have r2 := h3 b a hb ha
  have f1 := h4 a b ha hb
  have f2 := h4 b a hb ha
  refine ⟨by omega, fun hc => ?_⟩
  have e1 := r1.2 hc
  have e2 := r2.2 (by omega)
  omega
theorem FI.value {n s g : Nat} {R F : Nat → Int32} (h : FI n s g R F) : 0 ≤ outF n F s ∧ outF n F s ≤ 450 := by
  have hb := sumN_b (f := G F s) (c := 50) n (fun b hb => (h.flow (by have := h.1; have := h.2.1; omega) (by have := h.1; omega)).1)
  have h1 := h.1
  refine ⟨h.2.2.2.2.2, ?_⟩
  unfold outF
  omega
theorem fromPlace_loop {i4 i3 : Int32} {F : Nat → Int32} {n a : Nat} (hn : i4.toInt = n) (ha : i3.toInt = a) (hn9 : n ≤ 9) (ha9 : a < 9) (hF : ∀ b, b < 9 → -50 ≤ G F a b ∧ G F a b ≤ 50) : ∀ (r m : Nat) (i28 i29 : Int32) (k : Nat), k + r = n → r < m → i29.toInt = k → i28.toInt = sumN k (G F a) → Ok (LX8_fromPlace_L5 i4 F i3 m i28 i29) (fun z => z.toInt = sumN n (G F a)) := by
  intro r
  induction r with
  | zero =>
    intro m i28 i29 k hk hm h1 h2
    cases m with
    | zero => omega
    | succ m =>
      show Ok (BX8_fromPlace_L5 i4 F i3 i28 i29 (fun x y => LX8_fromPlace_L5 i4 F i3 m x y)) _
      unfold BX8_fromPlace_L5
      refine Ok_if (fun _ => Ok_some (by rw [h2, show k = n by omega])) (fun h => ?_)
      have h := i32nle h
      omega
  | succ r ih =>
    intro m i28 i29 k hk hm h1 h2
    cases m with
    | zero => omega
    | succ m =>
      show Ok (BX8_fromPlace_L5 i4 F i3 i28 i29 (fun x y => LX8_fromPlace_L5 i4 F i3 m x y)) _
      unfold BX8_fromPlace_L5
      refine Ok_if (fun h => ?_) (fun h => ?_)
      · have h := i32le h
        omega
      · obtain ⟨j, wj⟩ : ∃ j, j = (i3 * (9 : Int32)) + i29 := ⟨_, rfl⟩
        have ej : j.toInt = a * 9 + k := by rw [wj, idx_iv (by clear wj; omega) (by clear wj; omega) (by clear wj; omega) (by clear wj; omega), ha, h1]
        have ei := inc_iv (x := i29) (by clear wj; omega)
        rw [← wj]
        clear wj
        refine Ok_inB (vp_of (by omega) (by omega)) (Ok_nm (fun y wy => ?_))
        have en : j.toNatClampNeg = a * 9 + k := toNat_iv (by omega)
        have hb := sumN_b (f := G F a) (c := 50) k (fun b hb => hF b (by omega))
        have hk2 := hF k (by omega)
        have ey : y.toInt = sumN (k + 1) (G F a) := by
          rw [wy, en, add_iv (by show -2147483648 ≤ i28.toInt + G F a k; omega) (by show i28.toInt + G F a k < 2147483648; omega), h2]
          rfl
        clear wy
        exact ih m y _ (k + 1) (by omega) (by omega) (by rw [ei]; omega) ey
theorem fromPlace_iv {i4 i3 : Int32} {F : Nat → Int32} {n a : Nat} (hn : i4.toInt = n) (ha : i3.toInt = a) (hn9 : n ≤ 9) (ha9 : a < 9) (hF : ∀ b, b < 9 → -50 ≤ G F a b ∧ G F a b ≤ 50) : Ok (fX8_fromPlace i4 F i3) (fun z => z.toInt = outF n F a) := by
  unfold fX8_fromPlace
  exact fromPlace_loop hn ha hn9 ha9 hF n 600 0 0 0 (by omega) (by omega) rfl rfl
theorem sumN_one {f g : Nat → Int} {c : Nat} {d : Int} : ∀ (k : Nat), (∀ b, b < k → g b = f b + (if b = c then d else 0)) → sumN k g = sumN k f + (if c < k then d else 0)
  | 0, _ => by simp [sumN]
  | k + 1, h => by
    have h1 := sumN_one k (fun b hb => h b (by omega))
    have h2 := h k (by omega)
    unfold sumN
    rw [h1, h2]
    by_cases e : k = c
    · rw [if_pos e, if_neg (by omega), if_pos (by omega)]; omega
    · rw [if_neg e]
      by_cases e2 : c < k
      · rw [if_pos e2, if_pos (by omega)]; omega
      · rw [if_neg e2, if_neg (by omega)]; omega
theorem idx_inj {a b x y : Nat} (hb : b < 9) (hy : y < 9) (h : a * 9 + b = x * 9 + y) : a = x ∧ b = y := by omega
def moved (F F' : Nat → Int32) (a b : Nat) (m : Int) : Prop := ∀ x y, x < 9 → y < 9 → G F' x y = G F x y + (if x = a ∧ y = b then m else 0) - (if x = b ∧ y = a then m else 0)
theorem flowOn_iv {F : Nat → Int32} {i2 i3 i4 : Int32} {a b : Nat} {m : Int} (h2 : i2.toInt = a) (h3 : i3.toInt = b) (h4 : i4.toInt = m) (ha : a < 9) (hb : b < 9) (hab : a ≠ b) (hm : -1000 ≤ m ∧ m ≤ 1000) (hF : ∀ x y, x < 9 → y < 9 → -1000 ≤ G F x y ∧ G F x y ≤ 1000) : Ok (fX8_flowOn F i2 i3 i4) (fun z => moved F z a b m ∧ ∀ k, 81 ≤ k → z k = F k) := by
  unfold fX8_flowOn
  obtain ⟨j, wj⟩ : ∃ j, j = (i2 * (9 : Int32)) + i3 := ⟨_, rfl⟩
  obtain ⟨l, wl⟩ : ∃ l, l = (i3 * (9 : Int32)) + i2 := ⟨_, rfl⟩
  have ej : j.toInt = a * 9 + b := by rw [wj, idx_iv (by clear wj wl; omega) (by clear wj wl; omega) (by clear wj wl; omega) (by clear wj wl; omega), h2, h3]
  have el : l.toInt = b * 9 + a := by rw [wl, idx_iv (by clear wj wl; omega) (by clear wj wl; omega) (by clear wj wl; omega) (by clear wj wl; omega), h2, h3]
  rw [← wj, ← wl]
  clear wj wl
  have nj : j.toNatClampNeg = a * 9 + b := toNat_iv (by omega)
  have nl : l.toNatClampNeg = b * 9 + a := toNat_iv (by omega)
  refine Ok_inB (vp_of (by omega) (by omega)) (Ok_inB (vp_of (by omega) (by omega)) (Ok_inB (vp_of (by omega) (by omega)) (Ok_inB (vp_of (by omega) (by omega)) (Ok_some ?_))))
  rw [nj, nl]
  have g1 := hF a b ha hb
  have g2 := hF b a hb ha
  have hne : b * 9 + a ≠ a * 9 + b := fun e => hab (idx_inj ha hb e).1.symm
  have e1 : (F (a * 9 + b) + i4).toInt = G F a b + m := by
    rw [add_iv (by show -2147483648 ≤ G F a b + i4.toInt; omega) (by show G F a b + i4.toInt < 2147483648; omega), h4]; rfl
  have e2 : (F (b * 9 + a) - i4).toInt = G F b a - m := by
    rw [sub_iv (by show -2147483648 ≤ G F b a - i4.toInt; omega) (by show G F b a - i4.toInt < 2147483648; omega), h4]; rfl
  have u1 : upd F (a * 9 + b) (F (a * 9 + b) + i4) (b * 9 + a) = F (b * 9 + a) := by unfold upd; rw [if_neg hne]
  rw [u1]
  refine ⟨fun x y hx hy => ?_, fun k hk => ?_⟩
  · unfold G upd
    by_cases c2 : x * 9 + y = b * 9 + a
    · have q := idx_inj hy ha c2
      rw [if_pos c2, e2, if_neg (by omega), if_pos q, q.1, q.2]
      unfold G
      omega
    · rw [if_neg c2]
      by_cases c1 : x * 9 + y = a * 9 + b
      · have q := idx_inj hy hb c1
        rw [if_pos c1, e1, if_pos q, if_neg (by omega), q.1, q.2]
        unfold G
        omega
      · rw [if_neg c1, if_neg (fun q => c1 (by rw [q.1, q.2])), if_neg (fun q => c2 (by rw [q.1, q.2]))]
        omega
  · unfold upd
    rw [if_neg (by omega), if_neg (by omega)]
theorem moved.out {F F' : Nat → Int32} {a b : Nat} {m : Int} {n : Nat} (h : moved F F' a b m) (hn : n ≤ 9) (ha : a < n) (hb : b < n) (hab : a ≠ b) {x : Nat} (hx : x < n) : outF n F' x = outF n F x + (if x = a then m else 0) - (if x = b then m else 0) := by
  unfold outF
  by_cases e1 : x = a
  · have k := sumN_one (f := G F x) (g := G F' x) (c := b) (d := m) n (fun y hy => by
      rw [h x y (by omega) (by omega), if_neg (show ¬ (x = b ∧ y = a) from fun q => hab (e1.symm.trans q.1))]
      by_cases e : y = b
      · rw [if_pos ⟨e1, e⟩, if_pos e]; omega
      · rw [if_neg (fun q => e q.2), if_neg e]; omega)
    rw [k, if_pos hb, if_pos e1, if_neg (fun q => hab (e1.symm.trans q))]
    omega
  · by_cases e2 : x = b
    · have k := sumN_one (f := G F x) (g := G F' x) (c := a) (d := -m) n (fun y hy => by
        rw [h x y (by omega) (by omega), if_neg (show ¬ (x = a ∧ y = b) from fun q => e1 q.1)]
        by_cases e : y = a
        · rw [if_pos ⟨e2, e⟩, if_pos e]; omega
        · rw [if_neg (fun q => e q.2), if_neg e]; omega)
      rw [k, if_pos ha, if_neg e1, if_pos e2]
      omega
    · rw [sumN_eq n (fun y hy => by rw [h x y (by omega) (by omega), if_neg (fun q => e1 q.1), if_neg (fun q => e2 q.1)]; omega : ∀ y, y < n → G F' x y = G F x y), if_neg e1, if_neg e2]
      omega
def let_ (R F : Nat → Int32) : Prop := ∀ a b, a < 9 → b < 9 → G F a b = -G F b a ∧ G F a b ≤ G R a b
theorem moved.let_ {R F F' : Nat → Int32} {a b : Nat} {m : Int} (h : moved F F' a b m) (ha : a < 9) (hb : b < 9) (hab : a ≠ b) (hm : 0 ≤ m) (hR : G F a b + m ≤ G R a b) (hl : let_ R F) : let_ R F' := by
  intro x y hx hy
  have k1 := hl x y hx hy
  have k2 := hl y x hy hx
  rw [h x y hx hy, h y x hy hx]
  by_cases c1 : x = a ∧ y = b
  · rw [if_pos c1, if_neg (show ¬ (x = b ∧ y = a) from fun q => hab (c1.1.symm.trans q.1)), if_neg (show ¬ (y = a ∧ x = b) from fun q => hab (c1.1.symm.trans q.2)), if_pos (show y = b ∧ x = a from ⟨c1.2, c1.1⟩)]
    rw [c1.1, c1.2] at k1 k2 ⊢
    omega
  · by_cases c2 : x = b ∧ y = a
    · rw [if_neg c1, if_pos c2, if_pos (show y = a ∧ x = b from ⟨c2.2, c2.1⟩), if_neg (show ¬ (y = b ∧ x = a) from fun q => c1 ⟨q.2, q.1⟩)]
      omega
    · rw [if_neg c1, if_neg c2, if_neg (show ¬ (y = a ∧ x = b) from fun q => c2 ⟨q.2, q.1⟩), if_neg (show ¬ (y = b ∧ x = a) from fun q => c1 ⟨q.2, q.1⟩)]
      omega
