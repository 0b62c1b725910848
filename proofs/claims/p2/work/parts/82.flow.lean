/-! THE FLOW: sums, the invariant of a net -/
def sumN : Nat → (Nat → Int) → Int
  | 0, _ => 0
  | k + 1, f => sumN k f + f k
theorem sumN_b {f : Nat → Int} {c : Int} : ∀ (k : Nat), (∀ b, b < k → -c ≤ f b ∧ f b ≤ c) → -(c * k) ≤ sumN k f ∧ sumN k f ≤ c * k
  | 0, _ => by simp [sumN]
  | k + 1, h => by
    have h1 := sumN_b k (fun b hb => h b (by omega))
    have h2 := h k (by omega)
    have e : c * ((k + 1 : Nat) : Int) = c * k + c := by push_cast; rw [Int.mul_add, Int.mul_one]
    unfold sumN
    omega
theorem sumN_eq {f g : Nat → Int} : ∀ (k : Nat), (∀ b, b < k → f b = g b) → sumN k f = sumN k g
  | 0, _ => rfl
  | k + 1, h => by
    unfold sumN
    rw [sumN_eq k (fun b hb => h b (by omega)), h k (by omega)]
theorem sumN_add {f g : Nat → Int} : ∀ (k : Nat), sumN k (fun b => f b + g b) = sumN k f + sumN k g
  | 0 => rfl
  | k + 1 => by
    unfold sumN
    rw [sumN_add k]
    show sumN k f + sumN k g + (f k + g k) = _
    omega
theorem sumN_zero : ∀ (k : Nat), sumN k (fun _ => 0) = 0
  | 0 => rfl
  | k + 1 => by
    unfold sumN
    rw [sumN_zero k]
    rfl
/-- what stands at a pair of places, as a number -/
def G (f : Nat → Int32) (a b : Nat) : Int := (f (a * 9 + b)).toInt
def outF (n : Nat) (F : Nat → Int32) (a : Nat) : Int := sumN n (G F a)
/-- the invariant: places, ends, rooms, flows -/
def FI (n s g : Nat) (R F : Nat → Int32) : Prop :=
  (2 ≤ n ∧ n ≤ 9) ∧ (s < n ∧ g < n ∧ s ≠ g) ∧
  (∀ a b, a < 9 → b < 9 → (0 ≤ G R a b ∧ G R a b ≤ 50) ∧ (a = b ∨ n ≤ a ∨ n ≤ b → G R a b = 0)) ∧
  (∀ a b, a < 9 → b < 9 → G F a b = -G F b a ∧ G F a b ≤ G R a b) ∧
  (∀ a, a < n → a ≠ s → a ≠ g → outF n F a = 0) ∧ 0 ≤ outF n F s
theorem FI.flow {n s g : Nat} {R F : Nat → Int32} (h : FI n s g R F) {a b : Nat} (ha : a < 9) (hb : b < 9) : (-50 ≤ G F a b ∧ G F a b ≤ 50) ∧ (a = b ∨ n ≤ a ∨ n ≤ b → G F a b = 0) := by
  obtain ⟨-, -, h3, h4, -, -⟩ := h
  have r1 := h3 a b ha hb
  have r2 := h3 b a hb ha
  have f1 := h4 a b ha hb
  have f2 := h4 b a hb ha
  refine ⟨by omega, fun hc => ?_⟩
  have e1 := r1.2 hc
  have e2 := r2.2 (by omega)
  omega
theorem FI.value {n s g : Nat} {R F : Nat → Int32} (h : FI n s g R F) : 0 ≤ outF n F s ∧ outF n F s ≤ 450 := by
  have hb := sumN_b (f := G F s) (c := 50) n (fun b hb => (h.flow (by have := h.1; have := h.2.1; omega) (by have := h.1; omega)).1)
  have h1 := h.1
  refine ⟨h.2.2.2.2.2, ?_⟩
  unfold outF
  omega
/-- the sum of a row, as the reference makes it -/
theorem fromPlace_loop {i4 i3 : Int32} {F : Nat → Int32} {n a : Nat} (hn : i4.toInt = n) (ha : i3.toInt = a) (hn9 : n ≤ 9) (ha9 : a < 9) (hF : ∀ b, b < 9 → -50 ≤ G F a b ∧ G F a b ≤ 50) : ∀ (r m : Nat) (i28 i29 : Int32) (k : Nat), k + r = n → r < m → i29.toInt = k → i28.toInt = sumN k (G F a) → Ok (LX8_fromPlace_L5 i4 F i3 m i28 i29) (fun z => z.toInt = sumN n (G F a)) := by
  intro r
  induction r with
  | zero =>
    intro m i28 i29 k hk hm h1 h2
    cases m with
    | zero => omega
    | succ m =>
      show Ok (BX8_fromPlace_L5 i4 F i3 i28 i29 (fun x y => LX8_fromPlace_L5 i4 F i3 m x y)) _
      unfold BX8_fromPlace_L5
      refine Ok_if (fun _ => Ok_some (by rw [h2, show k = n by omega])) (fun h => ?_)
      have h := i32nle h
      omega
  | succ r ih =>
    intro m i28 i29 k hk hm h1 h2
    cases m with
    | zero => omega
    | succ m =>
      show Ok (BX8_fromPlace_L5 i4 F i3 i28 i29 (fun x y => LX8_fromPlace_L5 i4 F i3 m x y)) _
      unfold BX8_fromPlace_L5
      refine Ok_if (fun h => ?_) (fun h => ?_)
      · have h := i32le h
        omega
      · obtain ⟨j, wj⟩ : ∃ j, j = (i3 * (9 : Int32)) + i29 := ⟨_, rfl⟩
        have ej : j.toInt = a * 9 + k := by rw [wj, idx_iv (by clear wj; omega) (by clear wj; omega) (by clear wj; omega) (by clear wj; omega), ha, h1]
        have ei := inc_iv (x := i29) (by clear wj; omega)
        rw [← wj]
        clear wj
        refine Ok_inB (vp_of (by omega) (by omega)) (Ok_nm (fun y wy => ?_))
        have en : j.toNatClampNeg = a * 9 + k := toNat_iv (by omega)
        have hb := sumN_b (f := G F a) (c := 50) k (fun b hb => hF b (by omega))
        have hk2 := hF k (by omega)
        have ey : y.toInt = sumN (k + 1) (G F a) := by
          rw [wy, en, add_iv (by show -2147483648 ≤ i28.toInt + G F a k; omega) (by show i28.toInt + G F a k < 2147483648; omega), h2]
          rfl
        clear wy
        exact ih m y _ (k + 1) (by omega) (by omega) (by rw [ei]; omega) ey
theorem fromPlace_iv {i4 i3 : Int32} {F : Nat → Int32} {n a : Nat} (hn : i4.toInt = n) (ha : i3.toInt = a) (hn9 : n ≤ 9) (ha9 : a < 9) (hF : ∀ b, b < 9 → -50 ≤ G F a b ∧ G F a b ≤ 50) : Ok (fX8_fromPlace i4 F i3) (fun z => z.toInt = outF n F a) := by
  unfold fX8_fromPlace
  exact fromPlace_loop hn ha hn9 ha9 hF n 600 0 0 0 (by omega) (by omega) rfl rfl
