/-! WHAT A PURE FUNCTION GIVES: Ok x P: x has an answer, and P holds of it -/
section OKS
variable {α β : Type}
def Ok (x : Option α) (P : α → Prop) : Prop := ∃ z, x = some z ∧ P z
theorem Ok_some {P : α → Prop} {a : α} (h : P a) : Ok (some a) P := ⟨a, rfl, h⟩
theorem Ok_mono {x : Option α} {R P : α → Prop} (h : Ok x R) (k : ∀ z, R z → P z) : Ok x P := by
  obtain ⟨z, h1, h2⟩ := h
  exact ⟨z, h1, k z h2⟩
theorem Ok_bind {x : Option α} {f : α → Option β} {R : α → Prop} {P : β → Prop} (h : Ok x R) (k : ∀ z, R z → Ok (f z) P) : Ok (x.bind f) P := by
  obtain ⟨z, rfl, h2⟩ := h
  exact k z h2
theorem Ok_if {c : Prop} {i : Decidable c} {a b : Option α} {P : α → Prop} (h1 : c → Ok a P) (h2 : ¬ c → Ok b P) : Ok (@ite _ c i a b) P := by
  by_cases h : c
  · rw [if_pos h]; exact h1 h
  · rw [if_neg h]; exact h2 h
theorem Ok_inB {i : Int32} {n : Nat} {x : Option α} {P : α → Prop} (h : vp_in i n) (k : Ok x P) : Ok (inB i n x) P := by
  unfold inB
  rw [if_neg h]
  exact k
theorem Ok_nm {a : α} {f : α → Option β} {P : β → Prop} (k : ∀ y, y = a → Ok (f y) P) : Ok (nm a f) P := k a rfl
theorem Ok_jn {γ : Type} {k0 : γ} {B : γ → Option β} {P : β → Prop} (h : ∀ k, k = k0 → Ok (B k) P) : Ok (jn k0 B) P := h k0 rfl
theorem Ok_gd {b : Prop} {i : Decidable b} {x : Option α} {P : α → Prop} (h : b) (k : Ok x P) : Ok (gd b i x) P := by
  unfold gd
  rw [if_pos h]
  exact k
theorem Ok_gP {b : Prop} {x : Option α} {P : α → Prop} (h : b) (k : Ok x P) : Ok (gP b x) P := by
  unfold gP
  rw [if_pos h]
  exact k
theorem Ok_nN {v : Int32} {N : Nat} {x : Option α} {P : α → Prop} (h1 : 0 ≤ v.toInt) (h2 : v.toInt ≤ N) (k : Ok x P) : Ok (nN v N x) P := by
  unfold nN
  rw [if_neg]
  · exact k
  · rintro (h | h)
    · exact absurd (Int32.lt_iff_toInt_lt.mp h) (by have e : (0 : Int32).toInt = 0 := rfl; omega)
    · have e : v.toNatClampNeg = v.toInt.toNat := rfl
      omega
theorem Ok_bz {v : Int32} {x : Option α} {P : α → Prop} (h : v = 0 ∨ v = 1) (k : Ok x P) : Ok (bz v x) P := by
  unfold bz
  rw [if_pos h]
  exact k
theorem Ok_nz {v : Int32} {x : Option α} {P : α → Prop} (h : ¬ v = 0) (k : Ok x P) : Ok (nz v x) P := by
  unfold nz
  rw [if_neg h]
  exact k
theorem Ok_oc {r : Option (Nat × (Nat → Int32))} {a : Option β} {b : Nat → (Nat → Int32) → Option β} {P : β → Prop} (h1 : r = none → Ok a P) (h2 : ∀ n f, r = some (n, f) → Ok (b n f) P) : Ok (oc r a b) P := by
  cases r with
  | none => exact h1 rfl
  | some q => exact h2 q.1 q.2 rfl
def Sx (es : List String) (N : Prop) (R : α → Prop) : String ⊕ α → Prop
  | .inl e => e ∈ es ∧ ¬ N
  | .inr z => R z
theorem Ok_xb {x : Option (String ⊕ α)} {f : α → Option (String ⊕ β)} {es : List String} {N : Prop} {R : α → Prop} {P : String ⊕ β → Prop} (h : Ok x (Sx es N R)) (k1 : ∀ e, e ∈ es → ¬ N → P (.inl e)) (k2 : ∀ z, R z → Ok (f z) P) : Ok (xb x f) P := by
  obtain ⟨z, rfl, h2⟩ := h
  cases z with
  | inl e => exact ⟨.inl e, rfl, k1 e h2.1 h2.2⟩
  | inr z => exact k2 z h2
theorem Ok_x0 {x : Option (String ⊕ α)} {f : α → Option β} {es : List String} {N : Prop} {R : α → Prop} {P : β → Prop} (h : Ok x (Sx es N R)) (hN : N) (k2 : ∀ z, R z → Ok (f z) P) : Ok (x0 x f) P := by
  obtain ⟨z, rfl, h2⟩ := h
  cases z with
  | inl e => exact absurd hN h2.2
  | inr z => exact k2 z h2
theorem Ok_xc {x : Option (String ⊕ α)} {hx : String → Option β} {f : α → Option β} {es : List String} {N : Prop} {R : α → Prop} {P : β → Prop} (h : Ok x (Sx es N R)) (k1 : ∀ e, e ∈ es → ¬ N → Ok (hx e) P) (k2 : ∀ z, R z → Ok (f z) P) : Ok (xc x hx f) P := by
  obtain ⟨z, rfl, h2⟩ := h
  cases z with
  | inl e => exact k1 e h2.1 h2.2
  | inr z => exact k2 z h2
end OKS
/-! numbers -/
theorem bmod32 {n : Int} (h1 : -2147483648 ≤ n) (h2 : n < 2147483648) : n.bmod (2 ^ 32) = n := by
  rw [Int.bmod_def]
  split <;> omega
theorem add_iv {x y : Int32} (h1 : -2147483648 ≤ x.toInt + y.toInt) (h2 : x.toInt + y.toInt < 2147483648) : (x + y).toInt = x.toInt + y.toInt := by
  rw [Int32.toInt_add]; exact bmod32 h1 h2
theorem sub_iv {x y : Int32} (h1 : -2147483648 ≤ x.toInt - y.toInt) (h2 : x.toInt - y.toInt < 2147483648) : (x - y).toInt = x.toInt - y.toInt := by
  rw [Int32.toInt_sub]; exact bmod32 h1 h2
theorem mul_iv {x y : Int32} (h1 : -2147483648 ≤ x.toInt * y.toInt) (h2 : x.toInt * y.toInt < 2147483648) : (x * y).toInt = x.toInt * y.toInt := by
  rw [Int32.toInt_mul]; exact bmod32 h1 h2
theorem neg_iv {x : Int32} (h1 : -2147483647 ≤ x.toInt) : (-x).toInt = -x.toInt := by
  rw [Int32.toInt_neg]; exact bmod32 (by have := Int32.toInt_lt x; omega) (by omega)
theorem inc_iv {x : Int32} (h : x.toInt < 2147483647) : (x + (1 : Int32)).toInt = x.toInt + 1 := add_iv (y := 1) (by have := Int32.le_toInt x; have e : (1 : Int32).toInt = 1 := rfl; omega) (by have e : (1 : Int32).toInt = 1 := rfl; omega)
theorem dec_iv {x : Int32} (h : -2147483648 < x.toInt) : (x - (1 : Int32)).toInt = x.toInt - 1 := sub_iv (y := 1) (by have e : (1 : Int32).toInt = 1 := rfl; omega) (by have := Int32.toInt_lt x; have e : (1 : Int32).toInt = 1 := rfl; omega)
theorem decp_iv {x : Int32} (h : -2147483648 < x.toInt) : (x + (-1 : Int32)).toInt = x.toInt - 1 := by
  have e : (-1 : Int32).toInt = -1 := rfl
  rw [add_iv (y := -1) (by omega) (by have := Int32.toInt_lt x; omega), e]; omega
theorem idx_iv {x y : Int32} (h1 : 0 ≤ x.toInt) (h2 : x.toInt < 9) (h3 : 0 ≤ y.toInt) (h4 : y.toInt < 9) : ((x * (9 : Int32)) + y).toInt = x.toInt * 9 + y.toInt := by
  have e : (9 : Int32).toInt = 9 := rfl
  have h5 : (x * (9 : Int32)).toInt = x.toInt * 9 := by rw [Int32.toInt_mul, e]; exact bmod32 (by omega) (by omega)
  rw [add_iv (by omega) (by omega), h5]
theorem vp_of {i : Int32} {n : Nat} (h1 : 0 ≤ i.toInt) (h2 : i.toInt < n) : vp_in i n := by
  rintro (h | h)
  · exact absurd (Int32.lt_iff_toInt_lt.mp h) (by have e : (0 : Int32).toInt = 0 := rfl; omega)
  · have e : i.toNatClampNeg = i.toInt.toNat := rfl
    omega
theorem i32eq {x y : Int32} (h : x = y) : x.toInt = y.toInt := by rw [h]
theorem i32lt {x y : Int32} (h : x < y) : x.toInt < y.toInt := Int32.lt_iff_toInt_lt.mp h
theorem i32le {x y : Int32} (h : x ≤ y) : x.toInt ≤ y.toInt := Int32.le_iff_toInt_le.mp h
theorem i32nlt {x y : Int32} (h : ¬ x < y) : y.toInt ≤ x.toInt := Int.not_lt.mp (mt Int32.lt_iff_toInt_lt.mpr h)
theorem i32nle {x y : Int32} (h : ¬ x ≤ y) : y.toInt < x.toInt := Int.not_le.mp (mt Int32.le_iff_toInt_le.mpr h)
theorem i32b {x : Int32} : -2147483648 ≤ x.toInt ∧ x.toInt < 2147483648 := ⟨Int32.le_toInt x, Int32.toInt_lt x⟩
theorem bz_of {v : Int32} (h1 : 0 ≤ v.toInt) (h2 : v.toInt ≤ 1) : v = 0 ∨ v = 1 := by
  rcases (show v.toInt = 0 ∨ v.toInt = 1 by omega) with h | h
  · exact Or.inl (Int32.toInt_inj.mp h)
  · exact Or.inr (Int32.toInt_inj.mp h)
theorem tl0 : (0 : Int32).toInt = 0 := rfl
theorem tl1 : (1 : Int32).toInt = 1 := rfl
theorem tl2 : (2 : Int32).toInt = 2 := rfl
theorem tl3 : (3 : Int32).toInt = 3 := rfl
theorem tl4 : (4 : Int32).toInt = 4 := rfl
theorem tl5 : (5 : Int32).toInt = 5 := rfl
theorem tl6 : (6 : Int32).toInt = 6 := rfl
theorem tl8 : (8 : Int32).toInt = 8 := rfl
theorem tl9 : (9 : Int32).toInt = 9 := rfl
theorem tl10 : (10 : Int32).toInt = 10 := rfl
theorem tl50 : (50 : Int32).toInt = 50 := rfl
theorem tl81 : (81 : Int32).toInt = 81 := rfl
theorem tl100 : (100 : Int32).toInt = 100 := rfl
theorem tl1000 : (1000 : Int32).toInt = 1000 := rfl
theorem tl9999 : (9999 : Int32).toInt = 9999 := rfl
theorem tlm1 : (-1 : Int32).toInt = -1 := rfl
theorem tlm9 : (-9 : Int32).toInt = -9 := rfl
theorem tlm50 : (-50 : Int32).toInt = -50 := rfl
theorem tl2147483647 : (2147483647 : Int32).toInt = 2147483647 := rfl
