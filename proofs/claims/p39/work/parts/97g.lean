/-! WHAT CAN FLOW AT THE MOST: cuts and flows -/
def RM (n : Nat) (R : Nat → Int32) : Prop := ∀ a b, a < 9 → b < 9 → (0 ≤ G R a b ∧ G R a b ≤ 51) ∧ (a = b ∨ n ≤ a ∨ n ≤ b → G R a b = 0)
theorem FI.rm {n s g : Nat} {R F : Nat → Int32} (h : FI n s g R F) : RM n R := fun a b ha hb => by
  have := h.2.2.1 a b ha hb
  exact ⟨by omega, this.2⟩
theorem RM.ofsame {n : Nat} {R R' : Nat → Int32} (h : RM n R) (hR : same R' R) : RM n R' := fun a b ha hb => by rw [hR a b ha hb]; exact h a b ha hb
/-! most, isMost -/