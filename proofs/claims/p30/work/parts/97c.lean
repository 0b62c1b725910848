/-! LEAST CUTS -/
def firstN (p : Nat → Prop) (N : Nat) (v : Int) : Prop := (v = -1 ∧ ∀ k, k < N → ¬ p k) ∨ ∃ k : Nat, k < N ∧ v = k ∧ p k ∧ ∀ j, j < k → ¬ p j
theorem firstN_only {p : Nat → Prop} {N : Nat} : only1 (firstN p N) := by
  intro x y hx hy
  rcases hx with ⟨a, b⟩ | ⟨k, k1, k2, k3, k4⟩ <;> rcases hy with ⟨a', b'⟩ | ⟨j, j1, j2, j3, j4⟩
  · omega
  · exact absurd j3 (b j j1)
  · exact absurd k3 (b' k k1)
  · have : k = j := Classical.byContradiction (fun q => by
      by_cases w : k < j
      · exact j4 k w k3
      · exact k4 j (by omega) j3)
    omega