/-! THE DIGEST, on both sides -/
/-! calls of the class within its bounds -/
section XIN
variable {α β : Type}
end XIN
theorem hx2 {l : Int64} : ∀ (e : String) (z : Int32 × Int64), (if e = IOB then (some ((1 : Int32), l)) else if e = IAE then (some ((2 : Int32), l)) else none) = some z → ¬ z.1 = 0 := by
  intro e z h
  split at h
  · cases h
    exact one_ne
  · split at h
    · cases h
      exact two_ne
    · cases h
/-! the class's loops -/
/-! the parts' text, the class's side -/