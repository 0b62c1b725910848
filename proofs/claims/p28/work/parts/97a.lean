/-! THE ASKS, sharply. c1, c2: what must hold, or the first or second exception comes; A: what the answer is -/
theorem lpQ {α γ : Type} {L : Nat → α → Int32 → Option γ} {P : γ → Prop} {Q : Nat → α → Prop} {n : Nat} (hend : ∀ (c : Nat) (a : α) (i : Int32), i.toInt = (n : Int) → Q n a → Ok (L (c + 1) a i) P) (hstep : ∀ (c : Nat) (a : α) (i : Int32) (k : Nat), k < n → i.toInt = (k : Int) → Q k a → (∀ (a' : α) (i' : Int32), Q (k + 1) a' → i'.toInt = (k : Int) + 1 → Ok (L c a' i') P) → Ok (L (c + 1) a i) P) {c : Nat} {a0 : α} (hc : n < c) (h0 : Q 0 a0) : Ok (L c a0 0) P := by
  have go : ∀ (r c : Nat) (a : α) (i : Int32) (k : Nat), k + r = n → r < c → i.toInt = k → Q k a → Ok (L c a i) P := by
    intro r
    induction r with
    | zero =>
      intro c a i k hk hc hi hQ
      cases c with
      | zero => omega
      | succ c =>
        have e : k = n := by omega
        subst e
        exact hend c a i hi hQ
    | succ r ih =>
      intro c a i k hk hc hi hQ
      cases c with
      | zero => omega
      | succ c => exact hstep c a i k (by omega) hi hQ (fun a' i' h1 h2 => ih c a' i' (k + 1) (by omega) (by omega) (by omega) h1)
  exact go n c a0 0 0 (by omega) hc rfl h0
/-! told -/
/-! house -/
/-! pair -/
/-! value -/