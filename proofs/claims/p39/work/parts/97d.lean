/-! LAYER -/
def Fw (n : Nat) (E : Nat → Nat → Prop) (s : Nat) : Nat → Nat → Prop
  | 0, x => x = s
  | k + 1, x => Fw n E s k x ∨ (x < n ∧ ∃ y, y < n ∧ E y x ∧ Fw n E s k y)
theorem Cm.snoc {n x y : Nat} {E : Nat → Nat → Prop} (hx : x < n) (hy : y < n) (hE : E y x) : ∀ (k a : Nat), Cm n E nowhere y k a → Cm n E nowhere x (k + 1) a
  | 0, a, h => by
    have h : a = y := h
    subst h
    exact Or.inr ⟨hy, id, x, hx, hE, rfl⟩
  | k + 1, a, h => by
    rcases h with h | ⟨h1, h2, z, h3, h4, h5⟩
    · exact Or.inl (Cm.snoc hx hy hE k a h)
    · exact Or.inr ⟨h1, h2, z, h3, h4, Cm.snoc hx hy hE k z h5⟩
theorem Fw.Cm {n s : Nat} {E : Nat → Nat → Prop} : ∀ (k x : Nat), Fw n E s k x → Cm n E nowhere x k s
  | 0, x, h => Eq.symm h
  | k + 1, x, h => by
    rcases h with h | ⟨h1, y, h2, h3, h4⟩
    · exact Or.inl (Fw.Cm k x h)
    · exact Cm.snoc h1 h2 h3 k s (Fw.Cm k y h4)
theorem Fw.cons {n s z : Nat} {E : Nat → Nat → Prop} (hz : z < n) (hs : s < n) (hE : E s z) : ∀ (k x : Nat), Fw n E z k x → Fw n E s (k + 1) x
  | 0, x, h => by
    have h : x = z := h
    subst h
    exact Or.inr ⟨hz, s, hs, hE, rfl⟩
  | k + 1, x, h => by
    rcases h with h | ⟨h1, y, h2, h3, h4⟩
    · exact Or.inl (Fw.cons hz hs hE k x h)
    · exact Or.inr ⟨h1, y, h2, h3, Fw.cons hz hs hE k y h4⟩
theorem Cm.Fw {n x : Nat} {E : Nat → Nat → Prop} : ∀ (k a : Nat), Cm n E nowhere x k a → Fw n E a k x
  | 0, a, h => Eq.symm h
  | k + 1, a, h => by
    rcases h with h | ⟨h1, h2, z, h3, h4, h5⟩
    · exact Or.inl (Cm.Fw k a h)
    · exact Fw.cons h3 h1 h4 k x (Cm.Fw k z h5)