/-! THE ASKS, sharply. c1, c2: what must hold, or the first or second exception comes; A: what the answer is -/
def CQ (c1 c2 : Prop) (A : Int → Prop) (k : Int32) (out : Int64) : Prop := (¬ c1 ∧ k = 1) ∨ (c1 ∧ ¬ c2 ∧ k = 2) ∨ (c1 ∧ c2 ∧ k = 0 ∧ ∃ v : Int32, out = v.toInt64 ∧ A v.toInt)
def RQ (c1 c2 : Prop) (A : Int → Prop) (t ans : Int32) : Prop := (¬ c1 ∧ t = 1) ∨ (c1 ∧ ¬ c2 ∧ t = 2) ∨ (c1 ∧ c2 ∧ t = 0 ∧ A ans.toInt)
def only1 (A : Int → Prop) : Prop := ∀ x y, A x → A y → x = y
theorem only1_eq (a : Int) : only1 (fun v => v = a) := fun _ _ hx hy => hx.trans hy.symm
theorem CQ.cmp {c1 c2 : Prop} {A : Int → Prop} {k t ans : Int32} {out : Int64} (hu : c1 → c2 → only1 A) (h1 : CQ c1 c2 A k out) (h2 : RQ c1 c2 A t ans) : CMP k out t ans.toInt64 := by
  rcases h1 with ⟨a, b⟩ | ⟨a, b, c⟩ | ⟨a, b, c, v, d1, d2⟩ <;> rcases h2 with ⟨a', b'⟩ | ⟨a', b', c'⟩ | ⟨a', b', c', d'⟩ <;> first
    | exact absurd a' a
    | exact absurd a a'
    | exact absurd b' b
    | exact absurd b b'
    | skip
  · exact ⟨by rw [b, b'], fun q => absurd (b.symm.trans q) one_ne⟩
  · exact ⟨by rw [c, c'], fun q => absurd (c.symm.trans q) two_ne⟩
  · exact ⟨by rw [c, c'], fun _ => by rw [d1]; exact i64eq rfl (hu a b _ _ d' d2)⟩
def XQ (e1 e2 : String) (c1 c2 : Prop) (A : Int → Prop) (z : String ⊕ Int32) : Prop := (¬ c1 ∧ z = .inl e1) ∨ (c1 ∧ ¬ c2 ∧ z = .inl e2) ∨ (c1 ∧ c2 ∧ ∃ v : Int32, z = .inr v ∧ A v.toInt)
theorem xcq1 {x : Option (String ⊕ Int32)} {l : Int64} {c : Prop} {A : Int → Prop} (h : Ok x (XQ IAE IAE c True A)) : Ok (xc x (fun en => if en = IAE then (some ((1 : Int32), l)) else none) (fun z21 => some ((0 : Int32), z21.toInt64))) (fun z => CQ c True A z.1 z.2) := by
  obtain ⟨z, rfl, h2⟩ := h
  rcases h2 with ⟨q, rfl⟩ | ⟨q, p, rfl⟩ | ⟨q, p, v, rfl, d⟩
  · show Ok (if IAE = IAE then (some ((1 : Int32), l)) else none) _
    rw [if_pos rfl]
    exact Ok_some (Or.inl ⟨q, rfl⟩)
  · exact absurd trivial p
  · exact ⟨_, rfl, Or.inr (Or.inr ⟨q, p, rfl, v, rfl, d⟩)⟩
theorem lpQ {α γ : Type} {L : Nat → α → Int32 → Option γ} {P : γ → Prop} {Q : Nat → α → Prop} {n : Nat} (hend : ∀ (c : Nat) (a : α) (i : Int32), i.toInt = (n : Int) → Q n a → Ok (L (c + 1) a i) P) (hstep : ∀ (c : Nat) (a : α) (i : Int32) (k : Nat), k < n → i.toInt = (k : Int) → Q k a → (∀ (a' : α) (i' : Int32), Q (k + 1) a' → i'.toInt = (k : Int) + 1 → Ok (L c a' i') P) → Ok (L (c + 1) a i) P) {c : Nat} {a0 : α} (hc : n < c) (h0 : Q 0 a0) : Ok (L c a0 0) P := by
  have go : ∀ (r c : Nat) (a : α) (i : Int32) (k : Nat), k + r = n → r < c → i.toInt = k → Q k a → Ok (L c a i) P := by
    intro r
    induction r with
    | zero =>
      intro c a i k hk hc hi hQ
      cases c with
      | zero => omega
      | succ c =>
        have e : k = n := by omega
        subst e
        exact hend c a i hi hQ
    | succ r ih =>
      intro c a i k hk hc hi hQ
      cases c with
      | zero => omega
      | succ c => exact hstep c a i k (by omega) hi hQ (fun a' i' h1 h2 => ih c a' i' (k + 1) (by omega) (by omega) (by omega) h1)
  exact go n c a0 0 0 (by omega) hc rfl h0
/-! told -/
/-! house -/
/-! pair -/
/-! value -/