/-! words of a table, found by one pass over it -/
def twW (l : List Cond) (k : Cond → List Cond → Bool) : Bool := match l with
  | [] => false
  | c :: r => k c r
theorem twW_ok {l : List Cond} {k : Cond → List Cond → Bool} (h : twW l k = true) : ∃ c r, l = c :: r ∧ k c r = true := by
  cases l with
  | nil => cases h
  | cons c r => exact ⟨c, r, rfl, h⟩
theorem ba_eq {a b : ByteArray} (h : a.data.toList = b.data.toList) : a = b := by
  obtain ⟨⟨a⟩⟩ := a
  obtain ⟨⟨b⟩⟩ := b
  exact congrArg (fun l => (⟨⟨l⟩⟩ : ByteArray)) h
/-- whether two words are the same; bytes are held side by side as lists -/
def eqC (c w : Cond) : Bool := match c, w with
  | .code y b n r, .code y' b' n' r' => decide ((y, n, r) = (y', n', r')) && decide (b.data.toList = b'.data.toList)
  | .codeWith y b n r h, .codeWith y' b' n' r' h' => decide ((y, n, r) = (y', n', r')) && (decide (h = h') && decide (b.data.toList = b'.data.toList))
  | c, w => decide (c = w)
theorem eqC_ok {c w : Cond} (h : eqC c w = true) : c = w := by
  unfold eqC at h
  split at h
  · have h := Bool.and_eq_true_iff.mp h
    have e1 := of_decide_eq_true h.1
    have e2 := ba_eq (of_decide_eq_true h.2)
    cases e1
    rw [e2]
  · have h := Bool.and_eq_true_iff.mp h
    have h2 := Bool.and_eq_true_iff.mp h.2
    have e1 := of_decide_eq_true h.1
    have e2 := ba_eq (of_decide_eq_true h2.2)
    have e3 := of_decide_eq_true h2.1
    cases e1
    rw [e2, e3]
  · exact of_decide_eq_true h
def twP (g : Cond → Bool) : List (Nat × Cond) → List Cond → Bool
  | [], _ => true
  | (n, w) :: ps, l => twW (l.drop n) (fun c r => eqC c w && (g w && twP g ps r))
theorem twP_ok {g : Cond → Bool} : ∀ (ps : List (Nat × Cond)) (l : List Cond), twP g ps l = true → ∀ q ∈ ps, q.2 ∈ l ∧ g q.2 = true := by
  intro ps
  induction ps with
  | nil => intro l _ q hq; cases hq
  | cons p ps ih =>
    obtain ⟨n, w⟩ := p
    intro l h q hq
    unfold twP at h
    obtain ⟨c, r, e, h1⟩ := twW_ok h
    have h1 := Bool.and_eq_true_iff.mp h1
    have h2 := Bool.and_eq_true_iff.mp h1.2
    have ec : c = w := eqC_ok h1.1
    subst ec
    rcases List.mem_cons.mp hq with e' | e'
    · rw [e']
      exact ⟨List.mem_of_mem_drop (by rw [e]; exact List.mem_cons_self), h2.1⟩
    · have := ih r h2.2 q e'
      exact ⟨List.mem_of_mem_drop (by rw [e]; exact List.mem_cons_of_mem _ this.1), this.2⟩
theorem twP_all {ps : List (Nat × Cond)} {T : List Cond} (h : twP (fun _ => true) ps T = true) : ∀ q ∈ ps, q.2 ∈ T := fun q hq => (twP_ok _ _ h q hq).1
theorem twX {T : List Cond} {L : List (Nat × Cond)} (h : ∀ q ∈ L, q.2 ∈ T) (j : Nat) {g : Nat} {w : Cond} (e : L[j]? = some (g, w)) : w ∈ T := h _ (List.mem_of_getElem? e)
