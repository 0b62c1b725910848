/-! the same with rooms up to 51 (what would be), by program of 82, 85, 96d -/
def FJ (n s g : Nat) (R F : Nat → Int32) : Prop :=
  (2 ≤ n ∧ n ≤ 9) ∧ (s < n ∧ g < n ∧ s ≠ g) ∧
  (∀ a b, a < 9 → b < 9 → (0 ≤ G R a b ∧ G R a b ≤ 51) ∧ (a = b ∨ n ≤ a ∨ n ≤ b → G R a b = 0)) ∧
  (∀ a b, a < 9 → b < 9 → G F a b = -G F b a ∧ G F a b ≤ G R a b) ∧
  (∀ a, a < n → a ≠ s → a ≠ g → outF n F a = 0) ∧ 0 ≤ outF n F s
theorem FJ.flow {n s g : Nat} {R F : Nat → Int32} (h : FJ n s g R F) {a b : Nat} (ha : a < 9) (hb : b < 9) : (-51 ≤ G F a b ∧ G F a b ≤ 51) ∧ (a = b ∨ n ≤ a ∨ n ≤ b → G F a b = 0) := by
  obtain ⟨-, -, h3, h4, -, -⟩ := h
  have r1 := h3 a b ha hb
  have r2 := h3 b a hb ha
  have f1 := h4 a b ha hb
  have f2 := h4 b a hb ha
  refine ⟨by omega, fun hc => ?_⟩
  have e1 := r1.2 hc
  have e2 := r2.2 (by omega)
  omega
theorem FJ.value {n s g : Nat} {R F : Nat → Int32} (h : FJ n s g R F) : 0 ≤ outF n F s ∧ outF n F s ≤ 459 := by
  have hb := sumN_b (f := G F s) (c := 51) n (fun b hb => (h.flow (by have := h.1; have := h.2.1; omega) (by have := h.1; omega)).1)
  have h1 := h.1
  refine ⟨h.2.2.2.2.2, ?_⟩
  unfold outF
  omega
theorem FJ.smF {n s g : Nat} {R F : Nat → Int32} (h : FJ n s g R F) : sm F := fun a b ha hb => by have := (h.flow ha hb).1; omega
theorem FJ.smR {n s g : Nat} {R F : Nat → Int32} (h : FJ n s g R F) : sm R := fun a b ha hb => by have := (h.2.2.1 a b ha hb).1; omega
theorem FJ.lf_le {n s g : Nat} {R F : Nat → Int32} (h : FJ n s g R F) {a b : Nat} (ha : a < 9) (hb : b < 9) : 0 ≤ lf R F a b ∧ lf R F a b ≤ 102 := by
  have := (h.flow ha hb).1
  have := (h.2.2.1 a b ha hb).1
  have := (h.2.2.2.1 a b ha hb).2
  unfold lf
  omega
theorem FJ.way {n s g K : Nat} {R F F' : Nat → Int32} {t : Nat → Nat} {m : Int} (h : FJ n s g R F) (hc : carried F F' t m K) (hd : dis t K) (ht : ∀ i, i ≤ K → t i < n) (h0 : t 0 = s) (hK : t K = g) (hv : 0 ≤ outF n F s + m) (hm : (0 ≤ m ∧ ∀ i, i < K → m ≤ lf R F (t i) (t (i + 1))) ∨ (m ≤ 0 ∧ ∀ i, i < K → -m ≤ G F (t i) (t (i + 1)))) : FJ n s g R F' ∧ outF n F' s = outF n F s + m := by
  obtain ⟨a, b, c, d, e, f⟩ := h
  have o : outF n F' s = outF n F s + m := by
    rw [hc.out a.2 ht b.1, if_pos h0.symm, if_neg (fun q => b.2.2 (q.trans hK))]; omega
  refine ⟨⟨a, b, c, ?_, fun x hx h1 h2 => ?_, by omega⟩, o⟩
  · exact let_.carried (F := F) d (fun x y hx hy => (c x y hx hy).1.1) hc hd (fun i hi => by have := ht i hi; omega) hm
  · rw [hc.out a.2 ht hx, if_neg (fun q => h1 (q.trans h0)), if_neg (fun q => h2 (q.trans hK)), e x hx h1 h2]; omega
theorem FJ.ofstep {n s g : Nat} {R F F' : Nat → Int32} {rule m : Int} (h : FJ n s g R F) (hs : stepped n s g R rule F F' m) : FJ n s g R F' ∧ outF n F' s = outF n F s + m ∧ 1 ≤ m ∧ m ≤ 102 := by
  obtain ⟨t, K, hT, hm, hc⟩ := hs
  have a := h.1
  have k1 : 1 ≤ m := by
    rw [hm]
    exact mnL_ge (by omega) K (fun i hi => by have : 0 < lf R F (t i) (t (i + 1)) := hT.2.2.2.1 i hi; omega)
  have k2 : m ≤ 102 := by
    have b := mnL_le (v := lf R F) (t := t) K 0 hT.1.2.2.1
    have c := (h.lf_le (a := t 0) (b := t (0 + 1)) (by have := hT.2.1 0 (by omega); omega) (by have := hT.2.1 (0 + 1) hT.1.2.2.1; omega)).2
    omega
  obtain ⟨x, y⟩ := h.way hc hT.dis hT.2.1 hT.1.1 hT.1.2.1 (by have := h.2.2.2.2.2; omega) (Or.inl ⟨by omega, fun i hi => by rw [hm]; exact mnL_le K i hi⟩)
  exact ⟨x, y, k1, k2⟩
theorem FJ.f100 {n s g : Nat} {R F : Nat → Int32} (h : FJ n s g R F) : ∀ a b, a < 9 → b < 9 → -100 ≤ G F a b ∧ G F a b ≤ 100 := fun a b ha hb => by have := (h.flow ha hb).1; omega