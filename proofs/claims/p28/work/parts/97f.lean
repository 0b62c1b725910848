/-! the same with rooms up to 51 (what would be), by program of 82, 85, 96d -/
def FJ (n s g : Nat) (R F : Nat → Int32) : Prop :=
  (2 ≤ n ∧ n ≤ 9) ∧ (s < n ∧ g < n ∧ s ≠ g) ∧
  (∀ a b, a < 9 → b < 9 → (0 ≤ G R a b ∧ G R a b ≤ 51) ∧ (a = b ∨ n ≤ a ∨ n ≤ b → G R a b = 0)) ∧
  (∀ a b, a < 9 → b < 9 → G F a b = -G F b a ∧ G F a b ≤ G R a b) ∧
  (∀ a, a < n → a ≠ s → a ≠ g → outF n F a = 0) ∧ 0 ≤ outF n F s
theorem FJ.flow {n s g : Nat} {R F : Nat → Int32} (h : FJ n s g R F) {a b : Nat} (ha : a < 9) (hb : b < 9) : (-51 ≤ G F a b ∧ G F a b ≤ 51) ∧ (a = b ∨ n ≤ a ∨ n ≤ b → G F a b = 0) := by
  obtain ⟨-, -, h3, h4, -, -⟩ := h
  have r1 := h3 a b ha hb
  have r2 := h3 b a hb ha
  have f1 := h4 a b ha hb
  have f2 := h4 b a hb ha
  refine ⟨by omega, fun hc => ?_⟩
  have e1 := r1.2 hc
  have e2 := r2.2 (by omega)
  omega
theorem FJ.value {n s g : Nat} {R F : Nat → Int32} (h : FJ n s g R F) : 0 ≤ outF n F s ∧ outF n F s ≤ 459 := by
  have hb := sumN_b (f := G F s) (c := 51) n (fun b hb => (h.flow (by have := h.1; have := h.2.1; omega) (by have := h.1; omega)).1)
  have h1 := h.1
  refine ⟨h.2.2.2.2.2, ?_⟩
  unfold outF
  omega
theorem FJ.smF {n s g : Nat} {R F : Nat → Int32} (h : FJ n s g R F) : sm F := fun a b ha hb => by have := (h.flow ha hb).1; omega
theorem FJ.smR {n s g : Nat} {R F : Nat → Int32} (h : FJ n s g R F) : sm R := fun a b ha hb => by have := (h.2.2.1 a b ha hb).1; omega
theorem FJ.lf_le {n s g : Nat} {R F : Nat → Int32} (h : FJ n s g R F) {a b : Nat} (ha : a < 9) (hb : b < 9) : 0 ≤ lf R F a b ∧ lf R F a b ≤ 102 := by
  have := (h.flow ha hb).1
  have := (h.2.2.1 a b ha hb).1
  have := (h.2.2.2.1 a b ha hb).2
  unfold lf
  omega
theorem FJ.way {n s g K : Nat} {R F F' : Nat → Int32} {t : Nat → Nat} {m : Int} (h : FJ n s g R F) (hc : carried F F' t m K) (hd : dis t K) (ht : ∀ i, i ≤ K → t i < n) (h0 : t 0 = s) (hK : t K = g) (hv : 0 ≤ outF n F s + m) (hm : (0 ≤ m ∧ ∀ i, i < K → m ≤ lf R F (t i) (t (i + 1))) ∨ (m ≤ 0 ∧ ∀ i, i < K → -m ≤ G F (t i) (t (i + 1)))) : FJ n s g R F' ∧ outF n F' s = outF n F s + m := by
  obtain ⟨a, b, c, d, e, f⟩ := h
  have o : outF n F' s = outF n F s + m := by
    rw [hc.out a.2 ht b.1, if_pos h0.symm, if_neg (fun q => b.2.2 (q.trans hK))]; omega
  refine ⟨⟨a, b, c, ?_, fun x hx h1 h2 => ?_, by omega⟩, o⟩
  · exact let_.carried (F := F) d (fun x y hx hy => (c x y hx hy).1.1) hc hd (fun i hi => by have := ht i hi; omega) hm
  · rw [hc.out a.2 ht hx, if_neg (fun q => h1 (q.trans h0)), if_neg (fun q => h2 (q.trans hK)), e x hx h1 h2]; omega
theorem FJ.ofstep {n s g : Nat} {R F F' : Nat → Int32} {rule m : Int} (h : FJ n s g R F) (hs : stepped n s g R rule F F' m) : FJ n s g R F' ∧ outF n F' s = outF n F s + m ∧ 1 ≤ m ∧ m ≤ 102 := by
  obtain ⟨t, K, hT, hm, hc⟩ := hs
  have a := h.1
  have k1 : 1 ≤ m := by
    rw [hm]
    exact mnL_ge (by omega) K (fun i hi => by have : 0 < lf R F (t i) (t (i + 1)) := hT.2.2.2.1 i hi; omega)
  have k2 : m ≤ 102 := by
    have b := mnL_le (v := lf R F) (t := t) K 0 hT.1.2.2.1
    have c := (h.lf_le (a := t 0) (b := t (0 + 1)) (by have := hT.2.1 0 (by omega); omega) (by have := hT.2.1 (0 + 1) hT.1.2.2.1; omega)).2
    omega
  obtain ⟨x, y⟩ := h.way hc hT.dis hT.2.1 hT.1.1 hT.1.2.1 (by have := h.2.2.2.2.2; omega) (Or.inl ⟨by omega, fun i hi => by rw [hm]; exact mnL_le K i hi⟩)
  exact ⟨x, y, k1, k2⟩
theorem FJ.f100 {n s g : Nat} {R F : Nat → Int32} (h : FJ n s g R F) : ∀ a b, a < 9 → b < 9 → -100 ≤ G F a b ∧ G F a b ≤ 100 := fun a b ha hb => by have := (h.flow ha hb).1; omega
theorem jturn1 {α : Type} {n s g : Nat} {R F f46 f47 : Nat → Int32} {i12 i13 i14 i3 : Int32} {P : α → Prop} {Kn : Int32 × (Nat → Int32) × (Nat → Int32) → Option α} {Ks : Int32 × (Nat → Int32) × (Nat → Int32) → (Nat → Int32) → Option α} (hI : FJ n s g R F) (h12 : i12.toInt = n) (h13 : i13.toInt = s) (h14 : i14.toInt = g) (h3 : 0 ≤ i3.toInt ∧ i3.toInt ≤ 2) (hkn : ∀ z, z.1 = 0 → ¬ tracks n s g R F → Ok (Kn z) P) (hks : ∀ z F' m, (0 ≤ z.1.toInt ∧ z.1.toInt ≤ 10) → stepped n s g R i3.toInt F F' m → Ok (Ks z F') P) : Ok ((fX5_find f46 f47 i12 i13 i14 R F i3).bind (fun z49 => if z49.1 = (0 : Int32) then Kn z49 else ((fX5_leastLeft z49.1 z49.2.1 R F).bind (fun z50 => (fX2_carryAlong F z49.1 z49.2.1 z50).bind (fun z51 => Ks z49 z51))))) P := by
  have n9 := hI.1
  refine Ok_bind (cfind_iv h12 n9.2 h13 hI.2.1.1 h14 hI.2.1.2.1 hI.2.1.2.2 h3) (fun z49 h49 => ?_)
  have t0 : (0 : Int32).toInt = 0 := rfl
  rcases h49 with ⟨e, q⟩ | ⟨t, K, hT, e, hf⟩
  · exact Ok_if (fun _ => hkn z49 e q) (fun h => absurd e h)
  · refine Ok_if (fun h => ?_) (fun _ => ?_)
    · have h := i32eq h
      omega
    · have hT0 := hT.1
      refine Ok_bind (cleast_iv n9.2 e hT0.2.2.2 hT.2.1 hf hI.smR hI.smF) (fun z50 h50 => ?_)
      have k1 : 1 ≤ mnL (lf R F) t K := mnL_ge (by omega) K (fun i hi => by have : 0 < lf R F (t i) (t (i + 1)) := hT.2.2.2.1 i hi; omega)
      have k2 : mnL (lf R F) t K ≤ 102 := by
        have b := mnL_le (v := lf R F) (t := t) K 0 hT0.2.2.1
        have c := (hI.lf_le (a := t 0) (b := t (0 + 1)) (by have := hT.2.1 0 (by omega); omega) (by have := hT.2.1 (0 + 1) hT0.2.2.1; omega)).2
        omega
      refine Ok_bind (along_iv n9.2 e (by omega) hT.2.1 hT.dis hf (by omega) hI.f100) (fun z51 h51 => ?_)
      exact hks z49 z51 (mnL (lf R F) t K) (by omega) ⟨t, K, hT, rfl, by rw [← h50]; exact h51⟩
theorem jfill_loop {n s g : Nat} {R : Nat → Int32} {i12 i13 i14 i3 i4 : Int32} (h12 : i12.toInt = n) (h13 : i13.toInt = s) (h14 : i14.toInt = g) (h3 : 0 ≤ i3.toInt ∧ i3.toInt ≤ 2) (h4 : i4.toInt = 1000) : ∀ (c : Nat) (i43 i44 i45 : Int32) (f46 f47 F : Nat → Int32), FJ n s g R F → 459 - outF n F s < c → (0 ≤ i43.toInt ∧ i43.toInt ≤ outF n F s) → Ok (LX5_fillTimes_L3 i12 i13 i14 R i3 i4 c i43 i44 i45 f46 f47 F) (fun z => (0 ≤ z.2.1.toInt ∧ z.2.1.toInt ≤ 9) ∧ (0 ≤ z.2.2.1.toInt ∧ z.2.2.1.toInt ≤ 10) ∧ ∃ j : Nat, filled n s g R i3.toInt j F z.2.2.2.2.2 ∧ z.1.toInt = i43.toInt + j) := by
  intro c
  induction c with
  | zero =>
    intro i43 i44 i45 f46 f47 F hI hc h43
    have := hI.value
    omega
  | succ c ih =>
    intro i43 i44 i45 f46 f47 F hI hc h43
    show Ok (BX5_fillTimes_L3 i12 i13 i14 R i3 i4 i43 i44 i45 f46 f47 F (fun a b d x y w => LX5_fillTimes_L3 i12 i13 i14 R i3 i4 c a b d x y w)) _
    unfold BX5_fillTimes_L3
    have hv := hI.value
    have n9 := hI.1
    refine Ok_if (fun h => ?_) (fun _ => ?_)
    · have h := i32le h
      omega
    · refine jturn1 hI h12 h13 h14 h3 (fun z e q => Ok_some ⟨by show 0 ≤ i12.toInt ∧ i12.toInt ≤ 9; omega, by show 0 ≤ z.1.toInt ∧ z.1.toInt ≤ 10; rw [e]; decide, 0, ⟨rfl, q⟩, by show i43.toInt = i43.toInt + (0 : Nat); omega⟩) (fun z F' m hz hs => ?_)
      obtain ⟨a1, a2, a3, a4⟩ := hI.ofstep hs
      have ei := inc_iv (x := i43) (by omega)
      refine Ok_mono (ih (i43 + 1) i12 z.1 z.2.1 z.2.2 F' a1 (by omega) (by omega)) (fun y hy => ?_)
      obtain ⟨y1, y2, j, y3, y4⟩ := hy
      exact ⟨y1, y2, j + 1, ⟨F', m, hs, y3⟩, by omega⟩
theorem jfill_iv {n s g : Nat} {R F f10 f11 : Nat → Int32} {i7 i9 i12 i13 i14 i3 : Int32} (hI : FJ n s g R F) (h12 : i12.toInt = n) (h13 : i13.toInt = s) (h14 : i14.toInt = g) (h3 : 0 ≤ i3.toInt ∧ i3.toInt ≤ 2) : Ok (fX5_fillTimes i7 i9 f10 f11 i12 i13 i14 R F i3 1000) (fun z => (0 ≤ z.2.1.toInt ∧ z.2.1.toInt ≤ 9) ∧ (0 ≤ z.2.2.1.toInt ∧ z.2.2.1.toInt ≤ 10) ∧ ∃ j : Nat, filled n s g R i3.toInt j F z.2.2.2.2.2 ∧ z.1.toInt = j) := by
  unfold fX5_fillTimes
  have hv := hI.value
  have t0 : (0 : Int32).toInt = 0 := rfl
  refine Ok_mono (jfill_loop h12 h13 h14 h3 rfl 1002 0 i7 i9 f10 f11 F hI (by omega) (by omega)) (fun z hz => ?_)
  obtain ⟨z1, z2, j, z3, z4⟩ := hz
  exact ⟨z1, z2, j, z3, by omega⟩
