/-! A FLOW SENT ALONG A PATH -/
def dis (t : Nat → Nat) (K : Nat) : Prop := ∀ i j, i < K → j < K → (t i = t j ∧ t (i + 1) = t (j + 1) → i = j) ∧ ¬ (t i = t (j + 1) ∧ t (i + 1) = t j)
def mvs (t : Nat → Nat) (m : Int) (x y : Nat) : Nat → Int
  | 0 => 0
  | k + 1 => mvs t m x y k + (if x = t k ∧ y = t (k + 1) then m else 0) - (if x = t (k + 1) ∧ y = t k then m else 0)
def carried (F F' : Nat → Int32) (t : Nat → Nat) (m : Int) (K : Nat) : Prop := ∀ x y, x < 9 → y < 9 → G F' x y = G F x y + mvs t m x y K
theorem mvs_anti (t : Nat → Nat) (m : Int) (x y : Nat) : ∀ k, mvs t m y x k = -mvs t m x y k
  | 0 => rfl
  | k + 1 => by
    have h := mvs_anti t m x y k
    unfold mvs
    rw [h]
    by_cases c1 : x = t k ∧ y = t (k + 1)
    · rw [if_pos c1, if_pos (show y = t (k + 1) ∧ x = t k from ⟨c1.2, c1.1⟩)]
      by_cases c2 : x = t (k + 1) ∧ y = t k
      · rw [if_pos c2, if_pos (show y = t k ∧ x = t (k + 1) from ⟨c2.2, c2.1⟩)]; omega
      · rw [if_neg c2, if_neg (fun q : y = t k ∧ x = t (k + 1) => c2 ⟨q.2, q.1⟩)]; omega
    · rw [if_neg c1, if_neg (fun q : y = t (k + 1) ∧ x = t k => c1 ⟨q.2, q.1⟩)]
      by_cases c2 : x = t (k + 1) ∧ y = t k
      · rw [if_pos c2, if_pos (show y = t k ∧ x = t (k + 1) from ⟨c2.2, c2.1⟩)]; omega
      · rw [if_neg c2, if_neg (fun q : y = t k ∧ x = t (k + 1) => c2 ⟨q.2, q.1⟩)]; omega
theorem mvs3 {t : Nat → Nat} {K : Nat} (hd : dis t K) (m : Int) (x y : Nat) : ∀ k, k ≤ K → (∃ i, i < k ∧ x = t i ∧ y = t (i + 1) ∧ mvs t m x y k = m) ∨ (∃ i, i < k ∧ x = t (i + 1) ∧ y = t i ∧ mvs t m x y k = -m) ∨ (mvs t m x y k = 0 ∧ ∀ i, i < k → ¬ (x = t i ∧ y = t (i + 1)) ∧ ¬ (x = t (i + 1) ∧ y = t i))
  | 0, _ => Or.inr (Or.inr ⟨rfl, fun i hi => by omega⟩)
  | k + 1, hk => by
    have e : mvs t m x y (k + 1) = mvs t m x y k + (if x = t k ∧ y = t (k + 1) then m else 0) - (if x = t (k + 1) ∧ y = t k then m else 0) := rfl
    rw [e]
    rcases mvs3 hd m x y k (by omega) with ⟨i, i1, i2, i3, i4⟩ | ⟨i, i1, i2, i3, i4⟩ | ⟨i1, i2⟩
    · have d := hd i k (by omega) (by omega)
      rw [if_neg (fun q => by have := d.1 ⟨i2.symm.trans q.1, i3.symm.trans q.2⟩; omega), if_neg (fun q => d.2 ⟨i2.symm.trans q.1, i3.symm.trans q.2⟩)]
      exact Or.inl ⟨i, by omega, i2, i3, by omega⟩
    · have d := hd i k (by omega) (by omega)
      rw [if_neg (fun q => d.2 ⟨i3.symm.trans q.2, i2.symm.trans q.1⟩), if_neg (fun q => by have := d.1 ⟨i3.symm.trans q.2, i2.symm.trans q.1⟩; omega)]
      exact Or.inr (Or.inl ⟨i, by omega, i2, i3, by omega⟩)
    · have d := hd k k (by omega) (by omega)
      by_cases c1 : x = t k ∧ y = t (k + 1)
      · rw [if_pos c1, if_neg (fun q => d.2 ⟨c1.1.symm.trans q.1, c1.2.symm.trans q.2⟩)]
        exact Or.inl ⟨k, by omega, c1.1, c1.2, by omega⟩
      · rw [if_neg c1]
        by_cases c2 : x = t (k + 1) ∧ y = t k
        · rw [if_pos c2]
          exact Or.inr (Or.inl ⟨k, by omega, c2.1, c2.2, by omega⟩)
        · rw [if_neg c2]
          refine Or.inr (Or.inr ⟨by omega, fun i hi => ?_⟩)
          by_cases q : i = k
          · rw [q]; exact ⟨c1, c2⟩
          · exact i2 i (by omega)
theorem mvs_sum {t : Nat → Nat} {m : Int} {x n : Nat} : ∀ K, (∀ i, i ≤ K → t i < n) → sumN n (fun y => mvs t m x y K) = (if x = t 0 then m else 0) - (if x = t K then m else 0)
  | 0, _ => by
    have e : sumN n (fun y => mvs t m x y 0) = 0 := sumN_zero n
    rw [e]; omega
  | k + 1, h => by
    have ih := mvs_sum (m := m) (x := x) k (fun i hi => h i (by omega))
    have a := sumN_one (f := fun y => mvs t m x y k) (g := fun y => mvs t m x y k + (if y = t (k + 1) then (if x = t k then m else 0) else 0)) (c := t (k + 1)) (d := if x = t k then m else 0) n (fun b _ => rfl)
    have b := sumN_one (f := fun y => mvs t m x y k + (if y = t (k + 1) then (if x = t k then m else 0) else 0)) (g := fun y => mvs t m x y (k + 1)) (c := t k) (d := -(if x = t (k + 1) then m else 0)) n (fun b _ => by
      show mvs t m x b k + (if x = t k ∧ b = t (k + 1) then m else 0) - (if x = t (k + 1) ∧ b = t k then m else 0) = mvs t m x b k + (if b = t (k + 1) then (if x = t k then m else 0) else 0) + (if b = t k then -(if x = t (k + 1) then m else 0) else 0)
      by_cases c1 : x = t k <;> by_cases c2 : b = t (k + 1) <;> by_cases c3 : x = t (k + 1) <;> by_cases c4 : b = t k <;> simp only [c1, c2, c3, c4, and_self, and_true, true_and, and_false, false_and, if_true, if_false, ↓reduceIte] <;> omega)
    rw [b, a, ih, if_pos (h (k + 1) (by omega)), if_pos (h k (by omega))]
    omega
theorem carried.out {F F' : Nat → Int32} {t : Nat → Nat} {m : Int} {K n : Nat} (h : carried F F' t m K) (hn : n ≤ 9) (ht : ∀ i, i ≤ K → t i < n) {x : Nat} (hx : x < n) : outF n F' x = outF n F x + (if x = t 0 then m else 0) - (if x = t K then m else 0) := by
  unfold outF
  rw [sumN_eq (f := G F' x) (g := fun y => G F x y + mvs t m x y K) n (fun y hy => h x y (by omega) (by omega)), sumN_add, mvs_sum K ht]
  omega
theorem let_.carried {R F F' : Nat → Int32} {t : Nat → Nat} {m : Int} {K : Nat} (hl : let_ R F) (hR : ∀ a b, a < 9 → b < 9 → 0 ≤ G R a b) (h : carried F F' t m K) (hd : dis t K) (ht : ∀ i, i ≤ K → t i < 9) (hm : (0 ≤ m ∧ ∀ i, i < K → m ≤ lf R F (t i) (t (i + 1))) ∨ (m ≤ 0 ∧ ∀ i, i < K → -m ≤ G F (t i) (t (i + 1)))) : let_ R F' := by
  intro x y hx hy
  have k1 := hl x y hx hy
  have k2 := hl y x hy hx
  have r1 := hR x y hx hy
  rw [h x y hx hy, h y x hy hx, mvs_anti t m x y]
  refine ⟨by omega, ?_⟩
  rcases mvs3 hd m x y K (Nat.le_refl _) with ⟨i, i1, i2, i3, i4⟩ | ⟨i, i1, i2, i3, i4⟩ | ⟨i1, i2⟩
  · rw [i4]
    rcases hm with ⟨m1, m2⟩ | ⟨m1, m2⟩
    · have := m2 i i1
      rw [← i2, ← i3] at this
      unfold lf at this
      omega
    · omega
  · rw [i4]
    rcases hm with ⟨m1, m2⟩ | ⟨m1, m2⟩
    · omega
    · have := m2 i i1
      rw [← i2, ← i3] at this
      omega
  · omega
theorem FI.smF {n s g : Nat} {R F : Nat → Int32} (h : FI n s g R F) : sm F := fun a b ha hb => by have := (h.flow ha hb).1; omega
theorem FI.smR {n s g : Nat} {R F : Nat → Int32} (h : FI n s g R F) : sm R := fun a b ha hb => by have := (h.2.2.1 a b ha hb).1; omega
theorem FI.lf_le {n s g : Nat} {R F : Nat → Int32} (h : FI n s g R F) {a b : Nat} (ha : a < 9) (hb : b < 9) : 0 ≤ lf R F a b ∧ lf R F a b ≤ 100 := by
  have := (h.flow ha hb).1
  have := (h.2.2.1 a b ha hb).1
  have := (h.2.2.2.1 a b ha hb).2
  unfold lf
  omega
theorem TRK.dis {n s g K : Nat} {E : Nat → Nat → Prop} {rule : Int} {t : Nat → Nat} (h : TRK n s g E rule t K) : dis t K := by
  intro i j hi hj
  refine ⟨fun e => h.2.2.1 i j (by omega) (by omega) e.1, fun e => ?_⟩
  have a := h.2.2.1 i (j + 1) (by omega) (by omega) e.1
  have b := h.2.2.1 (i + 1) j (by omega) (by omega) e.2
  omega
theorem FI.way {n s g K : Nat} {R F F' : Nat → Int32} {t : Nat → Nat} {m : Int} (h : FI n s g R F) (hc : carried F F' t m K) (hd : dis t K) (ht : ∀ i, i ≤ K → t i < n) (h0 : t 0 = s) (hK : t K = g) (hv : 0 ≤ outF n F s + m) (hm : (0 ≤ m ∧ ∀ i, i < K → m ≤ lf R F (t i) (t (i + 1))) ∨ (m ≤ 0 ∧ ∀ i, i < K → -m ≤ G F (t i) (t (i + 1)))) : FI n s g R F' ∧ outF n F' s = outF n F s + m := by
  obtain ⟨a, b, c, d, e, f⟩ := h
  have o : outF n F' s = outF n F s + m := by
    rw [hc.out a.2 ht b.1, if_pos h0.symm, if_neg (fun q => b.2.2 (q.trans hK))]; omega
  refine ⟨⟨a, b, c, ?_, fun x hx h1 h2 => ?_, by omega⟩, o⟩
  · exact let_.carried (F := F) d (fun x y hx hy => (c x y hx hy).1.1) hc hd (fun i hi => by have := ht i hi; omega) hm
  · rw [hc.out a.2 ht hx, if_neg (fun q => h1 (q.trans h0)), if_neg (fun q => h2 (q.trans hK)), e x hx h1 h2]; omega
theorem FI.ring {n s g K : Nat} {R F F' : Nat → Int32} {t : Nat → Nat} {m : Int} (h : FI n s g R F) (hc : carried F F' t m K) (hd : dis t K) (ht : ∀ i, i ≤ K → t i < n) (h0 : t 0 = t K) (hm : (0 ≤ m ∧ ∀ i, i < K → m ≤ lf R F (t i) (t (i + 1))) ∨ (m ≤ 0 ∧ ∀ i, i < K → -m ≤ G F (t i) (t (i + 1)))) : FI n s g R F' ∧ ∀ x, x < n → outF n F' x = outF n F x := by
  obtain ⟨a, b, c, d, e, f⟩ := h
  have o : ∀ x, x < n → outF n F' x = outF n F x := fun x hx => by
    rw [hc.out a.2 ht hx, h0]; omega
  refine ⟨⟨a, b, c, ?_, fun x hx h1 h2 => ?_, ?_⟩, o⟩
  · exact let_.carried (F := F) d (fun x y hx hy => (c x y hx hy).1.1) hc hd (fun i hi => by have := ht i hi; omega) hm
  · rw [o x hx]; exact e x hx h1 h2
  · rw [o s b.1]; exact f
theorem sumN_b1 {f : Nat → Int} {c : Int} {s : Nat} (hc : 0 ≤ c) : ∀ (k : Nat), (∀ b, b < k → f b ≤ c) → (s < k → f s ≤ 0) → sumN k f ≤ c * k - (if s < k then c else 0)
  | 0, _, _ => by simp [sumN]
  | k + 1, h, hs => by
    have e : c * ((k + 1 : Nat) : Int) = c * k + c := by push_cast; rw [Int.mul_add, Int.mul_one]
    have h2 := h k (by omega)
    unfold sumN
    rw [e]
    by_cases q : s = k
    · have h1 := sumN_b1 (f := f) (s := s) hc k (fun b hb => h b (by omega)) (fun q2 => by omega)
      have h3 := hs (by omega)
      rw [if_neg (by omega)] at h1
      rw [if_pos (by omega)]
      rw [q] at h3
      omega
    · have h1 := sumN_b1 (f := f) (s := s) hc k (fun b hb => h b (by omega)) (fun q2 => hs (by omega))
      by_cases q2 : s < k
      · rw [if_pos q2] at h1
        rw [if_pos (by omega)]; omega
      · rw [if_neg q2] at h1
        rw [if_neg (by omega)]; omega
theorem FI.value400 {n s g : Nat} {R F : Nat → Int32} (h : FI n s g R F) : 0 ≤ outF n F s ∧ outF n F s ≤ 400 := by
  refine ⟨h.2.2.2.2.2, ?_⟩
  have a := h.1
  have b := h.2.1
  have := sumN_b1 (f := G F s) (c := 50) (s := s) (by omega) n (fun x hx => (h.flow (a := s) (b := x) (by omega) (by omega)).1.2) (fun _ => by
    have := (h.flow (a := s) (b := s) (by omega) (by omega)).2 (Or.inl rfl)
    omega)
  rw [if_pos b.1] at this
  unfold outF
  omega
def mnL (v : Nat → Nat → Int) (t : Nat → Nat) : Nat → Int
  | 0 => 2147483647
  | k + 1 => if v (t k) (t (k + 1)) < mnL v t k then v (t k) (t (k + 1)) else mnL v t k
theorem mnL_le {v : Nat → Nat → Int} {t : Nat → Nat} : ∀ k i, i < k → mnL v t k ≤ v (t i) (t (i + 1))
  | 0, i, h => by omega
  | k + 1, i, h => by
    unfold mnL
    by_cases e : i = k
    · subst e
      split <;> omega
    · have := mnL_le (v := v) (t := t) k i (by omega)
      split <;> omega
theorem mnL_ge {v : Nat → Nat → Int} {t : Nat → Nat} {c : Int} (hc : c ≤ 2147483647) : ∀ k, (∀ i, i < k → c ≤ v (t i) (t (i + 1))) → c ≤ mnL v t k
  | 0, _ => hc
  | k + 1, h => by
    have a := mnL_ge hc k (fun i hi => h i (by omega))
    have b := h k (by omega)
    unfold mnL
    split <;> omega
theorem mnL_top {v : Nat → Nat → Int} {t : Nat → Nat} : ∀ k, mnL v t k ≤ 2147483647
  | 0 => Int.le_refl _
  | k + 1 => by
    have a := mnL_top (v := v) (t := t) k
    unfold mnL
    split <;> omega
theorem mnL_is {v : Nat → Nat → Int} {t : Nat → Nat} : ∀ k, mnL v t k = 2147483647 ∨ ∃ i, i < k ∧ mnL v t k = v (t i) (t (i + 1))
  | 0 => Or.inl rfl
  | k + 1 => by
    unfold mnL
    split
    · exact Or.inr ⟨k, by omega, rfl⟩
    · rcases mnL_is (v := v) (t := t) k with h | ⟨i, h1, h2⟩
      · exact Or.inl h
      · exact Or.inr ⟨i, by omega, h2⟩
/-! THE TRACK BY A RULE, as the reference finds it -/
theorem tb_L9 {i3 : Int32} {n : Nat} {P : Option (Nat × (Nat → Int32)) → Prop} {k1 : (Nat → Int32) → Option (Option (Nat × (Nat → Int32)))} (h3 : i3.toInt = n) (hn : n ≤ 9) (hk : ∀ f : Nat → Int32, (∀ x, x < n → (f x).toInt = -1) → Ok (k1 f) P) : ∀ (r c : Nat) (i : Int32) (f : Nat → Int32) (k : Nat), k + r = n → r < c → i.toInt = k → (∀ x, x < k → (f x).toInt = -1) → Ok (LX8_trackBy_L9 i3 n c i f k1) P := by
  intro r
  induction r with
  | zero =>
    intro c i f k hk2 hc hi hf
    cases c with
    | zero => omega
    | succ c =>
      show Ok (BX8_trackBy_L9 i3 n i f (fun a b => LX8_trackBy_L9 i3 n c a b k1) k1) P
      unfold BX8_trackBy_L9
      refine Ok_if (fun _ => hk f (fun x hx => hf x (by omega))) (fun h => ?_)
      have h := i32nle h
      omega
  | succ r ih =>
    intro c i f k hk2 hc hi hf
    cases c with
    | zero => omega
    | succ c =>
      show Ok (BX8_trackBy_L9 i3 n i f (fun a b => LX8_trackBy_L9 i3 n c a b k1) k1) P
      unfold BX8_trackBy_L9
      have ei := inc_iv (x := i) (by omega)
      refine Ok_if (fun h => ?_) (fun h => ?_)
      · have h := i32le h
        omega
      · refine Ok_inB (vp_of (by omega) (by omega)) ?_
        rw [toNat_iv hi]
        refine ih c (i + 1) _ (k + 1) (by omega) (by omega) (by omega) (fun x hx => ?_)
        unfold upd
        by_cases e : x = k
        · rw [if_pos e]; rfl
        · rw [if_neg e]; exact hf x (by omega)
theorem tb_L88 {i6 : Int32} {n K : Nat} {t : Nat → Nat} {f : Nat → Int32} {P : Option (Nat × (Nat → Int32)) → Prop} {k1 : Int32 → Option (Option (Nat × (Nat → Int32)))} (h6 : i6.toInt = t 0) (hn : n ≤ 9) (hK : K < n) (ht : ∀ i, i ≤ K → t i < n) (hi : ∀ i j, i ≤ K → j ≤ K → t i = t j → i = j) (hch : ∀ i, i < K → (f (t (i + 1))).toInt = t i) (hk : ∀ i : Int32, i.toInt = K + 1 → Ok (k1 i) P) : ∀ (j c : Nat) (i60 i61 : Int32), j ≤ K → j < c → i61.toInt = t j → i60.toInt = 1 + (K - j) → Ok (LX8_trackBy_L88 i6 n f c i60 i61 k1) P := by
  intro j
  induction j with
  | zero =>
    intro c i60 i61 hj hc h61 h60
    cases c with
    | zero => omega
    | succ c =>
      show Ok (BX8_trackBy_L88 i6 n f i60 i61 (fun a b => LX8_trackBy_L88 i6 n f c a b k1) k1) P
      unfold BX8_trackBy_L88
      exact Ok_if (fun _ => hk _ (by omega)) (fun h => absurd (Int32.toInt_inj.mp (h61.trans h6.symm)) h)
  | succ j ih =>
    intro c i60 i61 hj hc h61 h60
    cases c with
    | zero => omega
    | succ c =>
      show Ok (BX8_trackBy_L88 i6 n f i60 i61 (fun a b => LX8_trackBy_L88 i6 n f c a b k1) k1) P
      unfold BX8_trackBy_L88
      have a := ht (j + 1) hj
      have ei := inc_iv (x := i60) (by omega)
      refine Ok_if (fun h => ?_) (fun _ => Ok_inB (vp_of (by omega) (by omega)) (Ok_nm (fun y wy => ?_)))
      · have h := i32eq h
        have := hi (j + 1) 0 hj (by omega) (by omega)
        omega
      · refine ih c (i60 + 1) y (by omega) (by omega) ?_ (by omega)
        rw [wy, toNat_iv h61]
        exact hch j (by omega)
theorem tb_L125 {n K : Nat} {t : Nat → Nat} {f : Nat → Int32} (hn : n ≤ 9) (hK : K < n) (ht : ∀ i, i ≤ K → t i < n) (hch : ∀ i, i < K → (f (t (i + 1))).toInt = t i) : ∀ (r c : Nat) (i87 i88 : Int32) (f91 : Nat → Int32), r ≤ K + 1 → r < c → i88.toInt = (r : Int) - 1 → (1 ≤ r → i87.toInt = t (r - 1)) → (∀ i, r ≤ i → i ≤ K → (f91 i).toInt = t i) → Ok (LX8_trackBy_L125 n f (K + 1) c i87 i88 f91) (fun z => ∃ q, z = some (K + 1, q) ∧ ∀ i, i ≤ K → (q i).toInt = t i) := by
  intro r
  induction r with
  | zero =>
    intro c i87 i88 f91 hr hc h88 h87 hf
    cases c with
    | zero => omega
    | succ c =>
      show Ok (BX8_trackBy_L125 n f (K + 1) i87 i88 f91 (fun a b d => LX8_trackBy_L125 n f (K + 1) c a b d)) _
      unfold BX8_trackBy_L125
      refine Ok_if (fun _ => Ok_some ⟨f91, rfl, fun i hi => hf i (by omega) hi⟩) (fun h => ?_)
      have h := i32nlt h
      have t0 : (0 : Int32).toInt = 0 := rfl
      omega
  | succ r ih =>
    intro c i87 i88 f91 hr hc h88 h87 hf
    cases c with
    | zero => omega
    | succ c =>
      show Ok (BX8_trackBy_L125 n f (K + 1) i87 i88 f91 (fun a b d => LX8_trackBy_L125 n f (K + 1) c a b d)) _
      unfold BX8_trackBy_L125
      have h87 := h87 (by omega)
      rw [show r + 1 - 1 = r by omega] at h87
      have a := ht r (by omega)
      have ed := decp_iv (x := i88) (by omega)
      have h88b : i88.toInt = (r : Int) := by omega
      refine Ok_if (fun h => ?_) (fun _ => Ok_inB (vp_of (by omega) (by omega)) (Ok_inB (vp_of (by omega) (by omega)) (Ok_nm (fun y wy => ?_))))
      · have h := i32lt h
        have t0 : (0 : Int32).toInt = 0 := rfl
        omega
      · refine ih c y _ _ (by omega) (by omega) (by omega) (fun h => ?_) (fun i h1 h2 => ?_)
        · rw [wy, toNat_iv h87]
          have := hch (r - 1) (by omega)
          rw [show r - 1 + 1 = r by omega] at this
          exact this
        · rw [toNat_iv h88b]
          unfold upd
          by_cases e : i = r
          · rw [if_pos e, e]; exact h87
          · rw [if_neg e]; exact hf i (by omega) h2
theorem trackBy_iv {i3 i6 i7 i8 i9 i10 i11 i2 : Int32} {R F : Nat → Int32} {n s g : Nat} (h3 : i3.toInt = n) (h6 : i6.toInt = s) (h7 : i7.toInt = g) (hn : 2 ≤ n ∧ n ≤ 9) (hs : s < n) (hg : g < n) (hsg : s ≠ g) (hR : sm R) (hF : sm F) (h2 : 0 ≤ i2.toInt ∧ i2.toInt ≤ 2) : Ok (fX8_trackBy i3 i6 i7 i8 i9 i10 i11 R F i2) (fun z => (z = none ∧ ∀ k, ¬ Cm n (ed R F) nowhere g k s) ∨ ∃ f t K, z = some (K + 1, f) ∧ TRK n s g (ed R F) i2.toInt t K ∧ ∀ i, i ≤ K → (f i).toInt = t i) := by
  unfold fX8_trackBy
  rw [toNat_iv h3]
  have t0 : (0 : Int32).toInt = 0 := rfl
  have t1 : (1 : Int32).toInt = 1 := rfl
  have t2 : (2 : Int32).toInt = 2 := rfl
  refine Ok_nN (by omega) (by omega) ?_
  refine tb_L9 h3 hn.2 (fun f34 h34 => ?_) n 600 0 _ 0 (by omega) (by omega) rfl (fun x hx => by omega)
  refine Ok_inB (vp_of (by omega) (by omega)) (Ok_jn (fun k35 w35 => ?_))
  rw [toNat_iv h6]
  have us : (upd f34 s i6 s).toInt = s := by unfold upd; rw [if_pos rfl]; exact h6
  have un : ∀ x, x < n → x ≠ s → (upd f34 s i6 x).toInt < 0 := fun x hx e => by
    unfold upd; rw [if_neg e, h34 x hx]; decide
  have go : ∀ (u : Nat → Int32), (((u g).toInt < 0 ∧ ∀ k, ¬ Cm n (ed R F) nowhere g k s) ∨ (0 ≤ (u g).toInt ∧ ∃ t K, TRK n s g (ed R F) i2.toInt t K ∧ ∀ i, i < K → (u (t (i + 1))).toInt = t i)) → Ok (k35 u) (fun z => (z = none ∧ ∀ k, ¬ Cm n (ed R F) nowhere g k s) ∨ ∃ f t K, z = some (K + 1, f) ∧ TRK n s g (ed R F) i2.toInt t K ∧ ∀ i, i ≤ K → (f i).toInt = t i) := by
    intro u hu
    rw [w35]
    refine Ok_inB (vp_of (by omega) (by omega)) ?_
    rw [toNat_iv h7]
    refine Ok_if (fun h => ?_) (fun h => ?_)
    · have h := i32le h
      rcases hu with hu | ⟨-, t, K, hT, hch⟩
      · omega
      · have hT0 := hT.1
        refine tb_L88 (K := K) (t := t) (by omega) hn.2 hT0.2.2.2 hT.2.1 hT.2.2.1 hch (fun i hi => ?_) K 600 1 i7 (Nat.le_refl _) (by omega) (by omega) (by omega)
        refine Ok_nN (by omega) (by omega) (Ok_nm (fun y wy => ?_))
        have ey : y.toInt = K := by rw [wy, sub_iv (by omega) (by omega)]; omega
        clear wy
        have hi2 : i.toInt = ((K + 1 : Nat) : Int) := by omega
        rw [toNat_iv hi2]
        refine Ok_mono (tb_L125 (K := K) (t := t) hn.2 hT0.2.2.2 hT.2.1 hch (K + 1) 600 i7 y _ (Nat.le_refl _) (by omega) (by omega) (fun _ => by rw [show K + 1 - 1 = K by omega]; omega) (fun i h1 h2 => by omega)) (fun z hz => ?_)
        obtain ⟨q, q1, q2⟩ := hz
        exact Or.inr ⟨q, t, K, q1, hT, q2⟩
    · have h := i32nle h
      rcases hu with hu | hu
      · exact Ok_some (Or.inl ⟨rfl, hu.2⟩)
      · omega
  clear w35
  refine Ok_if (fun h => ?_) (fun h => ?_)
  · have h := i32eq h
    refine Ok_bind (byLayers_iv h3 h6 hn.2 hs hR hF us un) (fun u hu => ?_)
    obtain ⟨w, pu, m, row, hI, hU⟩ := hu
    refine go u ?_
    rw [show i2.toInt = 0 by omega]
    exact hI.track hU hg hsg
  · have h0 : i2.toInt ≠ 0 := fun q => h (Int32.toInt_inj.mp (q.trans t0.symm))
    have dq : DQ n g (ed R F) (fun x => x = s) s (upd f34 s i6) := by
      refine ⟨⟨hs, rfl⟩, fun x hx => ?_, Or.inr (un g hg (fun e => hsg e.symm)), fun x y hx hy hV hS _ => ?_⟩
      · have e : x = s := hx
        subst e
        exact ⟨hs, by omega⟩
      · have := un x hx hS
        omega
    have hu : unv (upd f34 s i6) n < 11 := by have := unv_bd (upd f34 s i6) n; omega
    have deep : ∀ l : Int32, (if l = 0 then (1 : Int) else 2) = i2.toInt → Ok ((fX8_deeper 11 i3 i6 i7 i8 i9 i10 i11 R F n (upd f34 s i6) i6 l).bind (fun z40 => k35 z40.2)) (fun z => (z = none ∧ ∀ k, ¬ Cm n (ed R F) nowhere g k s) ∨ ∃ f t K, z = some (K + 1, f) ∧ TRK n s g (ed R F) i2.toInt t K ∧ ∀ i, i ≤ K → (f i).toInt = t i) := by
      intro l hl
      refine Ok_bind (deeper_iv (i8 := i6) (i10 := i8) (i11 := i9) (i12 := i10) (i13 := i11) (i4 := l) h3 h7 hn.2 hg hR hF 11 (upd f34 s i6) i6 s (fun x => x = s) h6 dq hu) (fun z hz => ?_)
      refine go z.2 ?_
      have := hz.track hg hs hsg (by omega)
      rw [hl] at this
      exact this
    refine Ok_jn (fun k37 w37 => ?_)
    refine Ok_if (fun e => ?_) (fun e => ?_)
    · have e := i32eq e
      rw [w37]
      exact deep 1 (by rw [if_neg (by decide)]; omega)
    · have e2 : i2.toInt ≠ 2 := fun q => e (Int32.toInt_inj.mp (q.trans t2.symm))
      rw [w37]
      exact deep 0 (by rw [if_pos rfl]; omega)
def stepped (n s g : Nat) (R : Nat → Int32) (rule : Int) (F F' : Nat → Int32) (m : Int) : Prop := ∃ t K, TRK n s g (ed R F) rule t K ∧ m = mnL (lf R F) t K ∧ carried F F' t m K
def tracks (n s g : Nat) (R F : Nat → Int32) : Prop := ∃ k, Cm n (ed R F) nowhere g k s
theorem FI.ofstep {n s g : Nat} {R F F' : Nat → Int32} {rule m : Int} (h : FI n s g R F) (hs : stepped n s g R rule F F' m) : FI n s g R F' ∧ outF n F' s = outF n F s + m ∧ 1 ≤ m ∧ m ≤ 100 := by
  obtain ⟨t, K, hT, hm, hc⟩ := hs
  have a := h.1
  have k1 : 1 ≤ m := by
    rw [hm]
    exact mnL_ge (by omega) K (fun i hi => by have : 0 < lf R F (t i) (t (i + 1)) := hT.2.2.2.1 i hi; omega)
  have k2 : m ≤ 100 := by
    have b := mnL_le (v := lf R F) (t := t) K 0 hT.1.2.2.1
    have c := (h.lf_le (a := t 0) (b := t (0 + 1)) (by have := hT.2.1 0 (by omega); omega) (by have := hT.2.1 (0 + 1) hT.1.2.2.1; omega)).2
    omega
  obtain ⟨x, y⟩ := h.way hc hT.dis hT.2.1 hT.1.1 hT.1.2.1 (by have := h.2.2.2.2.2; omega) (Or.inl ⟨by omega, fun i hi => by rw [hm]; exact mnL_le K i hi⟩)
  exact ⟨x, y, k1, k2⟩
theorem sn_L18 {R F : Nat → Int32} {n K : Nat} {t : Nat → Nat} {f : Nat → Int32} {P : Int32 × (Nat → Int32) → Prop} {k1 : Int32 → Option (Int32 × (Nat → Int32))} (hn : n ≤ 9) (hK : K < n) (ht : ∀ i, i ≤ K → t i < n) (hf : ∀ i, i ≤ K → (f i).toInt = t i) (hR : sm R) (hF : sm F) (hk : ∀ i : Int32, i.toInt = mnL (lf R F) t K → Ok (k1 i) P) : ∀ (r c : Nat) (i36 i37 : Int32) (j : Nat), j + r = K → r < c → i37.toInt = j + 1 → i36.toInt = mnL (lf R F) t j → Ok (LX8_stepNow_L18 R F (K + 1) f c i36 i37 k1) P := by
  intro r
  have en := ofNat_iv (n := K + 1) (by omega)
  induction r with
  | zero =>
    intro c i36 i37 j hj hc h37 h36
    cases c with
    | zero => omega
    | succ c =>
      show Ok (BX8_stepNow_L18 R F (K + 1) f i36 i37 (fun a b => LX8_stepNow_L18 R F (K + 1) f c a b k1) k1) P
      unfold BX8_stepNow_L18
      refine Ok_if (fun _ => hk _ (by rw [h36, show j = K by omega])) (fun h => ?_)
      have h := i32nle h
      omega
  | succ r ih =>
    intro c i36 i37 j hj hc h37 h36
    cases c with
    | zero => omega
    | succ c =>
      show Ok (BX8_stepNow_L18 R F (K + 1) f i36 i37 (fun a b => LX8_stepNow_L18 R F (K + 1) f c a b k1) k1) P
      unfold BX8_stepNow_L18
      refine Ok_if (fun h => ?_) (fun _ => ?_)
      · have h := i32le h
        omega
      · have ei := inc_iv (x := i37) (by omega)
        have t1 : (1 : Int32).toInt = 1 := rfl
        have es : (i37 - (1 : Int32)).toInt = (j : Int) := by rw [sub_iv (by omega) (by omega)]; omega
        obtain ⟨y, wy⟩ : ∃ y, y = i37 - (1 : Int32) := ⟨_, rfl⟩
        rw [← wy] at es ⊢
        clear wy
        have h37b : i37.toInt = ((j + 1 : Nat) : Int) := by omega
        refine Ok_inB (vp_of (by omega) (by omega)) (Ok_inB (vp_of (by omega) (by omega)) ?_)
        rw [toNat_iv es, toNat_iv h37b]
        have a := ht j (by omega)
        have b := ht (j + 1) (by omega)
        refine Ok_bind (left_iv (hf j (by omega)) (hf (j + 1) (by omega)) (by omega) (by omega) hR hF) (fun z hz => Ok_nm (fun x wx => ?_))
        refine ih c x (i37 + 1) (j + 1) (by omega) (by omega) (by omega) ?_
        rw [wx]
        show (if z < i36 then z else i36).toInt = (if lf R F (t j) (t (j + 1)) < mnL (lf R F) t j then lf R F (t j) (t (j + 1)) else mnL (lf R F) t j)
        by_cases q : z < i36
        · have q2 := i32lt q
          rw [if_pos q, if_pos (by omega)]; exact hz
        · have q2 := i32nlt q
          rw [if_neg q, if_neg (by omega)]; exact h36
theorem sn_L53 {F : Nat → Int32} {n K : Nat} {m : Int} {t : Nat → Nat} {f : Nat → Int32} {i40 : Int32} (hn : n ≤ 9) (hK : K < n) (ht : ∀ i, i ≤ K → t i < n) (hd : dis t K) (hf : ∀ i, i ≤ K → (f i).toInt = t i) (h40 : i40.toInt = m) (hm : -200 ≤ m ∧ m ≤ 200) (hF : ∀ a b, a < 9 → b < 9 → -100 ≤ G F a b ∧ G F a b ≤ 100) : ∀ (r c : Nat) (i58 : Int32) (f59 : Nat → Int32) (j : Nat), j + r = K → r < c → i58.toInt = j + 1 → carried F f59 t m j → Ok (LX8_stepNow_L53 i40 (K + 1) f c i58 f59) (fun z => z.1 = i40 ∧ carried F z.2 t m K) := by
  intro r
  have en := ofNat_iv (n := K + 1) (by omega)
  induction r with
  | zero =>
    intro c i58 f59 j hj hc h58 hC
    cases c with
    | zero => omega
    | succ c =>
      show Ok (BX8_stepNow_L53 i40 (K + 1) f i58 f59 (fun a b => LX8_stepNow_L53 i40 (K + 1) f c a b)) _
      unfold BX8_stepNow_L53
      have e : j = K := by omega
      subst e
      refine Ok_if (fun _ => Ok_some ⟨rfl, hC⟩) (fun h => ?_)
      have h := i32nle h
      omega
  | succ r ih =>
    intro c i58 f59 j hj hc h58 hC
    cases c with
    | zero => omega
    | succ c =>
      show Ok (BX8_stepNow_L53 i40 (K + 1) f i58 f59 (fun a b => LX8_stepNow_L53 i40 (K + 1) f c a b)) _
      unfold BX8_stepNow_L53
      refine Ok_if (fun h => ?_) (fun _ => ?_)
      · have h := i32le h
        omega
      · have ei := inc_iv (x := i58) (by omega)
        have t1 : (1 : Int32).toInt = 1 := rfl
        have es : (i58 - (1 : Int32)).toInt = (j : Int) := by rw [sub_iv (by omega) (by omega)]; omega
        obtain ⟨y, wy⟩ : ∃ y, y = i58 - (1 : Int32) := ⟨_, rfl⟩
        rw [← wy] at es ⊢
        clear wy
        have h58b : i58.toInt = ((j + 1 : Nat) : Int) := by omega
        refine Ok_inB (vp_of (by omega) (by omega)) (Ok_inB (vp_of (by omega) (by omega)) ?_)
        rw [toNat_iv es, toNat_iv h58b]
        have a := ht j (by omega)
        have b := ht (j + 1) (by omega)
        have hne : t j ≠ t (j + 1) := fun e => (hd j j (by omega) (by omega)).2 ⟨e, e.symm⟩
        refine Ok_bind (flowOn_iv (hf j (by omega)) (hf (j + 1) (by omega)) h40 (by omega) (by omega) hne (by omega) (fun x y hx hy => ?_)) (fun z hz => ?_)
        · have k1 := hF x y hx hy
          have k2 := hC x y hx hy
          rcases mvs3 hd m x y j (by omega) with ⟨i, -, -, -, i4⟩ | ⟨i, -, -, -, i4⟩ | ⟨i4, -⟩ <;> omega
        · refine ih c (i58 + 1) z (j + 1) (by omega) (by omega) (by omega) (fun x y hx hy => ?_)
          rw [hz.1 x y hx hy, hC x y hx hy]
          show _ = G F x y + (mvs t m x y j + (if x = t j ∧ y = t (j + 1) then m else 0) - (if x = t (j + 1) ∧ y = t j then m else 0))
          omega
theorem stepNow_iv {i3 i6 i7 i8 i9 i10 i11 i2 : Int32} {R F : Nat → Int32} {n s g : Nat} (h3 : i3.toInt = n) (h6 : i6.toInt = s) (h7 : i7.toInt = g) (hI : FI n s g R F) (h2 : 0 ≤ i2.toInt ∧ i2.toInt ≤ 2) : Ok (fX8_stepNow i3 i6 i7 i8 i9 i10 i11 R F i2) (fun z => (z = (0, F) ∧ ¬ tracks n s g R F) ∨ stepped n s g R i2.toInt F z.2 z.1.toInt) := by
  unfold fX8_stepNow
  refine Ok_bind (trackBy_iv h3 h6 h7 hI.1 hI.2.1.1 hI.2.1.2.1 hI.2.1.2.2 hI.smR hI.smF h2) (fun z hz => ?_)
  refine Ok_oc (fun e => ?_) (fun k f e => ?_)
  · rcases hz with hz | ⟨f, t, K, e2, -⟩
    · exact Ok_some (Or.inl ⟨rfl, fun ⟨k, hk⟩ => hz.2 k hk⟩)
    · rw [e] at e2; cases e2
  · rcases hz with hz | ⟨f2, t, K, e2, hT, hf⟩
    · rw [e] at hz; cases hz.1
    · rw [e] at e2
      cases e2
      have a := hI.1
      have hT0 := hT.1
      refine sn_L18 (K := K) (t := t) a.2 hT0.2.2.2 hT.2.1 hf hI.smR hI.smF (fun i40 h40 => ?_) K 600 _ _ 0 (by omega) (by omega) rfl rfl
      have k1 : 1 ≤ mnL (lf R F) t K := mnL_ge (by omega) K (fun i hi => by have : 0 < lf R F (t i) (t (i + 1)) := hT.2.2.2.1 i hi; omega)
      have k2 : mnL (lf R F) t K ≤ 100 := by
        have b := mnL_le (v := lf R F) (t := t) K 0 hT0.2.2.1
        have c := (hI.lf_le (a := t 0) (b := t (0 + 1)) (by have := hT.2.1 0 (by omega); omega) (by have := hT.2.1 (0 + 1) hT0.2.2.1; omega)).2
        omega
      refine Ok_mono (sn_L53 (n := n) (K := K) (t := t) a.2 hT0.2.2.2 hT.2.1 hT.dis hf h40 (by omega) (fun x y hx hy => by have := (hI.flow hx hy).1; omega) K 600 1 F 0 (by omega) (by omega) rfl (fun x y _ _ => (Int.add_zero _).symm)) (fun z hz => ?_)
      exact Or.inr ⟨t, K, hT, by rw [hz.1, h40], by rw [hz.1, h40]; exact hz.2⟩
def filled (n s g : Nat) (R : Nat → Int32) (rule : Int) : Nat → (Nat → Int32) → (Nat → Int32) → Prop
  | 0, F, F' => F' = F ∧ ¬ tracks n s g R F
  | c + 1, F, F' => ∃ F1 m, stepped n s g R rule F F1 m ∧ filled n s g R rule c F1 F'
theorem fill_loop {i3 i6 i7 i9 i10 i2 i8 i34 : Int32} {R : Nat → Int32} {n s g : Nat} {P : Int32 × Int32 × Int32 × (Nat → Int32) → Prop} {k1 : Int32 → (Nat → Int32) → Option (Int32 × Int32 × Int32 × (Nat → Int32))} (h3 : i3.toInt = n) (h6 : i6.toInt = s) (h7 : i7.toInt = g) (h2 : 0 ≤ i2.toInt ∧ i2.toInt ≤ 2) : ∀ (c : Nat) (i33 : Int32) (F : Nat → Int32), FI n s g R F → 400 - outF n F s < c → (0 ≤ i33.toInt ∧ i33.toInt ≤ outF n F s) → (∀ (j : Nat) (i : Int32) (F' : Nat → Int32), i.toInt = i33.toInt + j → FI n s g R F' → filled n s g R i2.toInt j F F' → Ok (k1 i F') P) → Ok (LX8_fill_L23 i3 i6 i7 i9 i10 R i2 i8 i34 c i33 F k1) P := by
  intro c
  induction c with
  | zero =>
    intro i33 F hI hc h33 hk
    have := hI.value400
    omega
  | succ c ih =>
    intro i33 F hI hc h33 hk
    show Ok (BX8_fill_L23 i3 i6 i7 i9 i10 R i2 i8 i34 i33 F (fun a b => LX8_fill_L23 i3 i6 i7 i9 i10 R i2 i8 i34 c a b k1) k1) P
    unfold BX8_fill_L23
    have t0 : (0 : Int32).toInt = 0 := rfl
    have hv := hI.value400
    refine Ok_bind (stepNow_iv h3 h6 h7 hI h2) (fun z hz => ?_)
    refine Ok_if (fun h => ?_) (fun h => ?_)
    · have h := i32le h
      rcases hz with ⟨e, hz⟩ | hz
      · rw [e]
        exact hk 0 i33 F (by omega) hI ⟨rfl, hz⟩
      · have := (hI.ofstep hz).2.2.1
        omega
    · have h := i32nle h
      rcases hz with ⟨e, hz⟩ | hz
      · rw [e] at h
        have h : (0 : Int32).toInt < (0 : Int32).toInt := h
        omega
      · obtain ⟨a1, a2, a3, a4⟩ := hI.ofstep hz
        have ei := inc_iv (x := i33) (by omega)
        exact ih (i33 + 1) z.2 a1 (by omega) (by omega) (fun j i F' hj hF hf => hk (j + 1) i F' (by omega) hF ⟨z.2, _, hz, hf⟩)
