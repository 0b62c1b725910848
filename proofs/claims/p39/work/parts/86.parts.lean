/-! THE PARTS OF A FLOW: sums, how many pairs flow -/
theorem sumN_le0 {f : Nat → Int} : ∀ (k : Nat), (∀ b, b < k → f b ≤ 0) → sumN k f ≤ 0 ∧ ∀ b, b < k → sumN k f ≤ f b
  | 0, _ => ⟨Int.le_refl _, fun b hb => by omega⟩
  | k + 1, h => by
    obtain ⟨a, b⟩ := sumN_le0 k (fun b hb => h b (by omega))
    have c := h k (by omega)
    unfold sumN
    refine ⟨by omega, fun x hx => ?_⟩
    by_cases e : x = k
    · subst e; omega
    · have := b x (by omega); omega
theorem sumN_pos {f : Nat → Int} {k : Nat} (h : 0 < sumN k f) : ∃ b, b < k ∧ 0 < f b := Classical.byContradiction (fun q => by
  have := (sumN_le0 (f := f) k (fun b hb => by
    rcases Int.lt_or_le 0 (f b) with c | c
    · exact absurd ⟨b, hb, c⟩ q
    · exact c)).1
  omega)
theorem sumN_neg_pos {f : Nat → Int} {k b : Nat} (h : 0 ≤ sumN k f) (hb : b < k) (hf : f b < 0) : ∃ c, c < k ∧ 0 < f c := Classical.byContradiction (fun q => by
  have := (sumN_le0 (f := f) k (fun b hb => by
    rcases Int.lt_or_le 0 (f b) with c | c
    · exact absurd ⟨b, hb, c⟩ q
    · exact c)).2 b hb
  omega)
theorem sumN_neg {f : Nat → Int} : ∀ k, sumN k (fun b => -f b) = -sumN k f
  | 0 => rfl
  | k + 1 => by
    unfold sumN
    rw [sumN_neg k]
    show -sumN k f + -f k = _
    omega
theorem sum_anti {f : Nat → Nat → Int} : ∀ (n : Nat), (∀ a b, a < n → b < n → f a b = -f b a) → sumN n (fun a => sumN n (f a)) = 0
  | 0, _ => rfl
  | n + 1, h => by
    have ih := sum_anti n (fun a b ha hb => h a b (by omega) (by omega))
    have hn := h n n (by omega) (by omega)
    have e1 : sumN n (fun a => sumN (n + 1) (f a)) = sumN n (fun a => sumN n (f a)) + sumN n (fun a => f a n) := sumN_add (f := fun a => sumN n (f a)) (g := fun a => f a n) n
    have e2 : sumN n (fun a => f a n) = -sumN n (f n) := by
      rw [← sumN_neg]
      exact sumN_eq n (fun a ha => h a n (by omega) (by omega))
    show sumN n (fun a => sumN (n + 1) (f a)) + (sumN n (f n) + f n n) = 0
    omega
theorem FI.goal {n s g : Nat} {R F : Nat → Int32} (h : FI n s g R F) : outF n F g = -outF n F s := by
  have a := h.1
  have b := h.2.1
  have t : sumN n (outF n F) = 0 := sum_anti (f := G F) n (fun x y hx hy => (h.2.2.2.1 x y (by omega) (by omega)).1)
  have e1 := sumN_one (f := fun _ => 0) (g := fun x => (0 : Int) + if x = s then outF n F s else 0) (c := s) (d := outF n F s) n (fun _ _ => rfl)
  have e2 := sumN_one (f := fun x => (0 : Int) + if x = s then outF n F s else 0) (g := outF n F) (c := g) (d := outF n F g) n (fun x hx => by
    by_cases c1 : x = s
    · rw [if_pos c1, if_neg (fun q => b.2.2 (c1.symm.trans q)), c1]; omega
    · by_cases c2 : x = g
      · rw [if_neg c1, if_pos c2, c2]; omega
      · rw [if_neg c1, if_neg c2, h.2.2.2.2.1 x hx c1 c2]; omega)
  rw [e1, sumN_zero, if_pos b.1, if_pos b.2.1, t] at e2
  omega
theorem FI.outs {n s g x : Nat} {R F : Nat → Int32} (h : FI n s g R F) (hx : x < n) (hg : ¬ (0 < outF n F s ∧ x = g)) : 0 ≤ outF n F x := by
  have v := h.2.2.2.2.2
  by_cases c1 : x = s
  · rw [c1]; exact v
  · by_cases c2 : x = g
    · have := h.goal
      rw [c2, this]
      have : ¬ 0 < outF n F s := fun q => hg ⟨q, c2⟩
      omega
    · rw [h.2.2.2.2.1 x hx c1 c2]; omega
def nxt (n : Nat) (F : Nat → Int32) (a y : Nat) : Prop := y < n ∧ 0 < G F a y ∧ ∀ x, x < y → G F a x ≤ 0
theorem nxt_ex {n : Nat} {F : Nat → Int32} {a : Nat} : ∀ k y, y ≤ k → y < n → 0 < G F a y → ∃ z, nxt n F a z := by
  intro k
  induction k with
  | zero => intro y hy hn h; exact ⟨y, hn, h, fun x hx => by omega⟩
  | succ k ih =>
    intro y hy hn h
    by_cases c : ∃ x, x < y ∧ 0 < G F a x
    · obtain ⟨x, h1, h2⟩ := c
      exact ih x (by omega) (by omega) h2
    · exact ⟨y, hn, h, fun x hx => by
        rcases Int.lt_or_le 0 (G F a x) with q | q
        · exact absurd ⟨x, hx, q⟩ c
        · exact q⟩
theorem nxt_uni {n : Nat} {F : Nat → Int32} {a y z : Nat} (h1 : nxt n F a y) (h2 : nxt n F a z) : y = z := by
  rcases Nat.lt_trichotomy y z with c | c | c
  · have := h2.2.2 y c; have := h1.2.1; omega
  · exact c
  · have := h1.2.2 z c; have := h2.2.1; omega
def empt (n s : Nat) (F : Nat → Int32) : Prop := outF n F s = 0 ∧ ∀ a b, a < n → b < n → G F a b ≤ 0
def frm (n s : Nat) (F : Nat → Int32) (x : Nat) : Prop := (0 < outF n F s ∧ x = s) ∨ (outF n F s = 0 ∧ x < n ∧ (∃ y, y < n ∧ 0 < G F x y) ∧ ∀ a y, a < x → y < n → G F a y ≤ 0)
def PRT (n s g : Nat) (F : Nat → Int32) (w : Nat → Nat) (M b : Nat) (way m : Int) : Prop :=
  frm n s F (w 0) ∧ (1 ≤ M ∧ M ≤ n ∧ b < M) ∧ (∀ i, i < M → nxt n F (w i) (w (i + 1))) ∧ (∀ i j, i < M → j < M → w i = w j → i = j) ∧
  (∀ i, 1 ≤ i → i < M → ¬ (0 < outF n F s ∧ w i = g)) ∧
  ((way = 1 ∧ 0 < outF n F s ∧ w M = g ∧ b = 0 ∧ (∀ i, i < M → w i ≠ w M) ∧ m = min (outF n F s) (mnL (G F) (fun i => w (b + i)) (M - b))) ∨ (way = 0 ∧ w M = w b ∧ m = mnL (G F) (fun i => w (b + i)) (M - b)))
theorem PRT.lt {n s g M b : Nat} {R F : Nat → Int32} {w : Nat → Nat} {way m : Int} (h : PRT n s g F w M b way m) (hI : FI n s g R F) : ∀ i, i ≤ M → w i < n := by
  intro i hi
  rcases Nat.eq_zero_or_pos i with e | e
  · subst e
    rcases h.1 with ⟨-, q⟩ | ⟨-, q, -⟩
    · rw [q]; exact hI.2.1.1
    · exact q
  · have := (h.2.2.1 (i - 1) (by omega)).1
    rw [show i - 1 + 1 = i by omega] at this
    exact this
theorem PRT.dis {n s g M b : Nat} {R F : Nat → Int32} {w : Nat → Nat} {way m : Int} (h : PRT n s g F w M b way m) (hI : FI n s g R F) : dis (fun i => w (b + i)) (M - b) := by
  intro i j hi hj
  have lt := h.lt hI
  have a := hI.1
  refine ⟨fun e => by have := h.2.2.2.1 (b + i) (b + j) (by omega) (by omega) e.1; omega, fun e => ?_⟩
  have e1 : w (b + i) = w (b + j + 1) := e.1
  have e2 : w (b + i + 1) = w (b + j) := e.2
  have p1 := (h.2.2.1 (b + i) (by omega)).2.1
  have p2 := (h.2.2.1 (b + j) (by omega)).2.1
  rw [← e1, ← e2] at p2
  have := (hI.2.2.2.1 (w (b + i)) (w (b + i + 1)) (by have := lt (b + i) (by omega); omega) (by have := lt (b + i + 1) (by omega); omega)).1
  omega
theorem PRT.pos {n s g M b : Nat} {F : Nat → Int32} {w : Nat → Nat} {way m : Int} (h : PRT n s g F w M b way m) {i : Nat} (hi : i < M - b) : 0 < G F (w (b + i)) (w (b + (i + 1))) := (h.2.2.1 (b + i) (by omega)).2.1
theorem PRT.amount {n s g M b : Nat} {R F : Nat → Int32} {w : Nat → Nat} {way m : Int} (h : PRT n s g F w M b way m) (hI : FI n s g R F) : 1 ≤ m ∧ m ≤ 50 ∧ (∀ i, i < M - b → m ≤ G F (w (b + i)) (w (b + (i + 1)))) ∧ (way = 1 → m ≤ outF n F s) := by
  have lt := h.lt hI
  have a := hI.1
  have hm := h.2.1
  have k1 : 1 ≤ mnL (G F) (fun i => w (b + i)) (M - b) := mnL_ge (by omega) (M - b) (fun i hi => by have := h.pos hi; show 1 ≤ G F (w (b + i)) (w (b + (i + 1))); omega)
  have k2 : ∀ i, i < M - b → mnL (G F) (fun i => w (b + i)) (M - b) ≤ G F (w (b + i)) (w (b + (i + 1))) := fun i hi => mnL_le (v := G F) (t := fun i => w (b + i)) (M - b) i hi
  have k3 := k2 0 (by omega)
  have k4 := (hI.flow (a := w (b + 0)) (b := w (b + (0 + 1))) (by have := lt (b + 0) (by omega); omega) (by have := lt (b + (0 + 1)) (by omega); omega)).1
  rcases h.2.2.2.2.2 with ⟨q1, q2, q3, q4, q5, q6⟩ | ⟨q1, q2, q3⟩
  · exact ⟨by omega, by omega, fun i hi => by have := k2 i hi; omega, fun _ => by omega⟩
  · exact ⟨by omega, by omega, fun i hi => by have := k2 i hi; omega, fun e => by omega⟩
theorem PRT.keeps {n s g M b : Nat} {R F F' : Nat → Int32} {w : Nat → Nat} {way m : Int} (h : PRT n s g F w M b way m) (hI : FI n s g R F) (hc : carried F F' (fun i => w (b + i)) (-m) (M - b)) : FI n s g R F' ∧ outF n F' s = outF n F s - (if way = 1 then m else 0) := by
  have hd := h.dis hI
  have am := h.amount hI
  have lt := h.lt hI
  have hm := h.2.1
  rcases h.2.2.2.2.2 with ⟨q1, q2, q3, q4, q5, q6⟩ | ⟨q1, q2, q3⟩
  · rw [if_pos q1]
    have h0 : w (b + 0) = s := by
      rw [q4]
      rcases h.1 with ⟨-, q⟩ | ⟨q, -⟩
      · exact q
      · omega
    obtain ⟨x, y⟩ := hI.way hc hd (fun i hi => lt _ (by omega)) h0 (by show w (b + (M - b)) = g; rw [show b + (M - b) = M by omega]; exact q3) (by have := am.2.2.2 q1; omega) (Or.inr ⟨by omega, fun i hi => by have := am.2.2.1 i hi; show -(-m) ≤ G F (w (b + i)) (w (b + (i + 1))); omega⟩)
    exact ⟨x, by omega⟩
  · rw [if_neg (show ¬ way = 1 by omega)]
    obtain ⟨x, y⟩ := hI.ring hc hd (fun i hi => lt _ (by omega)) (by show w (b + 0) = w (b + (M - b)); rw [show b + (M - b) = M by omega, q2]; rfl) (Or.inr ⟨by omega, fun i hi => by have := am.2.2.1 i hi; show -(-m) ≤ G F (w (b + i)) (w (b + (i + 1))); omega⟩)
    exact ⟨x, by rw [y s hI.2.1.1]; omega⟩
def nzr (F : Nat → Int32) (a : Nat) : Nat → Nat
  | 0 => 0
  | b + 1 => nzr F a b + (if G F a b = 0 then 0 else 1)
def nzA (F : Nat → Int32) : Nat → Nat
  | 0 => 0
  | a + 1 => nzA F a + nzr F a a
theorem nzr_bd (F : Nat → Int32) (a : Nat) : ∀ k, nzr F a k ≤ k
  | 0 => Nat.le_refl _
  | k + 1 => by
    have := nzr_bd F a k
    unfold nzr
    split <;> omega
theorem nzA_bd (F : Nat → Int32) : nzA F 9 ≤ 36 := by
  have h := nzr_bd F
  have h0 := h 0 0
  have h1 := h 1 1
  have h2 := h 2 2
  have h3 := h 3 3
  have h4 := h 4 4
  have h5 := h 5 5
  have h6 := h 6 6
  have h7 := h 7 7
  have h8 := h 8 8
  show 0 + nzr F 0 0 + nzr F 1 1 + nzr F 2 2 + nzr F 3 3 + nzr F 4 4 + nzr F 5 5 + nzr F 6 6 + nzr F 7 7 + nzr F 8 8 ≤ 36
  omega
theorem nzr_le {F F' : Nat → Int32} {a : Nat} : ∀ k, (∀ b, b < k → G F a b = 0 → G F' a b = 0) → nzr F' a k ≤ nzr F a k
  | 0, _ => Nat.le_refl _
  | k + 1, h => by
    have := nzr_le k (fun b hb => h b (by omega))
    have e := h k (by omega)
    unfold nzr
    by_cases c : G F a k = 0
    · rw [if_pos c, if_pos (e c)]; omega
    · rw [if_neg c]
      split <;> omega
theorem nzr_lt {F F' : Nat → Int32} {a b : Nat} : ∀ k, b < k → (∀ b, b < k → G F a b = 0 → G F' a b = 0) → G F a b ≠ 0 → G F' a b = 0 → nzr F' a k + 1 ≤ nzr F a k
  | 0, hb, _, _, _ => by omega
  | k + 1, hb, h, h1, h2 => by
    unfold nzr
    by_cases e : b = k
    · subst e
      have := nzr_le (F := F) (F' := F') (a := a) b (fun b hb => h b (by omega))
      rw [if_pos h2, if_neg h1]; omega
    · have := nzr_lt (F := F) (F' := F') (a := a) (b := b) k (by omega) (fun b hb => h b (by omega)) h1 h2
      have q := h k (by omega)
      by_cases c : G F a k = 0
      · rw [if_pos c, if_pos (q c)]; omega
      · rw [if_neg c]
        split <;> omega
theorem nzA_le {F F' : Nat → Int32} : ∀ k, (∀ a b, a < k → b < a → G F a b = 0 → G F' a b = 0) → nzA F' k ≤ nzA F k
  | 0, _ => Nat.le_refl _
  | k + 1, h => by
    have a := nzA_le k (fun a b ha hb => h a b (by omega) hb)
    have b := nzr_le (F := F) (F' := F') (a := k) k (fun b hb => h k b (by omega) hb)
    unfold nzA
    omega
theorem nzA_lt {F F' : Nat → Int32} {a b : Nat} : ∀ k, a < k → b < a → (∀ a b, a < k → b < a → G F a b = 0 → G F' a b = 0) → G F a b ≠ 0 → G F' a b = 0 → nzA F' k + 1 ≤ nzA F k
  | 0, ha, _, _, _, _ => by omega
  | k + 1, ha, hb, h, h1, h2 => by
    unfold nzA
    by_cases e : a = k
    · subst e
      have x := nzA_le (F := F) (F' := F') a (fun a b ha hb => h a b (by omega) hb)
      have y := nzr_lt (F := F) (F' := F') (a := a) (b := b) a hb (fun b hb => h a b (by omega) hb) h1 h2
      omega
    · have x := nzA_lt (F := F) (F' := F') (a := a) (b := b) k (by omega) hb (fun a b ha hb => h a b (by omega) hb) h1 h2
      have y := nzr_le (F := F) (F' := F') (a := k) k (fun b hb => h k b (by omega) hb)
      omega
def mu (n s : Nat) (F : Nat → Int32) : Nat := nzA F 9 + (if 0 < outF n F s then 1 else 0)
theorem mu_bd (n s : Nat) (F : Nat → Int32) : mu n s F ≤ 37 := by
  have := nzA_bd F
  unfold mu
  split <;> omega
theorem PRT.less {n s g M b : Nat} {R F F' : Nat → Int32} {w : Nat → Nat} {way m : Int} (h : PRT n s g F w M b way m) (hI : FI n s g R F) (hc : carried F F' (fun i => w (b + i)) (-m) (M - b)) : mu n s F' + 1 ≤ mu n s F := by
  have hd := h.dis hI
  have am := h.amount hI
  have lt := h.lt hI
  have hm := h.2.1
  have n9 := hI.1
  have kv := (h.keeps hI hc).2
  have kF := (h.keeps hI hc).1
  have zero : ∀ x y, x < 9 → y < 9 → G F x y = 0 → G F' x y = 0 := by
    intro x y hx hy h0
    rw [hc x y hx hy]
    rcases mvs3 hd (-m) x y (M - b) (Nat.le_refl _) with ⟨i, i1, i2, i3, -⟩ | ⟨i, i1, i2, i3, -⟩ | ⟨i1, -⟩
    · have := h.pos i1
      rw [show w (b + i) = x from i2.symm, show w (b + (i + 1)) = y from i3.symm] at this
      omega
    · have := h.pos i1
      rw [show w (b + (i + 1)) = x from i2.symm, show w (b + i) = y from i3.symm] at this
      have := (hI.2.2.2.1 x y hx hy).1
      omega
    · omega
  have nle := nzA_le (F := F) (F' := F') 9 (fun a b ha hb => zero a b ha (by omega))
  have strict : m = mnL (G F) (fun i => w (b + i)) (M - b) → nzA F' 9 + 1 ≤ nzA F 9 := by
    intro e
    rcases mnL_is (v := G F) (t := fun i => w (b + i)) (M - b) with q | ⟨i, i1, i2⟩
    · omega
    · have p := h.pos i1
      have i2 : mnL (G F) (fun i => w (b + i)) (M - b) = G F (w (b + i)) (w (b + (i + 1))) := i2
      have l1 := lt (b + i) (by omega)
      have l2 := lt (b + (i + 1)) (by omega)
      have z : G F' (w (b + i)) (w (b + (i + 1))) = 0 := by
        rw [hc _ _ (by omega) (by omega)]
        have d := hd i
        rcases mvs3 hd (-m) (w (b + i)) (w (b + (i + 1))) (M - b) (Nat.le_refl _) with ⟨j, j1, j2, j3, j4⟩ | ⟨j, j1, j2, j3, j4⟩ | ⟨-, j2⟩
        · omega
        · exact absurd ⟨j3, j2⟩ (fun q : w (b + (i + 1)) = w (b + j) ∧ w (b + i) = w (b + (j + 1)) => (d j i1 j1).2 ⟨q.2, q.1⟩)
        · exact absurd ⟨rfl, rfl⟩ (j2 i i1).1
      have anti := (hI.2.2.2.1 (w (b + i)) (w (b + (i + 1))) (by omega) (by omega)).1
      have anti2 := (kF.2.2.2.1 (w (b + i)) (w (b + (i + 1))) (by omega) (by omega)).1
      have ne : w (b + i) ≠ w (b + (i + 1)) := fun q => by
        rw [← q] at anti p; omega
      rcases Nat.lt_or_ge (w (b + (i + 1))) (w (b + i)) with c | c
      · exact nzA_lt 9 (by omega) c (fun a b ha hb => zero a b ha (by omega)) (by omega) z
      · exact nzA_lt (a := w (b + (i + 1))) (b := w (b + i)) 9 (by omega) (by omega) (fun a b ha hb => zero a b ha (by omega)) (by omega) (by omega)
  unfold mu
  rcases h.2.2.2.2.2 with ⟨q1, q2, q3, q4, q5, q6⟩ | ⟨q1, q2, q3⟩
  · rw [if_pos q1] at kv
    rw [if_pos q2]
    rcases Int.lt_or_le (outF n F s) (mnL (G F) (fun i => w (b + i)) (M - b)) with c | c
    · rw [if_neg (show ¬ 0 < outF n F' s by omega)]; omega
    · have := strict (by omega)
      split <;> omega
  · rw [if_neg (show ¬ way = 1 by omega)] at kv
    have := strict q3
    have e : outF n F' s = outF n F s := by omega
    rw [e]
    omega
def prts (n s g : Nat) : List (Int × Int × List Nat) → (Nat → Int32) → Prop
  | [], F => empt n s F
  | q :: l, F => ∃ F1 w M b, PRT n s g F w M b q.1 q.2.1 ∧ q.2.2 = (List.range (M - b + 1)).map (fun i => w (b + i)) ∧ carried F F1 (fun i => w (b + i)) (-q.2.1) (M - b) ∧ prts n s g l F1
theorem upd2_moved {F : Nat → Int32} {x : Int32} {a b : Nat} (ha : a < 9) (hb : b < 9) (hab : a ≠ b) (hx : -1000 ≤ x.toInt ∧ x.toInt ≤ 1000) (hF : sm F) : moved F (upd (upd F (a * 9 + b) (F (a * 9 + b) - x)) (b * 9 + a) (upd F (a * 9 + b) (F (a * 9 + b) - x) (b * 9 + a) + x)) a b (-x.toInt) := by
  have g1 := hF a b ha hb
  have g2 := hF b a hb ha
  have hne : b * 9 + a ≠ a * 9 + b := fun e => hab (idx_inj ha hb e).1.symm
  have e1 : (F (a * 9 + b) - x).toInt = G F a b - x.toInt := sub_iv (by show -2147483648 ≤ G F a b - x.toInt; omega) (by show G F a b - x.toInt < 2147483648; omega)
  have e2 : (F (b * 9 + a) + x).toInt = G F b a + x.toInt := add_iv (by show -2147483648 ≤ G F b a + x.toInt; omega) (by show G F b a + x.toInt < 2147483648; omega)
  have u1 : upd F (a * 9 + b) (F (a * 9 + b) - x) (b * 9 + a) = F (b * 9 + a) := by unfold upd; rw [if_neg hne]
  rw [u1]
  intro p y hp hy
  unfold G upd
  by_cases c2 : p * 9 + y = b * 9 + a
  · have q := idx_inj hy ha c2
    rw [if_pos c2, e2, if_neg (by omega), if_pos q, q.1, q.2]
    unfold G
    omega
  · rw [if_neg c2]
    by_cases c1 : p * 9 + y = a * 9 + b
    · have q := idx_inj hy hb c1
      rw [if_pos c1, e1, if_pos q, if_neg (by omega), q.1, q.2]
      unfold G
      omega
    · rw [if_neg c1, if_neg (fun q => c1 (by rw [q.1, q.2])), if_neg (fun q => c2 (by rw [q.1, q.2]))]
      omega
