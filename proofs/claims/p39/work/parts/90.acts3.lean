/-! THE REFERENCE'S ACTS, sharply: turned round, swapped -/
def tp (a b x y : Nat) : Prop := (x < a ∧ y < a) ∨ (x = a ∧ y < b) ∨ (y = a ∧ x < b)
def turned (n : Nat) (F F' : Nat → Int32) : Prop := ∀ x y, x < 9 → y < 9 → G F' x y = if x < n ∧ y < n then G F y x else G F x y
theorem exchange_iv {F : Nat → Int32} {i j k l : Int32} {a b : Nat} (hi : i.toInt = a) (hj : j.toInt = b) (ha : a < 9) (hb : b < 9) (hab : b < a) (hk : k = (i * (9 : Int32)) + j) (hl : l = (j * (9 : Int32)) + i) : Ok (fX8_exchange F k l) (fun z => ∀ x y, x < 9 → y < 9 → G z x y = if (x = a ∧ y = b) ∨ (x = b ∧ y = a) then G F y x else G F x y) := by
  obtain ⟨g1, g2⟩ := G_idx hi hj ha hb
  obtain ⟨g3, g4⟩ := G_idx hj hi hb ha
  unfold fX8_exchange
  rw [← hk] at g1 g2
  rw [← hl] at g3 g4
  rw [g2, g4]
  refine Ok_inB g1 (Ok_nm (fun i5 w5 => Ok_inB g3 (Ok_inB g1 (Ok_inB g3 (Ok_some (fun x y hx hy => ?_))))))
  rw [isput_upd (F := upd F (a * 9 + b) (F (b * 9 + a))) ha x y hx hy, isput_upd (F := F) hb x y hx hy, w5]
  by_cases c1 : x = b ∧ y = a
  · rw [if_pos c1, if_pos (Or.inr c1), c1.1, c1.2]; rfl
  · rw [if_neg c1]
    by_cases c2 : x = a ∧ y = b
    · rw [if_pos c2, if_pos (Or.inl c2), c2.1, c2.2]; rfl
    · rw [if_neg c2, if_neg (fun q => q.elim c2 c1)]
theorem turn_step {n a b : Nat} {F f z : Nat → Int32} (hab : b < a) (hf : ∀ x y, x < 9 → y < 9 → G f x y = @ite _ (tp a b x y) (Classical.propDecidable _) (G F y x) (G F x y)) (hz : ∀ x y, x < 9 → y < 9 → G z x y = if (x = a ∧ y = b) ∨ (x = b ∧ y = a) then G f y x else G f x y) : ∀ x y, x < 9 → y < 9 → G z x y = @ite _ (tp a (b + 1) x y) (Classical.propDecidable _) (G F y x) (G F x y) := by
  intro x y hx hy
  rw [hz x y hx hy]
  by_cases c1 : (x = a ∧ y = b) ∨ (x = b ∧ y = a)
  · have t1 : ¬ tp a b y x := by unfold tp; omega
    have t2 : tp a (b + 1) x y := by unfold tp; omega
    rw [if_pos c1, if_pos t2, hf y x hy hx, if_neg t1]
  · rw [if_neg c1, hf x y hx hy]
    by_cases c2 : tp a b x y
    · have t2 : tp a (b + 1) x y := by unfold tp at *; omega
      rw [if_pos c2, if_pos t2]
    · have t2 : ¬ tp a (b + 1) x y := by unfold tp at *; omega
      rw [if_neg c2, if_neg t2]
theorem turn_L17 {a : Nat} {R F : Nat → Int32} {i47 : Int32} {P : Int32 × Int32 × (Nat → Int32) × (Nat → Int32) → Prop} {k1 : (Nat → Int32) → (Nat → Int32) → Option (Int32 × Int32 × (Nat → Int32) × (Nat → Int32))} (h47 : i47.toInt = a) (ha : a < 9) (hk : ∀ f g, (∀ x y, x < 9 → y < 9 → G f x y = @ite _ (tp a a x y) (Classical.propDecidable _) (G R y x) (G R x y)) → (∀ x y, x < 9 → y < 9 → G g x y = @ite _ (tp a a x y) (Classical.propDecidable _) (G F y x) (G F x y)) → Ok (k1 f g) P) : ∀ (r c : Nat) (i65 : Int32) (f g : Nat → Int32) (k : Nat), k + r = a → r < c → i65.toInt = k → (∀ x y, x < 9 → y < 9 → G f x y = @ite _ (tp a k x y) (Classical.propDecidable _) (G R y x) (G R x y)) → (∀ x y, x < 9 → y < 9 → G g x y = @ite _ (tp a k x y) (Classical.propDecidable _) (G F y x) (G F x y)) → Ok (LX8_turnRound_L17 i47 c i65 f g k1) P := by
  intro r
  induction r with
  | zero =>
    intro c i65 f g k hk2 hc h65 hf hg
    cases c with
    | zero => omega
    | succ c =>
      show Ok (BX8_turnRound_L17 i47 i65 f g (fun a b d => LX8_turnRound_L17 i47 c a b d k1) k1) P
      unfold BX8_turnRound_L17
      have e : k = a := by omega
      subst e
      refine Ok_if (fun _ => hk _ _ hf hg) (fun h => ?_)
      have h := i32nle h
      omega
  | succ r ih =>
    intro c i65 f g k hk2 hc h65 hf hg
    cases c with
    | zero => omega
    | succ c =>
      show Ok (BX8_turnRound_L17 i47 i65 f g (fun a b d => LX8_turnRound_L17 i47 c a b d k1) k1) P
      unfold BX8_turnRound_L17
      have ei := inc_iv (x := i65) (by omega)
      refine Ok_if (fun h => ?_) (fun _ => ?_)
      · have h := i32le h
        omega
      · refine Ok_bind (exchange_iv h47 h65 ha (by omega) (by omega) rfl rfl) (fun z1 h1 => Ok_bind (exchange_iv h47 h65 ha (by omega) (by omega) rfl rfl) (fun z2 h2 => ?_))
        exact ih c (i65 + 1) z1 z2 (k + 1) (by omega) (by omega) (by omega) (turn_step (n := 9) (by omega) hf h1) (turn_step (n := 9) (by omega) hg h2)
theorem turn_L7 {n : Nat} {R F : Nat → Int32} {i2 : Int32} {P : Int32 × Int32 × (Nat → Int32) × (Nat → Int32) → Prop} {k1 : (Nat → Int32) → (Nat → Int32) → Option (Int32 × Int32 × (Nat → Int32) × (Nat → Int32))} (h2 : i2.toInt = n) (hn : n ≤ 9) (hk : ∀ f g, turned n R f → turned n F g → Ok (k1 f g) P) : ∀ (r c : Nat) (i47 : Int32) (f g : Nat → Int32) (k : Nat), k + r = n → r < c → i47.toInt = k → (∀ x y, x < 9 → y < 9 → G f x y = @ite _ (tp k 0 x y) (Classical.propDecidable _) (G R y x) (G R x y)) → (∀ x y, x < 9 → y < 9 → G g x y = @ite _ (tp k 0 x y) (Classical.propDecidable _) (G F y x) (G F x y)) → Ok (LX8_turnRound_L7 i2 c i47 f g k1) P := by
  intro r
  induction r with
  | zero =>
    intro c i47 f g k hk2 hc h47 hf hg
    cases c with
    | zero => omega
    | succ c =>
      show Ok (BX8_turnRound_L7 i2 i47 f g (fun a b d => LX8_turnRound_L7 i2 c a b d k1) k1) P
      unfold BX8_turnRound_L7
      have e : k = n := by omega
      subst e
      have cv : ∀ (H h : Nat → Int32), (∀ x y, x < 9 → y < 9 → G h x y = @ite _ (tp k 0 x y) (Classical.propDecidable _) (G H y x) (G H x y)) → turned k H h := fun H h q x y hx hy => by
        rw [q x y hx hy]
        by_cases c : x < k ∧ y < k
        · rw [if_pos c, if_pos (show tp k 0 x y by unfold tp; omega)]
        · rw [if_neg c, if_neg (show ¬ tp k 0 x y by unfold tp; omega)]
      refine Ok_if (fun _ => hk _ _ (cv R f hf) (cv F g hg)) (fun h => ?_)
      have h := i32nle h
      omega
  | succ r ih =>
    intro c i47 f g k hk2 hc h47 hf hg
    cases c with
    | zero => omega
    | succ c =>
      show Ok (BX8_turnRound_L7 i2 i47 f g (fun a b d => LX8_turnRound_L7 i2 c a b d k1) k1) P
      unfold BX8_turnRound_L7
      have ei := inc_iv (x := i47) (by omega)
      have cv : ∀ (H h : Nat → Int32), (∀ x y, x < 9 → y < 9 → G h x y = @ite _ (tp k k x y) (Classical.propDecidable _) (G H y x) (G H x y)) → (∀ x y, x < 9 → y < 9 → G h x y = @ite _ (tp (k + 1) 0 x y) (Classical.propDecidable _) (G H y x) (G H x y)) := fun H h q x y hx hy => by
        rw [q x y hx hy]
        by_cases c : tp k k x y
        · rw [if_pos c, if_pos (show tp (k + 1) 0 x y by unfold tp at *; omega)]
        · rw [if_neg c]
          by_cases c2 : tp (k + 1) 0 x y
          · have e : x = y := by unfold tp at *; omega
            rw [if_pos c2, e]
          · rw [if_neg c2]
      refine Ok_if (fun h => ?_) (fun _ => ?_)
      · have h := i32le h
        omega
      · refine turn_L17 (R := R) (F := F) h47 (by omega) (fun f2 g2 hf2 hg2 => ?_) k 600 0 f g 0 (by omega) (by omega) rfl hf hg
        exact ih c (i47 + 1) f2 g2 (k + 1) (by omega) (by omega) (by omega) (cv R f2 hf2) (cv F g2 hg2)
theorem FI.ofturn {n s g : Nat} {R R' F F' : Nat → Int32} (h : FI n s g R F) (hR : turned n R R') (hF : turned n F F') : FI n g s R' F' ∧ outF n F' g = outF n F s := by
  have hg := h.goal
  obtain ⟨p, q, c, d, e, f⟩ := h
  have oF : ∀ x, x < n → outF n F' x = -outF n F x := fun x hx => by
    unfold outF
    rw [← sumN_neg]
    exact sumN_eq n (fun y hy => by rw [hF x y (by omega) (by omega), if_pos ⟨hx, hy⟩]; exact (d y x (by omega) (by omega)).1)
  have eR : ∀ x y, x < 9 → y < 9 → G R' x y = G R y x := fun x y hx hy => by
    rw [hR x y hx hy]
    by_cases k : x < n ∧ y < n
    · rw [if_pos k]
    · rw [if_neg k, (c x y hx hy).2 (by omega), (c y x hy hx).2 (by omega)]
  have eF : ∀ x y, x < 9 → y < 9 → G F' x y = G F y x := fun x y hx hy => by
    rw [hF x y hx hy]
    by_cases k : x < n ∧ y < n
    · rw [if_pos k]
    · have a1 := (d x y hx hy)
      have a2 := (d y x hy hx)
      have r1 := (c x y hx hy).2 (by omega)
      have r2 := (c y x hy hx).2 (by omega)
      rw [if_neg k]; omega
  refine ⟨⟨p, ⟨q.2.1, q.1, fun z => q.2.2 z.symm⟩, fun x y hx hy => ?_, fun x y hx hy => ?_, fun x hx h1 h2 => by rw [oF x hx, e x hx h2 h1]; rfl, by rw [oF g q.2.1]; omega⟩, by rw [oF g q.2.1]; omega⟩
  · rw [eR x y hx hy]
    exact ⟨(c y x hy hx).1, fun z => (c y x hy hx).2 (by omega)⟩
  · rw [eR x y hx hy, eF x y hx hy, eF y x hy hx]
    exact d y x hy hx
def A_turn (n s : Nat) (R F : Nat → Int32) (i7 : Int32) (z : Int32 × Int32 × (Nat → Int32) × (Nat → Int32)) : Prop := z.1.toInt = outF n F s ∧ z.2.1 = i7 + 1 ∧ turned n R z.2.2.1 ∧ turned n F z.2.2.2
theorem turnRound_iv {n s g : Nat} {R F : Nat → Int32} {i2 i6 i7 : Int32} (hI : FI n s g R F) (h2 : i2.toInt = n) (h6 : i6.toInt = g) : Ok (fX8_turnRound i2 i6 i7 R F) (A_turn n s R F i7) := by
  unfold fX8_turnRound
  have n9 := hI.1
  have q0 : ∀ (H : Nat → Int32) x y, x < 9 → y < 9 → G H x y = @ite _ (tp 0 0 x y) (Classical.propDecidable _) (G H y x) (G H x y) := fun H x y _ _ => by rw [if_neg (show ¬ tp 0 0 x y by unfold tp; omega)]
  refine turn_L7 (R := R) (F := F) h2 n9.2 (fun f g2 hf hg => ?_) n 600 0 R F 0 (by omega) (by omega) rfl (q0 R) (q0 F)
  obtain ⟨I2, v2⟩ := hI.ofturn hf hg
  refine Ok_bind (I2.valueNow h2 h6 hI.2.1.2.1) (fun z74 h74 => ?_)
  exact ⟨_, rfl, by rw [← v2]; exact h74, rfl, hf, hg⟩
def sw (p q x : Nat) : Nat := if x = p then q else if x = q then p else x
theorem sw_sw (p q x : Nat) : sw p q (sw p q x) = x := by
  unfold sw
  by_cases c1 : x = p
  · rw [if_pos c1]
    by_cases c2 : q = p
    · rw [if_pos c2]; omega
    · rw [if_neg c2, if_pos rfl]; exact c1.symm
  · rw [if_neg c1]
    by_cases c2 : x = q
    · rw [if_pos c2, if_pos rfl]; exact c2.symm
    · rw [if_neg c2, if_neg c1, if_neg c2]
theorem sw_lt {n p q x : Nat} (hp : p < n) (hq : q < n) (hx : x < n) : sw p q x < n := by
  unfold sw
  split
  · exact hq
  · split
    · exact hp
    · exact hx
theorem sw_ge {n p q x : Nat} (hp : p < n) (hq : q < n) (hx : n ≤ x) : sw p q x = x := by
  unfold sw
  rw [if_neg (by omega), if_neg (by omega)]
theorem sw_inj {p q x y : Nat} (h : sw p q x = sw p q y) : x = y := by
  rw [← sw_sw p q x, h, sw_sw]
theorem sumN_sw {f : Nat → Int} {n p q : Nat} (hp : p < n) (hq : q < n) : sumN n (fun y => f (sw p q y)) = sumN n f := by
  by_cases e : p = q
  · refine sumN_eq n (fun y _ => ?_)
    unfold sw
    by_cases c : y = p
    · rw [if_pos c, c, e]
    · rw [if_neg c, if_neg (fun z => c (z.trans e.symm))]
  · have a := sumN_one (f := f) (g := fun y => f y + if y = p then f q - f p else 0) (c := p) (d := f q - f p) n (fun _ _ => rfl)
    have b := sumN_one (f := fun y => f y + if y = p then f q - f p else 0) (g := fun y => f (sw p q y)) (c := q) (d := f p - f q) n (fun y _ => by
      show f (if y = p then q else if y = q then p else y) = f y + (if y = p then f q - f p else 0) + (if y = q then f p - f q else 0)
      by_cases c1 : y = p
      · rw [if_pos c1, if_pos c1, if_neg (fun z => e (c1.symm.trans z)), c1]; omega
      · rw [if_neg c1, if_neg c1]
        by_cases c2 : y = q
        · rw [if_pos c2, if_pos c2, c2]; omega
        · rw [if_neg c2, if_neg c2]; omega)
    rw [b, a, if_pos hp, if_pos hq]
    omega
theorem swapped_iv {i1 i2 i3 : Int32} {x p q : Nat} (h1 : i1.toInt = x) (h2 : i2.toInt = p) (h3 : i3.toInt = q) : Ok (fX8_swapped i1 i2 i3) (fun z => z.toInt = sw p q x) := by
  unfold fX8_swapped sw
  refine Ok_if (fun h => ?_) (fun h => Ok_if (fun h' => ?_) (fun h' => ?_))
  · have h := i32eq h
    exact Ok_some (by rw [if_pos (show x = p by omega)]; exact h3)
  · have h : x ≠ p := fun e => h (Int32.toInt_inj.mp (by omega))
    have h' := i32eq h'
    exact Ok_some (by rw [if_neg h, if_pos (show x = q by omega)]; exact h2)
  · have h : x ≠ p := fun e => h (Int32.toInt_inj.mp (by omega))
    have h' : x ≠ q := fun e => h' (Int32.toInt_inj.mp (by omega))
    exact Ok_some (by rw [if_neg h, if_neg h']; exact h1)
def swapt (n p q : Nat) (F F' : Nat → Int32) : Prop := ∀ x y, x < 9 → y < 9 → G F' x y = if x < n ∧ y < n then G F (sw p q x) (sw p q y) else 0
def bel (a b x y : Nat) : Prop := x < a ∨ (x = a ∧ y < b)
theorem swap_L21 {n p q a : Nat} {F : Nat → Int32} {i5 i3 i4 i54 : Int32} {P : (Nat → Int32) → Prop} {k1 : (Nat → Int32) → Option (Nat → Int32)} (h5 : i5.toInt = n) (hn : n ≤ 9) (h3 : i3.toInt = p) (h4 : i4.toInt = q) (hp : p < n) (hq : q < n) (h54 : i54.toInt = a) (ha : a < n) (hk : ∀ f, (∀ x y, x < n → y < n → bel a n x y → G f (sw p q x) (sw p q y) = G F x y) → (∀ x y, x < 9 → y < 9 → (n ≤ x ∨ n ≤ y) → G f x y = 0) → Ok (k1 f) P) : ∀ (r c : Nat) (i74 : Int32) (f : Nat → Int32) (k : Nat), k + r = n → r < c → i74.toInt = k → (∀ x y, x < n → y < n → bel a k x y → G f (sw p q x) (sw p q y) = G F x y) → (∀ x y, x < 9 → y < 9 → (n ≤ x ∨ n ≤ y) → G f x y = 0) → Ok (LX8_swappedRow_L21 i5 F i3 i4 i54 c i74 f k1) P := by
  intro r
  induction r with
  | zero =>
    intro c i74 f k hk2 hc h74 hf ho
    cases c with
    | zero => omega
    | succ c =>
      show Ok (BX8_swappedRow_L21 i5 F i3 i4 i54 i74 f (fun a b => LX8_swappedRow_L21 i5 F i3 i4 i54 c a b k1) k1) P
      unfold BX8_swappedRow_L21
      have e : k = n := by omega
      subst e
      refine Ok_if (fun _ => hk _ hf ho) (fun h => ?_)
      have h := i32nle h
      omega
  | succ r ih =>
    intro c i74 f k hk2 hc h74 hf ho
    cases c with
    | zero => omega
    | succ c =>
      show Ok (BX8_swappedRow_L21 i5 F i3 i4 i54 i74 f (fun a b => LX8_swappedRow_L21 i5 F i3 i4 i54 c a b k1) k1) P
      unfold BX8_swappedRow_L21
      have ei := inc_iv (x := i74) (by omega)
      refine Ok_if (fun h => ?_) (fun _ => ?_)
      · have h := i32le h
        omega
      · have sa := sw_lt hp hq ha
        have sk := sw_lt hp hq (show k < n by omega)
        refine Ok_bind (swapped_iv h54 h3 h4) (fun z76 h76 => Ok_bind (swapped_iv h74 h3 h4) (fun z77 h77 => ?_))
        obtain ⟨g1, g2⟩ := G_idx h54 h74 (show a < 9 by omega) (show k < 9 by omega)
        obtain ⟨g3, g4⟩ := G_idx h76 h77 (show sw p q a < 9 by omega) (show sw p q k < 9 by omega)
        refine Ok_inB g1 (Ok_inB g3 ?_)
        rw [g2, g4]
        refine ih c (i74 + 1) _ (k + 1) (by omega) (by omega) (by omega) (fun x y hx hy hb => ?_) (fun x y hx hy hz => ?_)
        · have sx := sw_lt hp hq hx
          have sy := sw_lt hp hq hy
          rw [isput_upd (F := f) (show sw p q k < 9 by omega) _ _ (by omega) (by omega)]
          by_cases c1 : x = a ∧ y = k
          · rw [if_pos (by rw [c1.1, c1.2]; exact ⟨rfl, rfl⟩), c1.1, c1.2]; rfl
          · rw [if_neg (fun z => c1 ⟨sw_inj z.1, sw_inj z.2⟩)]
            exact hf x y hx hy (by unfold bel at *; omega)
        · rw [isput_upd (F := f) (show sw p q k < 9 by omega) _ _ hx hy, if_neg (by omega)]
          exact ho x y hx hy hz
theorem swap_L9 {n p q : Nat} {F : Nat → Int32} {i5 i3 i4 : Int32} (h5 : i5.toInt = n) (hn : n ≤ 9) (h3 : i3.toInt = p) (h4 : i4.toInt = q) (hp : p < n) (hq : q < n) : ∀ (r c : Nat) (i54 : Int32) (f : Nat → Int32) (k : Nat), k + r = n → r < c → i54.toInt = k → (∀ x y, x < n → y < n → bel k 0 x y → G f (sw p q x) (sw p q y) = G F x y) → (∀ x y, x < 9 → y < 9 → (n ≤ x ∨ n ≤ y) → G f x y = 0) → Ok (LX8_swappedRow_L9 i5 F i3 i4 c i54 f) (swapt n p q F) := by
  intro r
  induction r with
  | zero =>
    intro c i54 f k hk hc h54 hf ho
    cases c with
    | zero => omega
    | succ c =>
      show Ok (BX8_swappedRow_L9 i5 F i3 i4 i54 f (fun a b => LX8_swappedRow_L9 i5 F i3 i4 c a b)) _
      unfold BX8_swappedRow_L9
      have e : k = n := by omega
      subst e
      refine Ok_if (fun _ => Ok_some (fun x y hx hy => ?_)) (fun h => ?_)
      · by_cases c1 : x < k ∧ y < k
        · rw [if_pos c1]
          have := hf (sw p q x) (sw p q y) (sw_lt hp hq c1.1) (sw_lt hp hq c1.2) (Or.inl (sw_lt hp hq c1.1))
          rw [sw_sw, sw_sw] at this
          exact this
        · rw [if_neg c1]
          exact ho x y hx hy (by omega)
      · have h := i32nle h
        omega
  | succ r ih =>
    intro c i54 f k hk hc h54 hf ho
    cases c with
    | zero => omega
    | succ c =>
      show Ok (BX8_swappedRow_L9 i5 F i3 i4 i54 f (fun a b => LX8_swappedRow_L9 i5 F i3 i4 c a b)) _
      unfold BX8_swappedRow_L9
      have ei := inc_iv (x := i54) (by omega)
      refine Ok_if (fun h => ?_) (fun _ => ?_)
      · have h := i32le h
        omega
      · refine swap_L21 (a := k) h5 hn h3 h4 hp hq h54 (by omega) (fun f2 hf2 ho2 => ?_) n 600 0 f 0 (by omega) (by omega) rfl hf ho
        exact ih c (i54 + 1) f2 (k + 1) (by omega) (by omega) (by omega) (fun x y hx hy hb => hf2 x y hx hy (by unfold bel at *; omega)) ho2
theorem swappedRow_iv {n p q : Nat} {F : Nat → Int32} {i5 i3 i4 : Int32} (h5 : i5.toInt = n) (hn : n ≤ 9) (h3 : i3.toInt = p) (h4 : i4.toInt = q) (hp : p < n) (hq : q < n) : Ok (fX8_swappedRow i5 F i3 i4) (swapt n p q F) := by
  unfold fX8_swappedRow
  exact swap_L9 h5 hn h3 h4 hp hq n 600 0 _ 0 (by omega) (by omega) rfl (fun x y _ _ hb => by unfold bel at hb; omega) (fun x y _ _ _ => rfl)
theorem FI.ofswap {n s g p q : Nat} {R R' F F' : Nat → Int32} (h : FI n s g R F) (hp : p < n) (hq : q < n) (hR : swapt n p q R R') (hF : swapt n p q F F') : FI n (sw p q s) (sw p q g) R' F' := by
  have fl := fun a b (ha : a < 9) (hb : b < 9) => (h.flow ha hb).2
  obtain ⟨n9, u, c, d, e, f⟩ := h
  have o : ∀ x, x < n → outF n F' x = outF n F (sw p q x) := fun x hx => by
    unfold outF
    rw [← sumN_sw (f := G F (sw p q x)) hp hq]
    exact sumN_eq n (fun y hy => by rw [hF x y (by omega) (by omega), if_pos ⟨hx, hy⟩])
  refine ⟨n9, ⟨sw_lt hp hq u.1, sw_lt hp hq u.2.1, fun z => u.2.2 (sw_inj z)⟩, fun x y hx hy => ?_, fun x y hx hy => ?_, fun x hx h1 h2 => ?_, by rw [o _ (sw_lt hp hq u.1), sw_sw]; exact f⟩
  · rw [hR x y hx hy]
    by_cases k : x < n ∧ y < n
    · have a := sw_lt hp hq k.1
      have b := sw_lt hp hq k.2
      rw [if_pos k]
      exact ⟨(c _ _ (by omega) (by omega)).1, fun z => (c _ _ (by omega) (by omega)).2 (by
        rcases z with z | z
        · left; rw [z]
        · omega)⟩
    · rw [if_neg k]
      exact ⟨by omega, fun _ => rfl⟩
  · rw [hR x y hx hy, hF x y hx hy, hF y x hy hx]
    by_cases k : x < n ∧ y < n
    · have a := sw_lt hp hq k.1
      have b := sw_lt hp hq k.2
      rw [if_pos k, if_pos k, if_pos ⟨k.2, k.1⟩]
      exact d _ _ (by omega) (by omega)
    · rw [if_neg k, if_neg k, if_neg (fun z => k ⟨z.2, z.1⟩)]
      omega
  · rw [o x hx]
    exact e _ (sw_lt hp hq hx) (fun z => h1 (by rw [← z, sw_sw])) (fun z => h2 (by rw [← z, sw_sw]))
def A_swap (n s g : Nat) (R F : Nat → Int32) (i7 i8 i9 i2 i3 : Int32) (z : Int32 × Int32 × Int32 × Int32 × Int32 × (Nat → Int32) × (Nat → Int32)) : Prop :=
  (¬ (pl n i2 ∧ pl n i3) ∧ z = (0, i7, i8, i9, 1, R, F)) ∨ ((pl n i2 ∧ pl n i3) ∧ z.1 = z.2.2.1 ∧ z.2.1.toInt = sw (tn i2) (tn i3) s ∧ z.2.2.1.toInt = sw (tn i2) (tn i3) g ∧ z.2.2.2.1 = i9 + 1 ∧ z.2.2.2.2.1 = 0 ∧ swapt n (tn i2) (tn i3) R z.2.2.2.2.2.1 ∧ swapt n (tn i2) (tn i3) F z.2.2.2.2.2.2)
theorem swap_iv {n s g : Nat} {R F : Nat → Int32} {i4 i7 i8 i9 i2 i3 : Int32} (hI : FI n s g R F) (h4 : i4.toInt = n) (h7 : i7.toInt = s) (h8 : i8.toInt = g) : Ok (fX8_swap i4 i7 i8 i9 R F i2 i3) (A_swap n s g R F i7 i8 i9 i2 i3) := by
  unfold fX8_swap
  have n9 := hI.1
  refine fl_pp h4 (fun i hi => thrown1 hi (fun q => ⟨_, rfl, Or.inl ⟨q, rfl⟩⟩) (fun q => Ok_if (fun _ => ?_) (fun h => absurd rfl h)))
  obtain ⟨e2, l2⟩ := q.1.eq
  obtain ⟨e3, l3⟩ := q.2.eq
  refine Ok_bind (swappedRow_iv h4 n9.2 e2 e3 l2 l3) (fun z23 h23 => Ok_bind (swappedRow_iv h4 n9.2 e2 e3 l2 l3) (fun z25 h25 => Ok_bind (swapped_iv h7 e2 e3) (fun z27 h27 => Ok_bind (swapped_iv h8 e2 e3) (fun z28 h28 => ?_))))
  exact ⟨_, rfl, Or.inr ⟨q, rfl, h27, h28, rfl, rfl, h23, h25⟩⟩
