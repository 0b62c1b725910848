/-! THE REFERENCE'S ACTS, sharply, on -/
theorem rem_nat {x y : Int32} {u v : Nat} (hu : x.toInt = u) (hv : y.toInt = v) (hp : 0 < v) : (x - x / y * y).toInt = ((u % v : Nat) : Int) := by
  have hx := i32b (x := x)
  have hy := i32b (x := y)
  have h3 : u / v ≤ u := Nat.div_le_self u v
  have hm : u / v * v + u % v = u := Nat.div_add_mod' u v
  have hr := Nat.mod_lt u hp
  have hq : (x / y).toInt = ((u / v : Nat) : Int) := by
    rw [Int32.toInt_div, hu, hv, ← Int.ofNat_tdiv]
    generalize u / v = q at *
    exact bmod32 (by omega) (by omega)
  generalize u / v = q at *
  generalize u % v = r at *
  obtain ⟨w, hw⟩ : ∃ w : Nat, w = q * v := ⟨_, rfl⟩
  rw [← hw] at hm
  have hp : (x / y * y).toInt = (w : Int) := by
    rw [Int32.toInt_mul, hq, hv]
    have e : (q : Int) * (v : Int) = (w : Int) := by rw [hw]; exact (Int.natCast_mul q v).symm
    rw [e]
    exact bmod32 (by omega) (by omega)
  generalize x / y * y = t at hp
  rw [sub_iv (by omega) (by omega)]
  omega
def nxC (n p : Nat) : Nat := if p + 1 < n then p + 1 else 0
theorem nxC_mod {n p : Nat} (h : p < n) : (p + 1) % n = nxC n p := by
  unfold nxC
  split
  · exact Nat.mod_eq_of_lt (by assumption)
  · rw [show p + 1 = n by omega, Nat.mod_self]
theorem nxC_lt {n p : Nat} (h : p < n) : nxC n p < n := by
  unfold nxC
  split <;> omega
def cirC (n : Nat) (R : Nat → Int32) (v : Int) : Nat → Int
  | 0 => 0
  | k + 1 => cirC n R v k + (if G R k (nxC n k) = v then 0 else 1)
theorem cirC_bd (n : Nat) (R : Nat → Int32) (v : Int) : ∀ k, 0 ≤ cirC n R v k ∧ cirC n R v k ≤ k
  | 0 => ⟨Int.le_refl _, Int.le_refl _⟩
  | k + 1 => by
    have := cirC_bd n R v k
    unfold cirC
    split <;> omega
def circ (n : Nat) (R R' : Nat → Int32) (v : Int) : Prop := ∀ x y, x < 9 → y < 9 → G R' x y = if x < n ∧ y = nxC n x then v else G R x y
def A_circle (n : Nat) (R F : Nat → Int32) (i8 i9 i2 : Int32) (z : Int32 × Int32 × Int32 × Int32 × (Nat → Int32)) : Prop :=
  (¬ rm i2 ∧ z = (0, i8, i9, 1, R)) ∨ (rm i2 ∧ ¬ (∀ p, p < n → G F p (nxC n p) ≤ i2.toInt) ∧ z = (-9, i8, i9 + 1, 0, R)) ∨
  (rm i2 ∧ (∀ p, p < n → G F p (nxC n p) ≤ i2.toInt) ∧ z.1.toInt = cirC n R i2.toInt n ∧ z.2.1 = i8 + 1 ∧ z.2.2.1 = i9 ∧ z.2.2.2.1 = 0 ∧ circ n R z.2.2.2.2 i2.toInt)
theorem rd_iv {F : Nat → Int32} {i j : Int32} {a b : Nat} (hi : i.toInt = a) (hj : j.toInt = b) (ha : a < 9) (hb : b < 9) : Ok (fX8_room F i j) (fun z => z.toInt = G F a b) ∧ Ok (fX8_flow F i j) (fun z => z.toInt = G F a b) := by
  obtain ⟨g1, g2⟩ := G_idx hi hj ha hb
  constructor
  · unfold fX8_room
    exact Ok_inB g1 (by rw [g2]; exact Ok_some rfl)
  · unfold fX8_flow
    exact Ok_inB g1 (by rw [g2]; exact Ok_some rfl)
theorem circle_L25 {n : Nat} {R F : Nat → Int32} {i3 i2 : Int32} {P : Int32 × Int32 × Int32 × Int32 × (Nat → Int32) → Prop} {k1 : Unit → Option (Int32 × Int32 × Int32 × Int32 × (Nat → Int32))} {k2 : Int32 → Option (Int32 × Int32 × Int32 × Int32 × (Nat → Int32))} (h3 : i3.toInt = n) (hn : 2 ≤ n ∧ n ≤ 9) (hk1 : ¬ (∀ p, p < n → G F p (nxC n p) ≤ i2.toInt) → Ok (k1 ()) P) (hk2 : ∀ i, (∀ p, p < n → G F p (nxC n p) ≤ i2.toInt) → i.toInt = cirC n R i2.toInt n → Ok (k2 i) P) : ∀ (r c : Nat) (i40 i41 : Int32) (k : Nat), k + r = n → r < c → i41.toInt = k → i40.toInt = cirC n R i2.toInt k → (∀ p, p < k → G F p (nxC n p) ≤ i2.toInt) → Ok (LX8_circle_L25 i3 F i2 R c i40 i41 k1 k2) P := by
  intro r
  induction r with
  | zero =>
    intro c i40 i41 k hk hc h41 h40 hf
    cases c with
    | zero => omega
    | succ c =>
      show Ok (BX8_circle_L25 i3 F i2 R i40 i41 (fun a b => LX8_circle_L25 i3 F i2 R c a b k1 k2) k1 k2) P
      unfold BX8_circle_L25
      have e : k = n := by omega
      subst e
      refine Ok_if (fun _ => hk2 _ hf h40) (fun h => ?_)
      have h := i32nle h
      omega
  | succ r ih =>
    intro c i40 i41 k hk hc h41 h40 hf
    cases c with
    | zero => omega
    | succ c =>
      show Ok (BX8_circle_L25 i3 F i2 R i40 i41 (fun a b => LX8_circle_L25 i3 F i2 R c a b k1 k2) k1 k2) P
      unfold BX8_circle_L25
      have ei := inc_iv (x := i41) (by omega)
      have t0 : (0 : Int32).toInt = 0 := rfl
      have t1 : (1 : Int32).toInt = 1 := rfl
      have cb := cirC_bd n R i2.toInt k
      refine Ok_if (fun h => ?_) (fun _ => Ok_nz (fun e => ?_) (Ok_nm (fun i43 w43 => ?_)))
      · have h := i32le h
        omega
      · have e := i32eq e
        omega
      · have e43 : i43.toInt = nxC n k := by
          rw [w43, rem_nat (u := k + 1) (v := n) (by omega) h3 (by omega), nxC_mod (by omega)]
        clear w43
        have hx := nxC_lt (n := n) (p := k) (by omega)
        refine Ok_bind (rd_iv h41 e43 (by omega) (by omega)).2 (fun z44 h44 => Ok_if (fun h => ?_) (fun h => ?_))
        · have h := i32le h
          refine Ok_bind (rd_iv (F := R) h41 e43 (by omega) (by omega)).1 (fun z45 h45 => Ok_jn (fun k46 w46 => ?_))
          have go : ∀ i48 : Int32, i48.toInt = (if G R k (nxC n k) = i2.toInt then 0 else 1) → Ok (k46 i48) P := by
            intro i48 h48
            rw [w46]
            have b48 : 0 ≤ i48.toInt ∧ i48.toInt ≤ 1 := by
              rw [h48]
              split <;> omega
            refine Ok_nm (fun i49 w49 => ih c i49 (i41 + 1) (k + 1) (by omega) (by omega) (by omega) ?_ (fun p hp => ?_))
            · rw [w49, add_iv (by omega) (by omega), h40, h48]
              rfl
            · by_cases e : p = k
              · rw [e]; omega
              · exact hf p (by omega)
          refine Ok_if (fun q => ?_) (fun q => ?_)
          · have q := i32eq q
            exact go 0 (by rw [if_pos (by omega)]; rfl)
          · exact go 1 (by rw [if_neg (fun e => q (Int32.toInt_inj.mp (by omega)))]; rfl)
        · have h := i32nle h
          exact hk1 (fun q => by have := q k (by omega); omega)
theorem circle_L86 {n : Nat} {R : Nat → Int32} {i3 i2 : Int32} {P : Int32 × Int32 × Int32 × Int32 × (Nat → Int32) → Prop} {k1 : (Nat → Int32) → Option (Int32 × Int32 × Int32 × Int32 × (Nat → Int32))} (h3 : i3.toInt = n) (hn : 2 ≤ n ∧ n ≤ 9) (hk : ∀ f, circ n R f i2.toInt → Ok (k1 f) P) : ∀ (r c : Nat) (i66 : Int32) (f : Nat → Int32) (k : Nat), k + r = n → r < c → i66.toInt = k → (∀ x y, x < 9 → y < 9 → G f x y = if x < k ∧ y = nxC n x then i2.toInt else G R x y) → Ok (LX8_circle_L86 i3 i2 c i66 f k1) P := by
  intro r
  induction r with
  | zero =>
    intro c i66 f k hk2 hc h66 hf
    cases c with
    | zero => omega
    | succ c =>
      show Ok (BX8_circle_L86 i3 i2 i66 f (fun a b => LX8_circle_L86 i3 i2 c a b k1) k1) P
      unfold BX8_circle_L86
      have e : k = n := by omega
      subst e
      refine Ok_if (fun _ => hk _ hf) (fun h => ?_)
      have h := i32nle h
      omega
  | succ r ih =>
    intro c i66 f k hk2 hc h66 hf
    cases c with
    | zero => omega
    | succ c =>
      show Ok (BX8_circle_L86 i3 i2 i66 f (fun a b => LX8_circle_L86 i3 i2 c a b k1) k1) P
      unfold BX8_circle_L86
      have ei := inc_iv (x := i66) (by omega)
      have t0 : (0 : Int32).toInt = 0 := rfl
      refine Ok_if (fun h => ?_) (fun _ => Ok_nz (fun e => ?_) ?_)
      · have h := i32le h
        omega
      · have e := i32eq e
        omega
      · obtain ⟨i43, w43⟩ : ∃ i, i = (i66 + (1 : Int32)) - (i66 + (1 : Int32)) / i3 * i3 := ⟨_, rfl⟩
        have e43 : i43.toInt = nxC n k := by
          rw [w43, rem_nat (u := k + 1) (v := n) (by omega) h3 (by omega), nxC_mod (by omega)]
        rw [← w43]
        clear w43
        have hx := nxC_lt (n := n) (p := k) (by omega)
        obtain ⟨g1, g2⟩ := G_idx h66 e43 (by omega) (by omega)
        refine Ok_inB g1 ?_
        rw [g2]
        refine ih c (i66 + 1) _ (k + 1) (by omega) (by omega) (by omega) (fun x y hx2 hy => ?_)
        rw [isput_upd (F := f) (show nxC n k < 9 by omega) x y hx2 hy, hf x y hx2 hy]
        by_cases c1 : x = k ∧ y = nxC n k
        · rw [if_pos c1, if_pos ⟨by omega, by rw [c1.1]; exact c1.2⟩]
        · rw [if_neg c1]
          by_cases c2 : x < k ∧ y = nxC n x
          · rw [if_pos c2, if_pos ⟨by omega, c2.2⟩]
          · rw [if_neg c2, if_neg (fun q => by
              by_cases e : x = k
              · exact c1 ⟨e, by rw [← e]; exact q.2⟩
              · exact c2 ⟨by omega, q.2⟩)]
theorem circle_iv {n s g : Nat} {R F : Nat → Int32} {i3 i8 i9 i2 : Int32} (hI : FI n s g R F) (h3 : i3.toInt = n) : Ok (fX8_circle i3 i8 i9 R F i2) (A_circle n R F i8 i9 i2) := by
  unfold fX8_circle
  have n9 := hI.1
  refine fl_of rm_iv (fun i hi => thrown1 hi (fun q => ⟨_, rfl, Or.inl ⟨q, rfl⟩⟩) (fun q => Ok_if (fun _ => ?_) (fun h => absurd rfl h)))
  refine circle_L25 h3 n9 (fun h => ⟨_, rfl, Or.inr (Or.inl ⟨q, h, rfl⟩)⟩) (fun i h1 h2 => ?_) n 600 0 0 0 (by omega) (by omega) rfl rfl (fun p hp => by omega)
  refine circle_L86 h3 n9 (fun f hf => ⟨_, rfl, Or.inr (Or.inr ⟨q, h1, h2, rfl, rfl, rfl, hf⟩)⟩) n 600 0 R 0 (by omega) (by omega) rfl (fun x y _ _ => by rw [if_neg (by omega)])
theorem FI.ofcirc {n s g : Nat} {v : Int} {R R' F : Nat → Int32} (h : FI n s g R F) (hR : circ n R R' v) (hv : 0 ≤ v ∧ v ≤ 50) (hF : ∀ p, p < n → G F p (nxC n p) ≤ v) : FI n s g R' F := by
  obtain ⟨p, q, c, d, e, f⟩ := h
  refine ⟨p, q, fun x y hx hy => ?_, fun x y hx hy => ?_, e, f⟩
  · have := c x y hx hy
    rw [hR x y hx hy]
    by_cases k : x < n ∧ y = nxC n x
    · rw [if_pos k]
      refine ⟨hv, fun z => ?_⟩
      have k2 := k.2
      have := nxC_lt k.1
      unfold nxC at k2
      split at k2 <;> omega
    · rw [if_neg k]; exact this
  · have := d x y hx hy
    rw [hR x y hx hy]
    by_cases k : x < n ∧ y = nxC n x
    · rw [if_pos k]
      refine ⟨this.1, ?_⟩
      rw [k.2]
      exact hF x k.1
    · rw [if_neg k]; exact this
/-! strew -/
theorem sum_loop {n : Nat} {R : Nat → Int32} {i2 : Int32} (h2 : i2.toInt = n) (hn : n ≤ 9) (hR : ∀ a b, a < 9 → b < 9 → -50 ≤ G R a b ∧ G R a b ≤ 50) : ∀ (r c : Nat) (i26 i27 : Int32) (k : Nat), k + r = n → r < c → i27.toInt = k → i26.toInt = sumN k (outF n R) → Ok (LX8_sumOfRooms_L4 i2 R c i26 i27) (fun z => z.toInt = sumN n (outF n R)) := by
  intro r
  induction r with
  | zero =>
    intro c i26 i27 k hk hc h27 h26
    cases c with
    | zero => omega
    | succ c =>
      show Ok (BX8_sumOfRooms_L4 i2 R i26 i27 (fun a b => LX8_sumOfRooms_L4 i2 R c a b)) _
      unfold BX8_sumOfRooms_L4
      have e : k = n := by omega
      subst e
      refine Ok_if (fun _ => Ok_some h26) (fun h => ?_)
      have h := i32nle h
      omega
  | succ r ih =>
    intro c i26 i27 k hk hc h27 h26
    cases c with
    | zero => omega
    | succ c =>
      show Ok (BX8_sumOfRooms_L4 i2 R i26 i27 (fun a b => LX8_sumOfRooms_L4 i2 R c a b)) _
      unfold BX8_sumOfRooms_L4
      have ei := inc_iv (x := i27) (by omega)
      refine Ok_if (fun h => ?_) (fun _ => ?_)
      · have h := i32le h
        omega
      · refine Ok_bind (fromPlace_iv h2 h27 hn (by omega) (fun b hb => hR k b (by omega) hb)) (fun z hz => Ok_nm (fun y wy => ?_))
        have b1 := sumN_b (f := outF n R) (c := 450) k (fun b hb => by
          have := sumN_b (f := G R b) (c := 50) n (fun y hy => hR b y (by omega) (by omega))
          unfold outF
          omega)
        have b2 := sumN_b (f := G R k) (c := 50) n (fun y hy => hR k y (by omega) (by omega))
        have hz : z.toInt = outF n R k := hz
        have b3 : -450 ≤ outF n R k ∧ outF n R k ≤ 450 := by unfold outF; omega
        refine ih c y (i27 + 1) (k + 1) (by omega) (by omega) (by omega) ?_
        rw [wy, add_iv (by omega) (by omega), h26, hz]
        rfl
theorem sumOfRooms_iv {n s g : Nat} {R F : Nat → Int32} {i2 : Int32} (hI : FI n s g R F) (h2 : i2.toInt = n) : Ok (fX8_sumOfRooms i2 R) (fun z => z.toInt = sumN n (outF n R)) := by
  unfold fX8_sumOfRooms
  have n9 := hI.1
  exact sum_loop h2 n9.2 (fun a b ha hb => by have := (hI.2.2.1 a b ha hb).1; omega) n 600 0 0 0 (by omega) (by omega) rfl rfl
def strewn (e a b : Nat) : Int := if a = b then 0 else max 0 (((e + 7 * a + 3 * b + a * b) % 11 : Nat) - 4)
def isstrewn (n e : Nat) (R R' : Nat → Int32) : Prop := ∀ x y, x < 9 → y < 9 → G R' x y = if x < n ∧ y < n then strewn e x y else G R x y
theorem strew_num {i2 i56 i76 : Int32} {e a b : Nat} (h2 : i2.toInt = e) (he : e ≤ 9999) (h56 : i56.toInt = a) (h76 : i76.toInt = b) (ha : a < 9) (hb : b < 9) : (((((i2 + ((7 : Int32) * i56)) + ((3 : Int32) * i76)) + (i56 * i76)) - (((i2 + ((7 : Int32) * i56)) + ((3 : Int32) * i76)) + (i56 * i76)) / (11 : Int32) * (11 : Int32)) - (4 : Int32)).toInt = (((e + 7 * a + 3 * b + a * b) % 11 : Nat) : Int) - 4 := by
  have t7 : (7 : Int32).toInt = 7 := rfl
  have t3 : (3 : Int32).toInt = 3 := rfl
  have t4 : (4 : Int32).toInt = 4 := rfl
  have e1 : ((7 : Int32) * i56).toInt = 7 * a := by rw [Int32.toInt_mul, t7, h56]; exact bmod32 (by omega) (by omega)
  have e2 : ((3 : Int32) * i76).toInt = 3 * b := by rw [Int32.toInt_mul, t3, h76]; exact bmod32 (by omega) (by omega)
  have hp : a * b ≤ 64 := Nat.mul_le_mul (show a ≤ 8 by omega) (show b ≤ 8 by omega)
  obtain ⟨p, wp⟩ : ∃ p, p = a * b := ⟨_, rfl⟩
  have e3 : (i56 * i76).toInt = (p : Int) := by
    have q : i56.toInt * i76.toInt = (p : Int) := by rw [h56, h76, wp]; exact (Int.natCast_mul a b).symm
    rw [mul_iv (by omega) (by omega), q]
  rw [← wp] at hp ⊢
  clear wp
  obtain ⟨u1, v1⟩ : ∃ u, u = (7 : Int32) * i56 := ⟨_, rfl⟩
  obtain ⟨u2, v2⟩ : ∃ u, u = (3 : Int32) * i76 := ⟨_, rfl⟩
  obtain ⟨u3, v3⟩ : ∃ u, u = i56 * i76 := ⟨_, rfl⟩
  rw [← v1] at e1 ⊢
  rw [← v2] at e2 ⊢
  rw [← v3] at e3 ⊢
  clear v1 v2 v3
  have f1 : (i2 + u1).toInt = e + 7 * a := by rw [add_iv (by omega) (by omega)]; omega
  obtain ⟨x1, y1⟩ : ∃ u, u = i2 + u1 := ⟨_, rfl⟩
  rw [← y1] at f1 ⊢
  clear y1
  have f2 : (x1 + u2).toInt = e + 7 * a + 3 * b := by rw [add_iv (by omega) (by omega)]; omega
  obtain ⟨x2, y2⟩ : ∃ u, u = x1 + u2 := ⟨_, rfl⟩
  rw [← y2] at f2 ⊢
  clear y2
  have f3 : (x2 + u3).toInt = ((e + 7 * a + 3 * b + p : Nat) : Int) := by rw [add_iv (by omega) (by omega)]; omega
  obtain ⟨x3, y3⟩ : ∃ u, u = x2 + u3 := ⟨_, rfl⟩
  rw [← y3] at f3 ⊢
  clear y3
  have f4 := rem_nat (x := x3) (y := (11 : Int32)) (v := 11) f3 rfl (by omega)
  have hl := Nat.mod_lt (e + 7 * a + 3 * b + p) (show 0 < 11 by omega)
  obtain ⟨x4, y4⟩ : ∃ u, u = x3 - x3 / (11 : Int32) * (11 : Int32) := ⟨_, rfl⟩
  rw [← y4] at f4 ⊢
  clear y4
  generalize (e + 7 * a + 3 * b + p) % 11 = q at *
  rw [sub_iv (by omega) (by omega)]
  omega
theorem strew_L37 {n e a : Nat} {R : Nat → Int32} {i3 i2 i56 : Int32} {P : Int32 × Int32 × Int32 × (Nat → Int32) × (Nat → Int32) → Prop} {k1 : (Nat → Int32) → Option (Int32 × Int32 × Int32 × (Nat → Int32) × (Nat → Int32))} (h3 : i3.toInt = n) (hn : n ≤ 9) (h2 : i2.toInt = e) (he : e ≤ 9999) (h56 : i56.toInt = a) (ha : a < n) (hk : ∀ f, (∀ x y, x < 9 → y < 9 → G f x y = if y < n ∧ (x < a ∨ (x = a ∧ y < n)) then strewn e x y else G R x y) → Ok (k1 f) P) : ∀ (r c : Nat) (i76 : Int32) (f : Nat → Int32) (k : Nat), k + r = n → r < c → i76.toInt = k → (∀ x y, x < 9 → y < 9 → G f x y = if y < n ∧ (x < a ∨ (x = a ∧ y < k)) then strewn e x y else G R x y) → Ok (LX8_strew_L37 i3 i2 i56 c i76 f k1) P := by
  intro r
  induction r with
  | zero =>
    intro c i76 f k hk2 hc h76 hf
    cases c with
    | zero => omega
    | succ c =>
      show Ok (BX8_strew_L37 i3 i2 i56 i76 f (fun a b => LX8_strew_L37 i3 i2 i56 c a b k1) k1) P
      unfold BX8_strew_L37
      have e : k = n := by omega
      subst e
      refine Ok_if (fun _ => hk _ hf) (fun h => ?_)
      have h := i32nle h
      omega
  | succ r ih =>
    intro c i76 f k hk2 hc h76 hf
    cases c with
    | zero => omega
    | succ c =>
      show Ok (BX8_strew_L37 i3 i2 i56 i76 f (fun a b => LX8_strew_L37 i3 i2 i56 c a b k1) k1) P
      unfold BX8_strew_L37
      have ei := inc_iv (x := i76) (by omega)
      have t0 : (0 : Int32).toInt = 0 := rfl
      refine Ok_if (fun h => ?_) (fun _ => Ok_jn (fun k78 w78 => ?_))
      · have h := i32le h
        omega
      · obtain ⟨g1, g2⟩ := G_idx h56 h76 (by omega) (by omega)
        have go : ∀ i80 : Int32, i80.toInt = strewn e a k → Ok (k78 i80) P := by
          intro i80 h80
          rw [w78]
          refine Ok_inB g1 ?_
          rw [g2]
          refine ih c (i76 + 1) _ (k + 1) (by omega) (by omega) (by omega) (fun x y hx hy => ?_)
          rw [isput_upd (F := f) (show k < 9 by omega) x y hx hy, hf x y hx hy]
          by_cases c1 : x = a ∧ y = k
          · rw [if_pos c1, if_pos (by omega), h80, c1.1, c1.2]
          · rw [if_neg c1]
            by_cases c2 : y < n ∧ (x < a ∨ (x = a ∧ y < k))
            · rw [if_pos c2, if_pos (by omega)]
            · rw [if_neg c2, if_neg (by omega)]
        have num := strew_num h2 he h56 h76 (show a < 9 by omega) (show k < 9 by omega)
        refine Ok_if (fun h => ?_) (fun h => ?_)
        · have h := i32eq h
          exact go 0 (by unfold strewn; rw [if_pos (by omega)]; rfl)
        · have ne : a ≠ k := fun q => h (Int32.toInt_inj.mp (by omega))
          refine go _ ?_
          unfold strewn
          rw [if_neg ne]
          split
          · rename_i q
            have q := i32lt q
            rw [num] at q ⊢
            generalize (e + 7 * a + 3 * k + a * k) % 11 = u at *
            omega
          · rename_i q
            have q := i32nlt q
            rw [num] at q
            generalize (e + 7 * a + 3 * k + a * k) % 11 = u at *
            omega
theorem strew_L27 {n e : Nat} {R : Nat → Int32} {i3 i2 : Int32} {P : Int32 × Int32 × Int32 × (Nat → Int32) × (Nat → Int32) → Prop} {k1 : (Nat → Int32) → Option (Int32 × Int32 × Int32 × (Nat → Int32) × (Nat → Int32))} (h3 : i3.toInt = n) (hn : n ≤ 9) (h2 : i2.toInt = e) (he : e ≤ 9999) (hk : ∀ f, isstrewn n e R f → Ok (k1 f) P) : ∀ (r c : Nat) (i56 : Int32) (f : Nat → Int32) (k : Nat), k + r = n → r < c → i56.toInt = k → (∀ x y, x < 9 → y < 9 → G f x y = if x < k ∧ y < n then strewn e x y else G R x y) → Ok (LX8_strew_L27 i3 i2 c i56 f k1) P := by
  intro r
  induction r with
  | zero =>
    intro c i56 f k hk2 hc h56 hf
    cases c with
    | zero => omega
    | succ c =>
      show Ok (BX8_strew_L27 i3 i2 i56 f (fun a b => LX8_strew_L27 i3 i2 c a b k1) k1) P
      unfold BX8_strew_L27
      have e : k = n := by omega
      subst e
      refine Ok_if (fun _ => hk _ hf) (fun h => ?_)
      have h := i32nle h
      omega
  | succ r ih =>
    intro c i56 f k hk2 hc h56 hf
    cases c with
    | zero => omega
    | succ c =>
      show Ok (BX8_strew_L27 i3 i2 i56 f (fun a b => LX8_strew_L27 i3 i2 c a b k1) k1) P
      unfold BX8_strew_L27
      have ei := inc_iv (x := i56) (by omega)
      refine Ok_if (fun h => ?_) (fun _ => ?_)
      · have h := i32le h
        omega
      · refine strew_L37 (R := R) (a := k) h3 hn h2 he h56 (by omega) (fun f2 hf2 => ?_) n 600 0 f 0 (by omega) (by omega) rfl (fun x y hx hy => ?_)
        · refine ih c (i56 + 1) f2 (k + 1) (by omega) (by omega) (by omega) (fun x y hx hy => ?_)
          rw [hf2 x y hx hy]
          by_cases c2 : x < k + 1 ∧ y < n
          · rw [if_pos c2, if_pos (by omega)]
          · rw [if_neg c2, if_neg (by omega)]
        · rw [hf x y hx hy]
          by_cases c2 : x < k ∧ y < n
          · rw [if_pos c2, if_pos (by omega)]
          · rw [if_neg c2, if_neg (by omega)]
def seed (x : Int32) : Prop := 0 ≤ x.toInt ∧ x.toInt ≤ 9999
def A_strew (n : Nat) (R F : Nat → Int32) (i8 i2 : Int32) (z : Int32 × Int32 × Int32 × (Nat → Int32) × (Nat → Int32)) : Prop :=
  (¬ seed i2 ∧ z = (0, i8, 1, R, F)) ∨ (seed i2 ∧ z.1.toInt = sumN n (outF n z.2.2.2.1) ∧ z.2.1 = i8 + 1 ∧ z.2.2.1 = 0 ∧ isstrewn n (tn i2) R z.2.2.2.1 ∧ zero z.2.2.2.2)
theorem strewn_bd (e a b : Nat) : (0 ≤ strewn e a b ∧ strewn e a b ≤ 6) ∧ (a = b → strewn e a b = 0) := by
  have hl := Nat.mod_lt (e + 7 * a + 3 * b + a * b) (show 0 < 11 by omega)
  unfold strewn
  generalize (e + 7 * a + 3 * b + a * b) % 11 = u at *
  split
  · exact ⟨by omega, fun _ => rfl⟩
  · exact ⟨by omega, fun q => absurd q (by assumption)⟩
theorem FI.ofstrewn {n s g e : Nat} {R R' F F' : Nat → Int32} (h : FI n s g R F) (hR : isstrewn n e R R') (hF : zero F') : FI n s g R' F' := by
  obtain ⟨p, q, c, d, e2, f⟩ := h
  have c' : ∀ a b, a < 9 → b < 9 → (0 ≤ G R' a b ∧ G R' a b ≤ 50) ∧ (a = b ∨ n ≤ a ∨ n ≤ b → G R' a b = 0) := by
    intro x y hx hy
    rw [hR x y hx hy]
    by_cases k : x < n ∧ y < n
    · have := strewn_bd e x y
      rw [if_pos k]
      exact ⟨by omega, fun z => this.2 (by omega)⟩
    · rw [if_neg k]; exact c x y hx hy
  refine ⟨p, q, c', fun x y hx hy => ?_, fun x hx h1 h2 => outF_zero hF p.2 hx, by rw [outF_zero hF p.2 q.1]; omega⟩
  have := (c' x y hx hy).1
  rw [hF x y hx hy, hF y x hy hx]
  omega
theorem strew_iv {n s g : Nat} {R F : Nat → Int32} {i3 i8 i2 : Int32} (hI : FI n s g R F) (h3 : i3.toInt = n) : Ok (fX8_strew i3 i8 R F i2) (A_strew n R F i8 i2) := by
  unfold fX8_strew
  have n9 := hI.1
  have t0 : (0 : Int32).toInt = 0 := rfl
  have t9 : (9999 : Int32).toInt = 9999 := rfl
  refine Ok_jn (fun k14 w14 => Ok_jn (fun k16 w16 => ?_))
  have go : ∀ i, flag (seed i2) i → Ok (k14 i) (A_strew n R F i8 i2) := by
    intro i hi
    rw [w14]
    refine thrown1 hi (fun q => ⟨_, rfl, Or.inl ⟨q, rfl⟩⟩) (fun q => Ok_if (fun _ => ?_) (fun h => absurd rfl h))
    have q1 := q.1
    have q2 := q.2
    have e2 : i2.toInt = tn i2 := by unfold tn; omega
    refine strew_L27 (R := R) (e := tn i2) h3 n9.2 e2 (by omega) (fun f hf => ?_) n 600 0 R 0 (by omega) (by omega) rfl (fun x y _ _ => by rw [if_neg (by omega)])
    refine Ok_bind (still_iv F) (fun z83 h83 => ?_)
    have hI2 := hI.ofstrewn hf h83
    refine Ok_bind (sumOfRooms_iv hI2 h3) (fun z84 h84 => ?_)
    exact ⟨_, rfl, Or.inr ⟨q, h84, rfl, rfl, hf, h83⟩⟩
  rw [w16]
  refine Ok_if (fun h => ?_) (fun h => Ok_if (fun h2 => ?_) (fun h2 => ?_))
  · have h := i32lt h
    exact go 1 (Or.inr ⟨fun q => by have := q.1; omega, rfl⟩)
  · have h := i32nlt h
    have h2 := i32le h2
    exact go 0 (Or.inl ⟨⟨by omega, by omega⟩, rfl⟩)
  · have h2 := i32nle h2
    exact go 1 (Or.inr ⟨fun q => by have := q.2; omega, rfl⟩)
