/-! THE NEXT PART, as the reference finds it -/
theorem np_L43 {i3 i56 i0 : Int32} {F : Nat → Int32} {n a : Nat} {P : (Nat → Int32) × Option (Nat × (Nat → Int32)) → Prop} {k1 : Int32 → Option ((Nat → Int32) × Option (Nat × (Nat → Int32)))} (h3 : i3.toInt = n) (h56 : i56.toInt = a) (hn : n ≤ 9) (ha : a < 9) (hk : ∀ i : Int32, (((∃ y, y < n ∧ 0 < G F a y) ∧ i = i56) ∨ ((∀ y, y < n → G F a y ≤ 0) ∧ i = i0)) → Ok (k1 i) P) : ∀ (r c : Nat) (i74 i75 : Int32) (k : Nat), k + r = n → r < c → i75.toInt = k → (((∃ y, y < k ∧ 0 < G F a y) ∧ i74 = i56) ∨ ((∀ y, y < k → G F a y ≤ 0) ∧ i74 = i0)) → Ok (LX8_nextPart_L43 i3 i56 F c i74 i75 k1) P := by
  intro r
  induction r with
  | zero =>
    intro c i74 i75 k hk2 hc h75 hv
    cases c with
    | zero => omega
    | succ c =>
      show Ok (BX8_nextPart_L43 i3 i56 F i74 i75 (fun a b => LX8_nextPart_L43 i3 i56 F c a b k1) k1) P
      unfold BX8_nextPart_L43
      have e : k = n := by omega
      subst e
      refine Ok_if (fun _ => hk _ hv) (fun h => ?_)
      have h := i32nle h
      omega
  | succ r ih =>
    intro c i74 i75 k hk2 hc h75 hv
    cases c with
    | zero => omega
    | succ c =>
      show Ok (BX8_nextPart_L43 i3 i56 F i74 i75 (fun a b => LX8_nextPart_L43 i3 i56 F c a b k1) k1) P
      unfold BX8_nextPart_L43
      refine Ok_if (fun h => ?_) (fun _ => ?_)
      · have h := i32le h
        omega
      · have ei := inc_iv (x := i75) (by omega)
        obtain ⟨g1, g2⟩ := G_idx h56 h75 ha (show k < 9 by omega)
        refine Ok_inB g1 (Ok_jn (fun k76 w76 => ?_))
        rw [g2, w76]
        have t0 : (0 : Int32).toInt = 0 := rfl
        have eF : (F (a * 9 + k)).toInt = G F a k := rfl
        refine Ok_if (fun h => ?_) (fun h => ?_)
        · have h := i32le h
          refine ih c i74 (i75 + 1) (k + 1) (by omega) (by omega) (by omega) ?_
          rcases hv with ⟨⟨y, y1, y2⟩, e⟩ | ⟨q, e⟩
          · exact Or.inl ⟨⟨y, by omega, y2⟩, e⟩
          · refine Or.inr ⟨fun y hy => ?_, e⟩
            by_cases c : y = k
            · subst c; omega
            · exact q y (by omega)
        · have h := i32nle h
          exact ih c i56 (i75 + 1) (k + 1) (by omega) (by omega) (by omega) (Or.inl ⟨⟨k, by omega, by omega⟩, rfl⟩)
def sofar (n : Nat) (F : Nat → Int32) (r : Nat) (i : Int32) : Prop := (i = -1 ∧ ∀ x y, r ≤ x → x < n → y < n → G F x y ≤ 0) ∨ (∃ x : Nat, i.toInt = x ∧ r ≤ x ∧ x < n ∧ (∃ y, y < n ∧ 0 < G F x y) ∧ ∀ x2 y, r ≤ x2 → x2 < x → y < n → G F x2 y ≤ 0)
theorem np_L31 {i3 : Int32} {F : Nat → Int32} {n : Nat} {P : (Nat → Int32) × Option (Nat × (Nat → Int32)) → Prop} {k1 : Int32 → Option ((Nat → Int32) × Option (Nat × (Nat → Int32)))} (h3 : i3.toInt = n) (hn : n ≤ 9) (hk : ∀ i : Int32, sofar n F 0 i → Ok (k1 i) P) : ∀ (r c : Nat) (i55 i56 : Int32), r ≤ n → r < c → i56.toInt = (r : Int) - 1 → sofar n F r i55 → Ok (LX8_nextPart_L31 i3 0 F c i55 i56 k1) P := by
  intro r
  induction r with
  | zero =>
    intro c i55 i56 hr hc h56 hv
    cases c with
    | zero => omega
    | succ c =>
      show Ok (BX8_nextPart_L31 i3 0 F i55 i56 (fun a b => LX8_nextPart_L31 i3 0 F c a b k1) k1) P
      unfold BX8_nextPart_L31
      refine Ok_if (fun _ => hk _ hv) (fun h => ?_)
      have h := i32nlt h
      have t0 : (0 : Int32).toInt = 0 := rfl
      omega
  | succ r ih =>
    intro c i55 i56 hr hc h56 hv
    cases c with
    | zero => omega
    | succ c =>
      show Ok (BX8_nextPart_L31 i3 0 F i55 i56 (fun a b => LX8_nextPart_L31 i3 0 F c a b k1) k1) P
      unfold BX8_nextPart_L31
      have t0 : (0 : Int32).toInt = 0 := rfl
      refine Ok_if (fun h => ?_) (fun _ => Ok_if (fun _ => ?_) (fun h => absurd rfl h))
      · have h := i32lt h
        omega
      · have h56b : i56.toInt = (r : Int) := by omega
        have ed := decp_iv (x := i56) (by omega)
        refine np_L43 (i0 := i55) h3 h56b hn (by omega) (fun i hi => ?_) n 600 i55 0 0 (by omega) (by omega) rfl (Or.inr ⟨fun y hy => by omega, rfl⟩)
        refine ih c i _ (by omega) (by omega) (by omega) ?_
        rcases hi with ⟨q, e⟩ | ⟨q, e⟩
        · exact Or.inr ⟨r, by rw [e]; exact h56b, Nat.le_refl _, by omega, q, fun x2 y h1 h2 _ => by omega⟩
        · rw [e]
          rcases hv with ⟨e1, q1⟩ | ⟨x, x1, x2, x3, x4, x5⟩
          · refine Or.inl ⟨e1, fun x y h1 h2 h3 => ?_⟩
            by_cases c : x = r
            · subst c; exact q y h3
            · exact q1 x y (by omega) h2 h3
          · refine Or.inr ⟨x, x1, by omega, x3, x4, fun z y h1 h2 h3 => ?_⟩
            by_cases c : z = r
            · subst c; exact q y h3
            · exact x5 z y (by omega) h2 h3
theorem np_L132 {i158 : Int32} {F : Nat → Int32} {n a y : Nat} {P : (Nat → Int32) × Option (Nat × (Nat → Int32)) → Prop} {k1 : Int32 → Option ((Nat → Int32) × Option (Nat × (Nat → Int32)))} (h158 : i158.toInt = a) (hn : n ≤ 9) (ha : a < 9) (hy : nxt n F a y) (hk : ∀ i : Int32, i.toInt = y → Ok (k1 i) P) : ∀ (r c : Nat) (i177 : Int32) (k : Nat), k + r = y → r < c → i177.toInt = k → Ok (LX8_nextPart_L132 i158 F c i177 k1) P := by
  intro r
  have hyn := hy.1
  have t0 : (0 : Int32).toInt = 0 := rfl
  induction r with
  | zero =>
    intro c i177 k hk2 hc h177
    cases c with
    | zero => omega
    | succ c =>
      show Ok (BX8_nextPart_L132 i158 F i177 (fun a => LX8_nextPart_L132 i158 F c a k1) k1) P
      unfold BX8_nextPart_L132
      have e : k = y := by omega
      subst e
      obtain ⟨g1, g2⟩ := G_idx h158 h177 ha (show k < 9 by omega)
      refine Ok_inB g1 ?_
      rw [g2]
      have eF : (F (a * 9 + k)).toInt = G F a k := rfl
      have := hy.2.1
      refine Ok_if (fun _ => hk _ h177) (fun h => ?_)
      have h := i32nlt h
      omega
  | succ r ih =>
    intro c i177 k hk2 hc h177
    cases c with
    | zero => omega
    | succ c =>
      show Ok (BX8_nextPart_L132 i158 F i177 (fun a => LX8_nextPart_L132 i158 F c a k1) k1) P
      unfold BX8_nextPart_L132
      obtain ⟨g1, g2⟩ := G_idx h158 h177 ha (show k < 9 by omega)
      have ei := inc_iv (x := i177) (by omega)
      refine Ok_inB g1 ?_
      rw [g2]
      have eF : (F (a * 9 + k)).toInt = G F a k := rfl
      have := hy.2.2 k (by omega)
      refine Ok_if (fun h => ?_) (fun _ => ih c (i177 + 1) (k + 1) (by omega) (by omega) (by omega))
      have h := i32lt h
      omega
theorem np_L154 {i153 i178 : Int32} {N m to_ : Nat} {w : Nat → Nat} {f : Nat → Int32} {P : (Nat → Int32) × Option (Nat × (Nat → Int32)) → Prop} {k1 : Int32 → Option ((Nat → Int32) × Option (Nat × (Nat → Int32)))} (h153 : i153.toInt = m) (h178 : i178.toInt = to_) (hmN : m ≤ N) (hN : N ≤ 16) (hf : ∀ j, j < m → (f j).toInt = w j) (hk : ∀ i : Int32, ((i.toInt = -1 ∧ ∀ j, j < m → w j ≠ to_) ∨ ∃ j : Nat, j < m ∧ w j = to_ ∧ i.toInt = j) → Ok (k1 i) P) : ∀ (r c : Nat) (i200 i201 : Int32) (k : Nat), k + r = m → r < c → i201.toInt = k → ((i200.toInt = -1 ∧ ∀ j, j < k → w j ≠ to_) ∨ ∃ j : Nat, j < k ∧ w j = to_ ∧ i200.toInt = j) → Ok (LX8_nextPart_L154 i153 i178 N f c i200 i201 k1) P := by
  intro r
  induction r with
  | zero =>
    intro c i200 i201 k hk2 hc h201 hv
    cases c with
    | zero => omega
    | succ c =>
      show Ok (BX8_nextPart_L154 i153 i178 N f i200 i201 (fun a b => LX8_nextPart_L154 i153 i178 N f c a b k1) k1) P
      unfold BX8_nextPart_L154
      have e : k = m := by omega
      subst e
      refine Ok_if (fun _ => hk _ hv) (fun h => ?_)
      have h := i32nle h
      omega
  | succ r ih =>
    intro c i200 i201 k hk2 hc h201 hv
    cases c with
    | zero => omega
    | succ c =>
      show Ok (BX8_nextPart_L154 i153 i178 N f i200 i201 (fun a b => LX8_nextPart_L154 i153 i178 N f c a b k1) k1) P
      unfold BX8_nextPart_L154
      have ei := inc_iv (x := i201) (by omega)
      refine Ok_if (fun h => ?_) (fun _ => Ok_inB (vp_of (by omega) (by omega)) (Ok_jn (fun k202 w202 => ?_)))
      · have h := i32le h
        omega
      · rw [toNat_iv h201, w202]
        have ef := hf k (by omega)
        refine Ok_if (fun h => ?_) (fun h => ?_)
        · have h := i32eq h
          exact ih c i201 (i201 + 1) (k + 1) (by omega) (by omega) (by omega) (Or.inr ⟨k, by omega, by omega, h201⟩)
        · have h : w k ≠ to_ := fun q => h (Int32.toInt_inj.mp (by omega))
          refine ih c i200 (i201 + 1) (k + 1) (by omega) (by omega) (by omega) ?_
          rcases hv with ⟨e, q⟩ | ⟨j, j1, j2, j3⟩
          · refine Or.inl ⟨e, fun j hj => ?_⟩
            by_cases c : j = k
            · subst c; exact h
            · exact q j (by omega)
          · exact Or.inr ⟨j, by omega, j2, j3⟩
def WLK (n s g : Nat) (F : Nat → Int32) (w : Nat → Nat) (c : Nat) : Prop :=
  frm n s F (w 0) ∧ (1 ≤ c ∧ c ≤ n) ∧ (∀ i, i + 1 < c → nxt n F (w i) (w (i + 1))) ∧ (∀ i j, i < c → j < c → w i = w j → i = j) ∧ (∀ i, 1 ≤ i → i < c → ¬ (0 < outF n F s ∧ w i = g))
def PRW (n s g : Nat) (F : Nat → Int32) (w : Nat → Nat) (M b : Nat) (way : Int) : Prop :=
  frm n s F (w 0) ∧ (1 ≤ M ∧ M ≤ n ∧ b < M) ∧ (∀ i, i < M → nxt n F (w i) (w (i + 1))) ∧ (∀ i j, i < M → j < M → w i = w j → i = j) ∧
  (∀ i, 1 ≤ i → i < M → ¬ (0 < outF n F s ∧ w i = g)) ∧
  ((way = 1 ∧ 0 < outF n F s ∧ w M = g ∧ b = 0 ∧ (∀ i, i < M → w i ≠ w M)) ∨ (way = 0 ∧ w M = w b))
theorem WLK.lt {n s g c : Nat} {R F : Nat → Int32} {w : Nat → Nat} (h : WLK n s g F w c) (hI : FI n s g R F) : ∀ i, i < c → w i < n := by
  intro i hi
  rcases Nat.eq_zero_or_pos i with e | e
  · subst e
    rcases h.1 with ⟨-, q⟩ | ⟨-, q, -⟩
    · rw [q]; exact hI.2.1.1
    · exact q
  · have := (h.2.2.1 (i - 1) (by omega)).1
    rw [show i - 1 + 1 = i by omega] at this
    exact this
theorem WLK.on {n s g c : Nat} {R F : Nat → Int32} {w : Nat → Nat} (h : WLK n s g F w c) (hI : FI n s g R F) : ∃ y, nxt n F (w (c - 1)) y := by
  have hc := h.2.1
  have n9 := hI.1
  have lt := h.lt hI
  have l0 := lt (c - 1) (by omega)
  by_cases e : c = 1
  · rw [show c - 1 = 0 by omega]
    rcases h.1 with ⟨q1, q2⟩ | ⟨-, -, ⟨y, y1, y2⟩, -⟩
    · obtain ⟨y, y1, y2⟩ := sumN_pos q1
      rw [q2]
      exact nxt_ex y y (Nat.le_refl _) y1 y2
    · exact nxt_ex y y (Nat.le_refl _) y1 y2
  · have p := h.2.2.1 (c - 2) (by omega)
    rw [show c - 2 + 1 = c - 1 by omega] at p
    have l1 := lt (c - 2) (by omega)
    have a := (hI.2.2.2.1 (w (c - 2)) (w (c - 1)) (by omega) (by omega)).1
    have o := hI.outs l0 (h.2.2.2.2 (c - 1) (by omega) (by omega))
    obtain ⟨y, y1, y2⟩ := sumN_neg_pos o l1 (by have := p.2.1; omega)
    exact nxt_ex y y (Nat.le_refl _) y1 y2
theorem np_out {i7 i152 : Int32} {F : Nat → Int32} {N c : Nat} {P : (Nat → Int32) × Option (Nat × (Nat → Int32)) → Prop} {k1 : Int32 → Int32 → Int32 → (Nat → Int32) → Option ((Nat → Int32) × Option (Nat × (Nat → Int32)))} {a b d : Int32} {f : Nat → Int32} (h : 0 ≤ b.toInt ∨ d ≠ 0) (hk : Ok (k1 a b d f) P) (hc : 0 < c) : Ok (LX8_nextPart_L110 i7 i152 F N c a b d f k1) P := by
  cases c with
  | zero => omega
  | succ c =>
    show Ok (BX8_nextPart_L110 i7 i152 F N a b d f (fun x y z u => LX8_nextPart_L110 i7 i152 F N c x y z u k1) k1) P
    unfold BX8_nextPart_L110
    have t0 : (0 : Int32).toInt = 0 := rfl
    refine Ok_if (fun _ => hk) (fun g => Ok_if (fun e => ?_) (fun _ => hk))
    have g := i32nle g
    rcases h with h | h
    · omega
    · exact absurd e h
theorem np_L110 {i7 i152 : Int32} {R F : Nat → Int32} {n s g : Nat} {P : (Nat → Int32) × Option (Nat × (Nat → Int32)) → Prop} {k1 : Int32 → Int32 → Int32 → (Nat → Int32) → Option ((Nat → Int32) × Option (Nat × (Nat → Int32)))} (hI : FI n s g R F) (h7 : i7.toInt = g) (h152 : i152.toInt = outF n F s) (hk : ∀ (i211 i212 i213 : Int32) (f214 : Nat → Int32) (w : Nat → Nat) (M b : Nat) (way : Int), PRW n s g F w M b way → i211.toInt = (M : Int) + 1 → i213.toInt = way → (way = 0 → i212.toInt = b) → (∀ i, i ≤ M → (f214 i).toInt = w i) → Ok (k1 i211 i212 i213 f214) P) : ∀ (r f : Nat) (i153 : Int32) (f157 : Nat → Int32) (w : Nat → Nat) (c : Nat), n < c + r → r < f → i153.toInt = c → WLK n s g F w c → (∀ j, j < c → (f157 j).toInt = w j) → Ok (LX8_nextPart_L110 i7 i152 F (n + 1) f i153 (-1) 0 f157 k1) P := by
  intro r
  have n9 := hI.1
  have t0 : (0 : Int32).toInt = 0 := rfl
  have tm : (-1 : Int32).toInt = -1 := rfl
  induction r with
  | zero => intro f i153 f157 w c hc hf h153 hW hp; have := hW.2.1; omega
  | succ r ih =>
    intro f i153 f157 w c hc hf h153 hW hp
    cases f with
    | zero => omega
    | succ f =>
      show Ok (BX8_nextPart_L110 i7 i152 F (n + 1) i153 (-1) 0 f157 (fun x y z u => LX8_nextPart_L110 i7 i152 F (n + 1) f x y z u k1) k1) P
      unfold BX8_nextPart_L110
      refine Ok_if (fun h => ?_) (fun _ => Ok_if (fun _ => ?_) (fun h => absurd rfl h))
      · have h := i32le h
        omega
      · have hcn := hW.2.1
        have lt := hW.lt hI
        have t1 : (1 : Int32).toInt = 1 := rfl
        have es : (i153 - (1 : Int32)).toInt = ((c - 1 : Nat) : Int) := by rw [sub_iv (by omega) (by omega)]; omega
        have ei := inc_iv (x := i153) (by omega)
        obtain ⟨y, hy⟩ := hW.on hI
        refine Ok_inB (vp_of (by omega) (by omega)) (Ok_nm (fun i158 w158 => ?_))
        have e158 : i158.toInt = w (c - 1) := by rw [w158, toNat_iv es]; exact hp (c - 1) (by omega)
        clear w158
        have hyn := hy.1
        have l1 := lt (c - 1) (by omega)
        refine np_L132 e158 n9.2 (by omega) hy (fun i178 h178 => ?_) y 600 0 0 (by omega) (by omega) rfl
        refine np_L154 (w := w) h153 h178 (show c ≤ n + 1 by omega) (by omega) hp (fun i205 h205 => ?_) c 600 (-1) 0 0 (by omega) (by omega) rfl (Or.inl ⟨rfl, fun j hj => by omega⟩)
        refine Ok_inB (vp_of (by omega) (by omega)) (Ok_jn (fun k206 w206 => Ok_jn (fun k208 w208 => ?_)))
        rw [toNat_iv h153] at w206
        have pl : ∀ j, j < c + 1 → (upd f157 c i178 j).toInt = upN w c y j := fun j hj => by
          unfold upd upN
          by_cases e : j = c
          · rw [if_pos e, if_pos e]; exact h178
          · rw [if_neg e, if_neg e]; exact hp j (by omega)
        have u0 : upN w c y 0 = w 0 := upN_ne w y (by omega)
        have uc : upN w c y c = y := upN_eq w c y
        have un : ∀ j, j < c → upN w c y j = w j := fun j hj => upN_ne w y (by omega)
        have ste : ∀ i, i < c → nxt n F (upN w c y i) (upN w c y (i + 1)) := fun i hi => by
          by_cases e : i + 1 = c
          · rw [e, uc, un i hi, Nat.eq_sub_of_add_eq e]; exact hy
          · rw [un i hi, un (i + 1) (by omega)]; exact hW.2.2.1 i (by omega)
        have inj : ∀ i j, i < c → j < c → upN w c y i = upN w c y j → i = j := fun i j hi hj e => by
          rw [un i hi, un j hj] at e; exact hW.2.2.2.1 i j hi hj e
        have ng : ∀ i, 1 ≤ i → i < c → ¬ (0 < outF n F s ∧ upN w c y i = g) := fun i h1 h2 => by
          rw [un i h2]; exact hW.2.2.2.2 i h1 h2
        have fr : frm n s F (upN w c y 0) := by rw [u0]; exact hW.1
        rcases h205 with ⟨e205, hnew⟩ | ⟨b, b1, b2, b3⟩
        · have more : (¬ (0 < outF n F s ∧ y = g)) → Ok (k208 ()) P := by
            intro hg
            rw [w208]
            show Ok (k206 0) P
            rw [w206]
            have hm := pig_miss hyn lt hW.2.2.2.1 hnew
            have e5 : i205 = -1 := Int32.toInt_inj.mp (e205.trans tm.symm)
            rw [e5]
            refine ih f (i153 + 1) _ (upN w c y) (c + 1) (by omega) (by omega) (by omega) ⟨fr, ⟨by omega, by omega⟩, fun i hi => ste i (by omega), fun i j hi hj e => ?_, fun i h1 h2 => ?_⟩ pl
            · by_cases c1 : i = c
              · by_cases c2 : j = c
                · omega
                · rw [c1, uc, un j (by omega)] at e
                  exact absurd e.symm (hnew j (by omega))
              · by_cases c2 : j = c
                · rw [c2, uc, un i (by omega)] at e
                  exact absurd e (hnew i (by omega))
                · exact inj i j (by omega) (by omega) e
            · by_cases c1 : i = c
              · rw [c1, uc]; exact hg
              · exact ng i h1 (by omega)
          refine Ok_if (fun h => ?_) (fun _ => Ok_if (fun h => ?_) (fun h => Ok_if (fun e => ?_) (fun e => ?_)))
          · have h := i32le h
            omega
          · have h := i32le h
            exact more (fun q => by omega)
          · have h := i32nle h
            have e := i32eq e
            have eg : y = g := by omega
            rw [w206]
            refine np_out (Or.inr (by decide)) ?_ (by omega)
            exact hk (i153 + 1) i205 1 _ (upN w c y) c 0 1 ⟨fr, ⟨by omega, by omega, by omega⟩, ste, inj, ng, Or.inl ⟨rfl, by omega, by rw [uc]; exact eg, rfl, fun i hi => by rw [uc, un i hi]; exact hnew i hi⟩⟩ (by omega) rfl (fun q => by omega) (fun i hi => pl i (by omega))
          · exact more (fun q => e (Int32.toInt_inj.mp (by omega)))
        · have done : Ok (k208 ()) P := by
            rw [w208]
            show Ok (k206 0) P
            rw [w206]
            refine np_out (Or.inl (by omega)) ?_ (by omega)
            exact hk (i153 + 1) i205 0 _ (upN w c y) c b 0 ⟨fr, ⟨by omega, by omega, b1⟩, ste, inj, ng, Or.inr ⟨rfl, by rw [uc, un b b1]; exact b2.symm⟩⟩ (by omega) rfl (fun _ => b3) (fun i hi => pl i (by omega))
          refine Ok_if (fun _ => done) (fun h => ?_)
          have h := i32nle h
          omega
theorem np_L246 {i211 : Int32} {F : Nat → Int32} {n M b : Nat} {w : Nat → Nat} {f214 : Nat → Int32} {c0 : Int} {P : (Nat → Int32) × Option (Nat × (Nat → Int32)) → Prop} {k1 : Int32 → Option ((Nat → Int32) × Option (Nat × (Nat → Int32)))} (hn : n ≤ 9) (h211 : i211.toInt = (M : Int) + 1) (hM : M ≤ n) (hlt : ∀ i, i ≤ M → w i < n) (hf : ∀ i, i ≤ M → (f214 i).toInt = w i) (hk : ∀ i : Int32, i.toInt = min c0 (mnL (G F) (fun i => w (b + i)) (M - b)) → Ok (k1 i) P) : ∀ (r c : Nat) (i241 i242 : Int32) (j : Nat), b + j + r = M → r < c → i242.toInt = (b : Int) + j + 1 → i241.toInt = min c0 (mnL (G F) (fun i => w (b + i)) j) → Ok (LX8_nextPart_L246 i211 F (n + 1) f214 c i241 i242 k1) P := by
  intro r
  induction r with
  | zero =>
    intro c i241 i242 j hj hc h242 h241
    cases c with
    | zero => omega
    | succ c =>
      show Ok (BX8_nextPart_L246 i211 F (n + 1) f214 i241 i242 (fun a b => LX8_nextPart_L246 i211 F (n + 1) f214 c a b k1) k1) P
      unfold BX8_nextPart_L246
      refine Ok_if (fun _ => hk _ (by rw [h241, show j = M - b by omega])) (fun h => ?_)
      have h := i32nle h
      omega
  | succ r ih =>
    intro c i241 i242 j hj hc h242 h241
    cases c with
    | zero => omega
    | succ c =>
      show Ok (BX8_nextPart_L246 i211 F (n + 1) f214 i241 i242 (fun a b => LX8_nextPart_L246 i211 F (n + 1) f214 c a b k1) k1) P
      unfold BX8_nextPart_L246
      refine Ok_if (fun h => ?_) (fun _ => ?_)
      · have h := i32le h
        omega
      · have ei := inc_iv (x := i242) (by omega)
        have t1 : (1 : Int32).toInt = 1 := rfl
        have es : (i242 - (1 : Int32)).toInt = ((b + j : Nat) : Int) := by rw [sub_iv (by omega) (by omega)]; omega
        obtain ⟨y, wy⟩ : ∃ y, y = i242 - (1 : Int32) := ⟨_, rfl⟩
        rw [← wy] at es ⊢
        clear wy
        have h242b : i242.toInt = ((b + (j + 1) : Nat) : Int) := by omega
        rw [toNat_iv es, toNat_iv h242b]
        have l1 := hlt (b + j) (by omega)
        have l2 := hlt (b + (j + 1)) (by omega)
        obtain ⟨g1, g2⟩ := G_idx (hf (b + j) (by omega)) (hf (b + (j + 1)) (by omega)) (by omega) (by omega)
        refine Ok_inB (vp_of (by omega) (by omega)) (Ok_inB (vp_of (by omega) (by omega)) (Ok_inB g1 ?_))
        rw [g2]
        refine Ok_nm (fun x wx => ?_)
        refine ih c x (i242 + 1) (j + 1) (by omega) (by omega) (by omega) ?_
        have e : (F (w (b + j) * 9 + w (b + (j + 1)))).toInt = G F (w (b + j)) (w (b + (j + 1))) := rfl
        have em : mnL (G F) (fun i => w (b + i)) (j + 1) = (if G F (w (b + j)) (w (b + (j + 1))) < mnL (G F) (fun i => w (b + i)) j then G F (w (b + j)) (w (b + (j + 1))) else mnL (G F) (fun i => w (b + i)) j) := rfl
        rw [wx, em]
        by_cases q : F (w (b + j) * 9 + w (b + (j + 1))) < i241
        · have q2 := i32lt q
          rw [if_pos q, e]
          split <;> omega
        · have q2 := i32nlt q
          rw [if_neg q]
          split <;> omega
theorem np_L319 {i211 i217 : Int32} {n M b : Nat} {w : Nat → Nat} {f214 : Nat → Int32} {u v : Int32} {P : (Nat → Int32) × Option (Nat × (Nat → Int32)) → Prop} {k1 : (Nat → Int32) → Option ((Nat → Int32) × Option (Nat × (Nat → Int32)))} (hn : n ≤ 9) (h211 : i211.toInt = (M : Int) + 1) (h217 : i217.toInt = b) (hM : M ≤ n) (hf : ∀ i, i ≤ M → (f214 i).toInt = w i) (hk : ∀ f : Nat → Int32, (f 0 = u ∧ f 1 = v) → (∀ i, i < M + 1 - b → (f (i + 2)).toInt = w (b + i)) → Ok (k1 f) P) : ∀ (r c : Nat) (i270 : Int32) (f273 : Nat → Int32) (j : Nat), b + j + r = M + 1 → r < c → i270.toInt = (b : Int) + j → (f273 0 = u ∧ f273 1 = v) → (∀ i, i < j → (f273 (i + 2)).toInt = w (b + i)) → Ok (LX8_nextPart_L319 i211 i217 (n + 1) f214 (M - b + 3) c i270 f273 k1) P := by
  intro r
  induction r with
  | zero =>
    intro c i270 f273 j hj hc h270 h01 hv
    cases c with
    | zero => omega
    | succ c =>
      show Ok (BX8_nextPart_L319 i211 i217 (n + 1) f214 (M - b + 3) i270 f273 (fun a b => LX8_nextPart_L319 i211 i217 (n + 1) f214 (M - _ + 3) c a b k1) k1) P
      unfold BX8_nextPart_L319
      refine Ok_if (fun _ => hk _ h01 (fun i hi => hv i (by omega))) (fun h => ?_)
      have h := i32nle h
      omega
  | succ r ih =>
    intro c i270 f273 j hj hc h270 h01 hv
    cases c with
    | zero => omega
    | succ c =>
      show Ok (BX8_nextPart_L319 i211 i217 (n + 1) f214 (M - b + 3) i270 f273 (fun x y => LX8_nextPart_L319 i211 i217 (n + 1) f214 (M - b + 3) c x y k1) k1) P
      unfold BX8_nextPart_L319
      refine Ok_if (fun h => ?_) (fun _ => ?_)
      · have h := i32le h
        omega
      · have ei := inc_iv (x := i270) (by omega)
        have t2 : (2 : Int32).toInt = 2 := rfl
        have es : (i270 - i217).toInt = (j : Int) := by rw [sub_iv (by omega) (by omega)]; omega
        obtain ⟨y, wy⟩ : ∃ y, y = i270 - i217 := ⟨_, rfl⟩
        rw [← wy] at es ⊢
        clear wy
        have es2 : (y + (2 : Int32)).toInt = ((j + 2 : Nat) : Int) := by rw [add_iv (by omega) (by omega)]; omega
        obtain ⟨x, wx⟩ : ∃ x, x = y + (2 : Int32) := ⟨_, rfl⟩
        rw [← wx] at es2 ⊢
        clear wx
        have h270b : i270.toInt = ((b + j : Nat) : Int) := by omega
        rw [toNat_iv es2, toNat_iv h270b]
        refine Ok_inB (vp_of (by omega) (by omega)) (Ok_inB (vp_of (by omega) (by omega)) ?_)
        refine ih c (i270 + 1) _ (j + 1) (by omega) (by omega) (by omega) ⟨by unfold upd; rw [if_neg (by omega)]; exact h01.1, by unfold upd; rw [if_neg (by omega)]; exact h01.2⟩ (fun i hi => ?_)
        unfold upd
        by_cases e : i = j
        · rw [if_pos (by omega), e]; exact hf (b + j) (by omega)
        · rw [if_neg (by omega)]; exact hv i (by omega)
theorem np_L353 {i211 i245 : Int32} {F : Nat → Int32} {n M b len : Nat} {m : Int} {w : Nat → Nat} {f214 f274 : Nat → Int32} (hn : n ≤ 9) (h211 : i211.toInt = (M : Int) + 1) (h245 : i245.toInt = m) (hm : 0 ≤ m ∧ m ≤ 50) (hM : M ≤ n) (hlt : ∀ i, i ≤ M → w i < n) (hf : ∀ i, i ≤ M → (f214 i).toInt = w i) (hd : dis (fun i => w (b + i)) (M - b)) (hF : ∀ a b, a < 9 → b < 9 → -100 ≤ G F a b ∧ G F a b ≤ 100) : ∀ (r c : Nat) (i295 : Int32) (f296 : Nat → Int32) (j : Nat), b + j + r = M → r < c → i295.toInt = (b : Int) + j + 1 → carried F f296 (fun i => w (b + i)) (-m) j → Ok (LX8_nextPart_L353 i211 i245 (n + 1) f214 len f274 c i295 f296) (fun z => z.2 = some (len, f274) ∧ carried F z.1 (fun i => w (b + i)) (-m) (M - b)) := by
  intro r
  induction r with
  | zero =>
    intro c i295 f296 j hj hc h295 hC
    cases c with
    | zero => omega
    | succ c =>
      show Ok (BX8_nextPart_L353 i211 i245 (n + 1) f214 len f274 i295 f296 (fun x y => LX8_nextPart_L353 i211 i245 (n + 1) f214 len f274 c x y)) _
      unfold BX8_nextPart_L353
      refine Ok_if (fun _ => Ok_some ⟨rfl, by rw [show M - b = j by omega]; exact hC⟩) (fun h => ?_)
      have h := i32nle h
      omega
  | succ r ih =>
    intro c i295 f296 j hj hc h295 hC
    cases c with
    | zero => omega
    | succ c =>
      show Ok (BX8_nextPart_L353 i211 i245 (n + 1) f214 len f274 i295 f296 (fun x y => LX8_nextPart_L353 i211 i245 (n + 1) f214 len f274 c x y)) _
      unfold BX8_nextPart_L353
      refine Ok_if (fun h => ?_) (fun _ => ?_)
      · have h := i32le h
        omega
      · have ei := inc_iv (x := i295) (by omega)
        have t1 : (1 : Int32).toInt = 1 := rfl
        have es : (i295 - (1 : Int32)).toInt = ((b + j : Nat) : Int) := by rw [sub_iv (by omega) (by omega)]; omega
        obtain ⟨y, wy⟩ : ∃ y, y = i295 - (1 : Int32) := ⟨_, rfl⟩
        rw [← wy] at es ⊢
        clear wy
        have h295b : i295.toInt = ((b + (j + 1) : Nat) : Int) := by omega
        rw [toNat_iv es, toNat_iv h295b]
        have l1 := hlt (b + j) (by omega)
        have l2 := hlt (b + (j + 1)) (by omega)
        have hne : w (b + j) ≠ w (b + (j + 1)) := fun e => (hd j j (by omega) (by omega)).2 ⟨e, e.symm⟩
        obtain ⟨g1, g2⟩ := G_idx (hf (b + j) (by omega)) (hf (b + (j + 1)) (by omega)) (by omega) (by omega)
        obtain ⟨g3, g4⟩ := G_idx (hf (b + (j + 1)) (by omega)) (hf (b + j) (by omega)) (by omega) (by omega)
        rw [g2, g4]
        have v1 : vp_in y (n + 1) := vp_of (by omega) (by omega)
        have v2 : vp_in i295 (n + 1) := vp_of (by omega) (by omega)
        refine Ok_inB v1 (Ok_inB v2 (Ok_inB g1 (Ok_inB g1 (Ok_inB v2 (Ok_inB v1 (Ok_inB g3 (Ok_inB g3 ?_)))))))
        have hu := upd2_moved (F := f296) (x := i245) (a := w (b + j)) (b := w (b + (j + 1))) (by omega) (by omega) hne (by omega) (fun x y hx hy => by
          have k1 := hF x y hx hy
          have k2 := hC x y hx hy
          rcases mvs3 hd (-m) x y j (by omega) with ⟨i, -, -, -, i4⟩ | ⟨i, -, -, -, i4⟩ | ⟨i4, -⟩ <;> omega)
        refine ih c (i295 + 1) _ (j + 1) (by omega) (by omega) (by omega) (fun x y hx hy => ?_)
        rw [hu x y hx hy, hC x y hx hy, h245]
        show _ = G F x y + (mvs (fun i => w (b + i)) (-m) x y j + (if x = w (b + j) ∧ y = w (b + (j + 1)) then -m else 0) - (if x = w (b + (j + 1)) ∧ y = w (b + j) then -m else 0))
        omega
theorem PRW.prt {n s g M b : Nat} {F : Nat → Int32} {w : Nat → Nat} {way m : Int} (h : PRW n s g F w M b way) (h1 : way = 1 → m = min (outF n F s) (mnL (G F) (fun i => w (b + i)) (M - b))) (h0 : way = 0 → m = mnL (G F) (fun i => w (b + i)) (M - b)) : PRT n s g F w M b way m := by
  refine ⟨h.1, h.2.1, h.2.2.1, h.2.2.2.1, h.2.2.2.2.1, ?_⟩
  rcases h.2.2.2.2.2 with ⟨q1, q2, q3, q4, q5⟩ | ⟨q1, q2⟩
  · exact Or.inl ⟨q1, q2, q3, q4, q5, h1 q1⟩
  · exact Or.inr ⟨q1, q2, h0 q1⟩
def NP (n s g : Nat) (F : Nat → Int32) (z : (Nat → Int32) × Option (Nat × (Nat → Int32))) : Prop :=
  (z = (F, none) ∧ empt n s F) ∨ ∃ (w : Nat → Nat) (M b : Nat) (way m : Int) (made : Nat → Int32), z.2 = some (M - b + 3, made) ∧ PRT n s g F w M b way m ∧ carried F z.1 (fun i => w (b + i)) (-m) (M - b) ∧ (made 0).toInt = way ∧ (made 1).toInt = m ∧ ∀ i, i < M + 1 - b → (made (i + 2)).toInt = w (b + i)
theorem nextPart_iv {i3 i6 i7 : Int32} {R F : Nat → Int32} {n s g : Nat} (h3 : i3.toInt = n) (h6 : i6.toInt = s) (h7 : i7.toInt = g) (hI : FI n s g R F) : Ok (fX8_nextPart i3 i6 i7 F) (NP n s g F) := by
  have n9 := hI.1
  have se := hI.2.1
  have hv := hI.value400
  have t0 : (0 : Int32).toInt = 0 := rfl
  have t1 : (1 : Int32).toInt = 1 := rfl
  have t2 : (2 : Int32).toInt = 2 := rfl
  have tm : (-1 : Int32).toInt = -1 := rfl
  have hF : ∀ a b, a < 9 → b < 9 → -100 ≤ G F a b ∧ G F a b ≤ 100 := fun a b ha hb => by have := (hI.flow ha hb).1; omega
  unfold fX8_nextPart
  refine Ok_bind (fromPlace_iv h3 h6 n9.2 (by omega) (fun b hb => (hI.flow (by omega) hb).1)) (fun z13 h13 => Ok_jn (fun k14 w14 => ?_))
  have rest : ∀ (i80 : Int32) (kk : Int32 → Option ((Nat → Int32) × Option (Nat × (Nat → Int32)))), ((i80 = -1 ∧ empt n s F) ∨ ∃ x : Nat, i80.toInt = x ∧ frm n s F x) → (kk = fun (i80 : Int32) => if (0 : Int32) ≤ i80 then (nN (i3 + (1 : Int32)) 16 (inB (0 : Int32) ((i3 + (1 : Int32)).toNatClampNeg) (LX8_nextPart_L110 i7 z13 F ((i3 + (1 : Int32)).toNatClampNeg) 600 (1 : Int32) (-1 : Int32) (0 : Int32) (upd (fun _ => 0) (0 : Int32).toNatClampNeg i80) (fun (i211 : Int32) (i212 : Int32) (i213 : Int32) (f214 : Nat → Int32) => jn (fun (i217 : Int32) => jn (fun (i220 : Int32) => nm (i217 + (1 : Int32)) (fun (i221 : Int32) => LX8_nextPart_L246 i211 F ((i3 + (1 : Int32)).toNatClampNeg) f214 600 i220 i221 (fun (i245 : Int32) => nN ((i211 - i217) + (2 : Int32)) 16 (jn (fun (i249 : Int32) => inB (0 : Int32) (((i211 - i217) + (2 : Int32)).toNatClampNeg) (inB (1 : Int32) (((i211 - i217) + (2 : Int32)).toNatClampNeg) (LX8_nextPart_L319 i211 i217 ((i3 + (1 : Int32)).toNatClampNeg) f214 (((i211 - i217) + (2 : Int32)).toNatClampNeg) 600 i217 (upd (upd (fun _ => 0) (0 : Int32).toNatClampNeg i249) (1 : Int32).toNatClampNeg i245) (fun (f274 : Nat → Int32) => nm (i217 + (1 : Int32)) (fun (i275 : Int32) => LX8_nextPart_L353 i211 i245 ((i3 + (1 : Int32)).toNatClampNeg) f214 (((i211 - i217) + (2 : Int32)).toNatClampNeg) f274 600 i275 F))))) (fun (k247 : Int32 → Option ((Nat → Int32) × Option (Nat × (Nat → Int32)))) => if i213 = (0 : Int32) then (k247 (0 : Int32)) else (k247 (1 : Int32))))))) (fun (k218 : Int32 → Option ((Nat → Int32) × Option (Nat × (Nat → Int32)))) => if i213 = (0 : Int32) then (k218 (2147483647 : Int32)) else (k218 z13))) (fun (k215 : Int32 → Option ((Nat → Int32) × Option (Nat × (Nat → Int32)))) => if i213 = (0 : Int32) then (k215 i212) else (k215 (0 : Int32))))))) else (some (F, none))) → Ok (kk i80) (NP n s g F) := by
    intro i80 kk h80 wkk
    rw [wkk]
    clear wkk
    have e3 : (i3 + (1 : Int32)).toInt = ((n + 1 : Nat) : Int) := by rw [inc_iv (by omega)]; omega
    show Ok (if (0 : Int32) ≤ i80 then _ else _) _
    rw [toNat_iv e3]
    refine Ok_if (fun h => ?_) (fun h => ?_)
    · have h := i32le h
      rcases h80 with ⟨e, -⟩ | ⟨x, x1, x2⟩
      · rw [e] at h; omega
      · refine Ok_nN (by omega) (by omega) (Ok_inB (vp_of (by omega) (by omega)) ?_)
        refine np_L110 hI h7 h13 (fun i211 i212 i213 f214 w M b way hP h211 h213 h212 hf => ?_) (n + 1) 600 1 _ (fun _ => x) 1 (by omega) (by omega) rfl ⟨x2, ⟨by omega, by omega⟩, fun i hi => by omega, fun i j hi hj _ => by omega, fun i h1 h2 => by omega⟩ (fun j hj => ?_)
        · refine Ok_jn (fun k215 w215 => ?_)
          have hM := hP.2.1
          have hway : way = 1 ∨ way = 0 := by rcases hP.2.2.2.2.2 with q | q <;> omega
          have hb0 : way = 1 → b = 0 := fun q => by rcases hP.2.2.2.2.2 with q2 | q2 <;> omega
          have go : ∀ i217 : Int32, i217.toInt = b → Ok (k215 i217) (NP n s g F) := by
            intro i217 h217
            rw [w215]
            refine Ok_jn (fun k218 w218 => ?_)
            have go2 : ∀ (i220 : Int32) (c0 : Int), i220.toInt = c0 → c0 ≤ 2147483647 → (way = 1 → c0 = outF n F s) → (way = 0 → c0 = 2147483647) → Ok (k218 i220) (NP n s g F) := by
              intro i220 c0 h220 hc0 hc1 hc2
              rw [w218]
              refine Ok_nm (fun i221 w221 => ?_)
              have e221 : i221.toInt = (b : Int) + 0 + 1 := by rw [w221, inc_iv (by omega)]; omega
              clear w221
              have hP2 : PRT n s g F w M b way (min c0 (mnL (G F) (fun i => w (b + i)) (M - b))) := hP.prt (fun q => by rw [hc1 q]) (fun q => by
                have := mnL_top (v := G F) (t := fun i => w (b + i)) (M - b)
                rw [hc2 q]; omega)
              have hlt := hP2.lt hI
              have am := hP2.amount hI
              refine np_L246 (c0 := c0) (w := w) (b := b) n9.2 h211 hM.2.1 hlt hf (fun i245 h245 => ?_) (M - b) 600 i220 i221 0 (by omega) (by omega) (by omega) (by rw [h220]; show c0 = min c0 2147483647; omega)
              have es : (i211 - i217).toInt = ((M - b + 1 : Nat) : Int) := by rw [sub_iv (by omega) (by omega)]; omega
              have es2 : ((i211 - i217) + (2 : Int32)).toInt = ((M - b + 3 : Nat) : Int) := by rw [add_iv (by omega) (by omega)]; omega
              rw [toNat_iv es2]
              refine Ok_nN (by omega) (by omega) (Ok_jn (fun k247 w247 => ?_))
              have go3 : ∀ i249 : Int32, i249.toInt = way → Ok (k247 i249) (NP n s g F) := by
                intro i249 h249
                rw [w247]
                refine Ok_inB (vp_of (by omega) (by omega)) (Ok_inB (vp_of (by omega) (by omega)) ?_)
                refine np_L319 (u := i249) (v := i245) (w := w) n9.2 h211 h217 hM.2.1 hf (fun f274 h01 hv2 => ?_) (M + 1 - b) 600 i217 _ 0 (by omega) (by omega) (by omega) ⟨?_, ?_⟩ (fun i hi => by omega)
                · refine Ok_nm (fun i275 w275 => ?_)
                  have e275 : i275.toInt = (b : Int) + 0 + 1 := by rw [w275, inc_iv (by omega)]; omega
                  clear w275
                  refine Ok_mono (np_L353 (w := w) (b := b) n9.2 h211 h245 (by omega) hM.2.1 hlt hf (hP2.dis hI) hF (M - b) 600 i275 F 0 (by omega) (by omega) (by omega) (fun x y _ _ => (Int.add_zero _).symm)) (fun z hz => ?_)
                  exact Or.inr ⟨w, M, b, way, _, f274, hz.1, hP2, hz.2, by rw [h01.1]; exact h249, by rw [h01.2]; exact h245, hv2⟩
                · show upd (upd (fun _ => 0) 0 i249) 1 i245 0 = i249
                  unfold upd
                  rw [if_neg (by omega), if_pos rfl]
                · show upd (upd (fun _ => 0) 0 i249) 1 i245 1 = i245
                  unfold upd
                  rw [if_pos rfl]
              refine Ok_if (fun q => ?_) (fun q => ?_)
              · have q := i32eq q
                exact go3 0 (by omega)
              · have q : i213.toInt ≠ 0 := fun e => q (Int32.toInt_inj.mp (e.trans t0.symm))
                exact go3 1 (by omega)
            refine Ok_if (fun q => ?_) (fun q => ?_)
            · have q := i32eq q
              exact go2 _ 2147483647 rfl (Int.le_refl _) (fun e => by omega) (fun _ => rfl)
            · have q : i213.toInt ≠ 0 := fun e => q (Int32.toInt_inj.mp (e.trans t0.symm))
              exact go2 z13 (outF n F s) h13 (by omega) (fun _ => rfl) (fun e => by omega)
          refine Ok_if (fun q => ?_) (fun q => ?_)
          · have q := i32eq q
            exact go i212 (h212 (by omega))
          · have q : i213.toInt ≠ 0 := fun e => q (Int32.toInt_inj.mp (e.trans t0.symm))
            have := hb0 (by omega)
            exact go 0 (by omega)
        · have e : j = 0 := by omega
          subst e
          show (upd (fun _ => 0) 0 i80 0).toInt = x
          unfold upd
          rw [if_pos rfl]; exact x1
    · have h := i32nle h
      rcases h80 with ⟨-, e⟩ | ⟨x, x1, -⟩
      · exact Ok_some (Or.inl ⟨rfl, e⟩)
      · omega
  refine Ok_if (fun h => ?_) (fun h => ?_)
  · have h := i32le h
    have v0 : outF n F s = 0 := by omega
    rw [w14]
    refine Ok_nm (fun i17 w17 => ?_)
    have e17 : i17.toInt = (n : Int) - 1 := by rw [w17, sub_iv (by omega) (by omega)]; omega
    have ez : z13 = 0 := Int32.toInt_inj.mp (by omega)
    subst ez
    refine np_L31 h3 n9.2 (fun i80 h80 => rest i80 _ ?_ rfl) n 600 (-1) i17 (Nat.le_refl _) (by omega) e17 (Or.inl ⟨rfl, fun x y h1 h2 _ => by omega⟩)
    rcases h80 with ⟨e, q⟩ | ⟨x, x1, -, x3, x4, x5⟩
    · exact Or.inl ⟨e, v0, fun a b ha hb => q a b (by omega) ha hb⟩
    · exact Or.inr ⟨x, x1, Or.inr ⟨v0, x3, x4, fun a y ha hy => x5 a y (by omega) ha hy⟩⟩
  · have h := i32nle h
    rw [w14]
    refine Ok_nm (fun i17 w17 => ?_)
    have e17 : i17.toInt = (n : Int) - 1 := by rw [w17, sub_iv (by omega) (by omega)]; omega
    show Ok (BX8_nextPart_L31 i3 z13 F i6 i17 _ _) _
    unfold BX8_nextPart_L31
    refine Ok_if (fun q => ?_) (fun _ => Ok_if (fun q => ?_) (fun _ => rest i6 _ (Or.inr ⟨s, h6, Or.inl ⟨by omega, rfl⟩⟩) rfl))
    · have q := i32lt q
      omega
    · have q := i32eq q
      omega
