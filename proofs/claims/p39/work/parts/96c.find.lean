/-! THE CLASS'S FINDER OF TRACKS -/
def onw (n : Nat) (R F : Nat → Int32) (f : Nat → Int32) : Prop := ∀ a, a < n → isSet_ (f a) (fun x => x < n ∧ ed R F a x)
theorem look_L32 {n a : Nat} {R F : Nat → Int32} {i7 i61 : Int32} {P : (Nat → Int32) → Prop} {k1 : Int32 → Option (Nat → Int32)} (h7 : i7.toInt = n) (hn : n ≤ 9) (h61 : i61.toInt = a) (ha : a < 9) (hk : ∀ i, isSet_ i (fun x => x < n ∧ ed R F a x) → Ok (k1 i) P) : ∀ (r c : Nat) (i85 i86 : Int32) (k : Nat), k + r = n → r < c → i86.toInt = k → isSet_ i85 (fun x => x < k ∧ ed R F a x) → Ok (LX5_look_L32 i7 R F i61 c i85 i86 k1) P := by
  intro r
  induction r with
  | zero =>
    intro c i85 i86 k hk2 hc h86 hS
    cases c with
    | zero => omega
    | succ c =>
      show Ok (BX5_look_L32 i7 R F i61 i85 i86 (fun a b => LX5_look_L32 i7 R F i61 c a b k1) k1) P
      unfold BX5_look_L32
      have e : k = n := by omega
      subst e
      refine Ok_if (fun _ => hk _ hS) (fun h => ?_)
      have h := i32nle h
      omega
  | succ r ih =>
    intro c i85 i86 k hk2 hc h86 hS
    cases c with
    | zero => omega
    | succ c =>
      show Ok (BX5_look_L32 i7 R F i61 i85 i86 (fun a b => LX5_look_L32 i7 R F i61 c a b k1) k1) P
      unfold BX5_look_L32
      have ei := inc_iv (x := i86) (by omega)
      refine Ok_if (fun h => ?_) (fun _ => ?_)
      · have h := i32le h
        omega
      · refine Ok_bind (at_iv (F := R) h61 h86 ha (by omega)) (fun z87 h87 => Ok_bind (at_iv (F := F) h61 h86 ha (by omega)) (fun z88 h88 => Ok_jn (fun k89 w89 => ?_)))
        rw [w89]
        refine Ok_if (fun h => ?_) (fun h => ?_)
        · have h := i32le h
          refine ih c i85 (i86 + 1) (k + 1) (by omega) (by omega) (by omega) (hS.of (fun x hx => ?_))
          constructor
          · exact fun q => ⟨by omega, q.2⟩
          · intro q
            refine ⟨?_, q.2⟩
            by_cases e : x = k
            · have := q.2
              unfold ed lf at this
              rw [e] at this
              omega
            · omega
        · have h := i32nle h
          refine Ok_nm (fun y wy => ?_)
          subst wy
          refine ih c _ (i86 + 1) (k + 1) (by omega) (by omega) (by omega) ((isSet_or hS h86 (by omega)).of (fun x hx => ?_))
          constructor
          · intro q
            rcases q with q | q
            · exact ⟨by omega, q.2⟩
            · refine ⟨by omega, ?_⟩
              rw [q]; unfold ed lf; omega
          · intro q
            by_cases e : x = k
            · exact Or.inr e
            · exact Or.inl ⟨by omega, q.2⟩
theorem look_L10 {n : Nat} {R F : Nat → Int32} {i7 : Int32} (h7 : i7.toInt = n) (hn : n ≤ 9) : ∀ (r c : Nat) (i61 : Int32) (f : Nat → Int32) (k : Nat), k + r = n → r < c → i61.toInt = k → (∀ a, a < k → isSet_ (f a) (fun x => x < n ∧ ed R F a x)) → Ok (LX5_look_L10 i7 R F c i61 f) (onw n R F) := by
  intro r
  have t9 : (9 : Int32).toInt = 9 := rfl
  induction r with
  | zero =>
    intro c i61 f k hk hc h61 hf
    cases c with
    | zero => omega
    | succ c =>
      show Ok (BX5_look_L10 i7 R F i61 f (fun a b => LX5_look_L10 i7 R F c a b)) _
      unfold BX5_look_L10
      have e : k = n := by omega
      subst e
      refine Ok_if (fun _ => Ok_some hf) (fun h => ?_)
      have h := i32nle h
      omega
  | succ r ih =>
    intro c i61 f k hk hc h61 hf
    cases c with
    | zero => omega
    | succ c =>
      show Ok (BX5_look_L10 i7 R F i61 f (fun a b => LX5_look_L10 i7 R F c a b)) _
      unfold BX5_look_L10
      have ei := inc_iv (x := i61) (by omega)
      refine Ok_if (fun h => ?_) (fun _ => Ok_if (fun h => ?_) (fun _ => ?_))
      · have h := i32le h
        omega
      · have h := i32le h
        omega
      · refine look_L32 (a := k) h7 hn h61 (by omega) (fun i hi => ?_) n 12 0 0 0 (by omega) (by omega) rfl (isSet_0.of (fun x _ => ⟨fun q => absurd q id, fun q => by omega⟩))
        refine Ok_inB (vp_of (by omega) (by omega)) ?_
        rw [toNat_iv h61]
        refine ih c (i61 + 1) _ (k + 1) (by omega) (by omega) (by omega) (fun a ha => ?_)
        unfold upd
        by_cases e : a = k
        · rw [if_pos e, e]; exact hi
        · rw [if_neg e]; exact hf a (by omega)
theorem look_iv {n : Nat} {R F : Nat → Int32} {i7 : Int32} (f6 : Nat → Int32) (h7 : i7.toInt = n) (hn : n ≤ 9) : Ok (fX5_look f6 i7 R F) (onw n R F) := by
  unfold fX5_look
  exact look_L10 h7 hn n 12 0 f6 0 (by omega) (by omega) rfl (fun a ha => by omega)
theorem coming_L21 {n : Nat} {R F f8 : Nat → Int32} {B S : Nat → Prop} {i7 i4 i39 : Int32} {P : Int32 → Prop} {k1 : Int32 → Option Int32} (h7 : i7.toInt = n) (hn : n ≤ 9) (ho : onw n R F f8) (h4 : isSet_ i4 B) (h39 : isSet_ i39 S) (hk : ∀ i, isSet_ i (fun x => S x ∨ (x < n ∧ ¬ B x ∧ ∃ y, y < n ∧ ed R F x y ∧ S y)) → Ok (k1 i) P) : ∀ (r c : Nat) (i55 i56 : Int32) (k : Nat), k + r = n → r < c → i56.toInt = k → isSet_ i55 (fun x => S x ∨ (x < k ∧ ¬ B x ∧ ∃ y, y < n ∧ ed R F x y ∧ S y)) → Ok (LX5_comingTo_L21 i7 f8 i4 i39 c i55 i56 k1) P := by
  intro r
  have t9 : (9 : Int32).toInt = 9 := rfl
  induction r with
  | zero =>
    intro c i55 i56 k hk2 hc h56 hS
    cases c with
    | zero => omega
    | succ c =>
      show Ok (BX5_comingTo_L21 i7 f8 i4 i39 i55 i56 (fun a b => LX5_comingTo_L21 i7 f8 i4 i39 c a b k1) k1) P
      unfold BX5_comingTo_L21
      have e : k = n := by omega
      subst e
      refine Ok_if (fun _ => hk _ hS) (fun h => ?_)
      have h := i32nle h
      omega
  | succ r ih =>
    intro c i55 i56 k hk2 hc h56 hS
    cases c with
    | zero => omega
    | succ c =>
      show Ok (BX5_comingTo_L21 i7 f8 i4 i39 i55 i56 (fun a b => LX5_comingTo_L21 i7 f8 i4 i39 c a b k1) k1) P
      unfold BX5_comingTo_L21
      have ei := inc_iv (x := i56) (by omega)
      refine Ok_if (fun h => ?_) (fun _ => Ok_if (fun h => ?_) (fun _ => Ok_jn (fun k57 w57 => ?_)))
      · have h := i32le h
        omega
      · have h := i32le h
        omega
      · rw [bit_iv (s := i4) h56 (by omega)]
        have hB := h4 k (by omega)
        have stay : (¬ (¬ B k ∧ ∃ y, y < n ∧ ed R F k y ∧ S y)) → Ok (k57 i55) P := fun hno => by
          rw [w57]
          refine ih c i55 (i56 + 1) (k + 1) (by omega) (by omega) (by omega) (hS.of (fun x hx => ?_))
          constructor
          · exact fun q => q.elim Or.inl (fun q => Or.inr ⟨by omega, q.2⟩)
          · intro q
            rcases q with q | q
            · exact Or.inl q
            · by_cases e : x = k
              · rw [e] at q; exact absurd q.2 hno
              · exact Or.inr ⟨by omega, q.2⟩
        by_cases hb : has i4 k = true
        · rw [if_pos hb]
          exact Ok_if (fun q => absurd q (by decide)) (fun _ => stay (fun q => q.1 (hB.mp hb)))
        · rw [if_neg hb]
          refine Ok_if (fun _ => Ok_inB (vp_of (by omega) (by omega)) ?_) (fun q => absurd rfl q)
          rw [toNat_iv h56]
          have hE := ho k (by omega)
          refine Ok_if (fun h => stay (fun q => ?_)) (fun h => ?_)
          · obtain ⟨-, y, y1, y2, y3⟩ := q
            exact and_z.mp h y (by omega) ⟨(hE y (by omega)).mpr ⟨y1, y2⟩, (h39 y (by omega)).mpr y3⟩
          · have hex : ∃ y, y < n ∧ ed R F k y ∧ S y := Classical.byContradiction (fun hno => h (and_z.mpr (fun y hy q => hno ⟨y, ((hE y hy).mp q.1).1, ((hE y hy).mp q.1).2, (h39 y hy).mp q.2⟩)))
            refine Ok_nm (fun y wy => ?_)
            subst wy
            rw [w57]
            refine ih c _ (i56 + 1) (k + 1) (by omega) (by omega) (by omega) ((isSet_or hS h56 (by omega)).of (fun x hx => ?_))
            constructor
            · intro q
              rcases q with (q | q) | q
              · exact Or.inl q
              · exact Or.inr ⟨by omega, q.2⟩
              · exact Or.inr ⟨by omega, by rw [q]; exact fun z => hb (hB.mpr z), by rw [q]; exact hex⟩
            · intro q
              rcases q with q | q
              · exact Or.inl (Or.inl q)
              · by_cases e : x = k
                · exact Or.inr e
                · exact Or.inl (Or.inr ⟨by omega, q.2⟩)
theorem coming_L8 {n g d : Nat} {R F f8 : Nat → Int32} {B : Nat → Prop} {i7 i3 i4 : Int32} (h7 : i7.toInt = n) (hn : n ≤ 9) (ho : onw n R F f8) (h4 : isSet_ i4 B) (h3 : i3.toInt = d) : ∀ (r c : Nat) (i39 i40 : Int32) (k : Nat), k + r = d → r < c → i40.toInt = k → isSet_ i39 (Cm n (ed R F) B g k) → Ok (LX5_comingTo_L8 i7 f8 i3 i4 c i39 i40) (fun z => isSet_ z (Cm n (ed R F) B g d)) := by
  intro r
  induction r with
  | zero =>
    intro c i39 i40 k hk hc h40 hS
    cases c with
    | zero => omega
    | succ c =>
      show Ok (BX5_comingTo_L8 i7 f8 i3 i4 i39 i40 (fun a b => LX5_comingTo_L8 i7 f8 i3 i4 c a b)) _
      unfold BX5_comingTo_L8
      have e : k = d := by omega
      subst e
      refine Ok_if (fun _ => Ok_some hS) (fun h => ?_)
      have h := i32nle h
      omega
  | succ r ih =>
    intro c i39 i40 k hk hc h40 hS
    cases c with
    | zero => omega
    | succ c =>
      show Ok (BX5_comingTo_L8 i7 f8 i3 i4 i39 i40 (fun a b => LX5_comingTo_L8 i7 f8 i3 i4 c a b)) _
      unfold BX5_comingTo_L8
      have b3 := i32b (x := i3)
      have ei := inc_iv (x := i40) (by omega)
      refine Ok_if (fun h => ?_) (fun _ => ?_)
      · have h := i32le h
        omega
      · refine coming_L21 (B := B) (S := Cm n (ed R F) B g k) h7 hn ho h4 hS (fun i hi => ?_) n 12 i39 0 0 (by omega) (by omega) rfl (hS.of (fun x _ => ⟨Or.inl, fun q => q.elim id (fun q => by omega)⟩))
        exact ih c i (i40 + 1) (k + 1) (by omega) (by omega) (by omega) hi
theorem coming_iv {n g d : Nat} {R F f8 : Nat → Int32} {B : Nat → Prop} {i7 i2 i3 i4 : Int32} (h7 : i7.toInt = n) (hn : n ≤ 9) (ho : onw n R F f8) (h2 : i2.toInt = g) (hg : g < 9) (h4 : isSet_ i4 B) (h3 : i3.toInt = d) (hd : d ≤ 10) : Ok (fX5_comingTo i7 f8 i2 i3 i4) (fun z => isSet_ z (Cm n (ed R F) B g d)) := by
  unfold fX5_comingTo
  refine Ok_nm (fun i9 w9 => ?_)
  subst w9
  exact coming_L8 h7 hn ho h4 h3 d 12 _ 0 0 (by omega) (by omega) rfl (isSet_one h2 hg)
theorem steps_loop {n s g : Nat} {R F f7 : Nat → Int32} {i6 i2 i3 : Int32} (h6 : i6.toInt = n) (hn : n ≤ 9) (ho : onw n R F f7) (h2 : i2.toInt = s) (hs : s < n) (h3 : i3.toInt = g) (hg : g < n) : ∀ (r c : Nat) (i17 : Int32) (k : Nat), k + r = n → r < c → i17.toInt = k → (∀ j, j < k → ¬ Cm n (ed R F) nowhere g j s) → Ok (LX5_stepsBetween_L2 i6 f7 i2 i3 c i17) (fun z => (z = -1 ∧ ∀ k, ¬ Cm n (ed R F) nowhere g k s) ∨ ∃ k : Nat, k < n ∧ z.toInt = k ∧ exact_ n (ed R F) nowhere g k s) := by
  intro r
  induction r with
  | zero =>
    intro c i17 k hk hc h17 hno
    cases c with
    | zero => omega
    | succ c =>
      show Ok (BX5_stepsBetween_L2 i6 f7 i2 i3 i17 (fun a => LX5_stepsBetween_L2 i6 f7 i2 i3 c a)) _
      unfold BX5_stepsBetween_L2
      refine Ok_if (fun _ => Ok_some (Or.inl ⟨rfl, fun j hj => ?_⟩)) (fun h => ?_)
      · obtain ⟨i, i1, i2⟩ := hj.short hg
        exact hno i (by omega) i2.1
      · have h := i32nle h
        omega
  | succ r ih =>
    intro c i17 k hk hc h17 hno
    cases c with
    | zero => omega
    | succ c =>
      show Ok (BX5_stepsBetween_L2 i6 f7 i2 i3 i17 (fun a => LX5_stepsBetween_L2 i6 f7 i2 i3 c a)) _
      unfold BX5_stepsBetween_L2
      have ei := inc_iv (x := i17) (by omega)
      refine Ok_if (fun h => ?_) (fun _ => ?_)
      · have h := i32le h
        omega
      · refine Ok_bind (coming_iv (B := nowhere) h6 hn ho h3 (by omega) isSet_0 h17 (by omega)) (fun z18 h18 => Ok_bind (holds_iv h2 (by omega)) (fun z19 h19 => ?_))
        have hc18 := h18 s (by omega)
        by_cases q : has z18 s = true
        · rw [if_pos q] at h19
          subst h19
          exact Ok_if (fun e => absurd e one_ne) (fun _ => Ok_some (Or.inr ⟨k, by omega, h17, hc18.mp q, hno⟩))
        · rw [if_neg q] at h19
          subst h19
          refine Ok_if (fun _ => ih c (i17 + 1) (k + 1) (by omega) (by omega) (by omega) (fun j hj => ?_)) (fun e => absurd rfl e)
          by_cases e : j = k
          · rw [e]; exact fun z => q (hc18.mpr z)
          · exact hno j (by omega)
theorem steps_iv {n s g : Nat} {R F f7 : Nat → Int32} {i6 i2 i3 : Int32} (h6 : i6.toInt = n) (hn : n ≤ 9) (ho : onw n R F f7) (h2 : i2.toInt = s) (hs : s < n) (h3 : i3.toInt = g) (hg : g < n) : Ok (fX5_stepsBetween i6 f7 i2 i3) (fun z => (z = -1 ∧ ∀ k, ¬ Cm n (ed R F) nowhere g k s) ∨ ∃ k : Nat, k < n ∧ z.toInt = k ∧ exact_ n (ed R F) nowhere g k s) := by
  unfold fX5_stepsBetween
  exact steps_loop h6 hn ho h2 hs h3 hg n 12 0 0 (by omega) (by omega) rfl (fun j hj => by omega)
theorem onward_iv {f : Nat → Int32} {i : Int32} {a : Nat} (hi : i.toInt = a) (ha : a < 9) : Ok (fX5_onwardFrom f i) (fun z => z = f a) := by
  have t0 : (0 : Int32).toInt = 0 := rfl
  have t9 : (9 : Int32).toInt = 9 := rfl
  unfold fX5_onwardFrom
  refine Ok_if (fun h => ?_) (fun _ => Ok_if (fun h => ?_) (fun _ => Ok_inB (vp_of (by omega) (by omega)) (by rw [toNat_iv hi]; exact Ok_some rfl)))
  · have h := i32lt h; omega
  · have h := i32le h; omega
theorem low_loop {n : Nat} {S : Nat → Prop} {i5 i2 : Int32} (h5 : i5.toInt = n) (hn : n ≤ 9) (hS : isSet_ i2 S) (hex : ∃ p, p < n ∧ S p) : ∀ (r c : Nat) (i12 : Int32) (k : Nat), k + r = n → r < c → i12.toInt = k → (∀ q, q < k → ¬ S q) → Ok (LX5_lowest_L2 i5 i2 c i12) (fun z => ∃ p : Nat, z.toInt = p ∧ p < n ∧ S p ∧ ∀ q, q < p → ¬ S q) := by
  intro r
  induction r with
  | zero =>
    intro c i12 k hk hc h12 hno
    obtain ⟨p, p1, p2⟩ := hex
    exact absurd p2 (hno p (by omega))
  | succ r ih =>
    intro c i12 k hk hc h12 hno
    cases c with
    | zero => omega
    | succ c =>
      show Ok (BX5_lowest_L2 i5 i2 i12 (fun a => LX5_lowest_L2 i5 i2 c a)) _
      unfold BX5_lowest_L2
      have ei := inc_iv (x := i12) (by omega)
      have hk2 := hS k (by omega)
      refine Ok_if (fun h => ?_) (fun _ => Ok_bind (holds_iv h12 (by omega)) (fun z13 h13 => ?_))
      · have h := i32le h
        omega
      · by_cases q : has i2 k = true
        · rw [if_pos q] at h13
          subst h13
          exact Ok_if (fun e => absurd e one_ne) (fun _ => Ok_some ⟨k, h12, by omega, hk2.mp q, hno⟩)
        · rw [if_neg q] at h13
          subst h13
          refine Ok_if (fun _ => ih c (i12 + 1) (k + 1) (by omega) (by omega) (by omega) (fun j hj => ?_)) (fun e => absurd rfl e)
          by_cases e : j = k
          · rw [e]; exact fun z => q (hk2.mpr z)
          · exact hno j (by omega)
theorem low_iv {n : Nat} {S : Nat → Prop} {i5 i2 : Int32} (h5 : i5.toInt = n) (hn : n ≤ 9) (hS : isSet_ i2 S) (hex : ∃ p, p < n ∧ S p) : Ok (fX5_lowest i5 i2) (fun z => ∃ p : Nat, z.toInt = p ∧ p < n ∧ S p ∧ ∀ q, q < p → ¬ S q) := by
  unfold fX5_lowest
  exact low_loop h5 hn hS hex n 12 0 0 (by omega) (by omega) rfl (fun q hq => by omega)
theorem high_loop {n : Nat} {S : Nat → Prop} {i2 : Int32} (hn : n ≤ 9) (hS : isSet_ i2 S) (hex : ∃ p, p < n ∧ S p) : ∀ (r c : Nat) (i13 : Int32), r ≤ n → r < c → i13.toInt = (r : Int) - 1 → (∀ q, r ≤ q → q < n → ¬ S q) → Ok (LX5_highest_L7 i2 c i13) (fun z => ∃ p : Nat, z.toInt = p ∧ p < n ∧ S p ∧ ∀ q, p < q → q < n → ¬ S q) := by
  intro r
  have t0 : (0 : Int32).toInt = 0 := rfl
  induction r with
  | zero =>
    intro c i13 hr hc h13 hno
    obtain ⟨p, p1, p2⟩ := hex
    exact absurd p2 (hno p (by omega) p1)
  | succ r ih =>
    intro c i13 hr hc h13 hno
    cases c with
    | zero => omega
    | succ c =>
      show Ok (BX5_highest_L7 i2 i13 (fun a => LX5_highest_L7 i2 c a)) _
      unfold BX5_highest_L7
      have ed := decp_iv (x := i13) (by omega)
      have h13b : i13.toInt = (r : Int) := by omega
      have hk2 := hS r (by omega)
      refine Ok_if (fun h => ?_) (fun _ => Ok_bind (holds_iv h13b (by omega)) (fun z14 h14 => ?_))
      · have h := i32lt h
        omega
      · by_cases q : has i2 r = true
        · rw [if_pos q] at h14
          subst h14
          exact Ok_if (fun e => absurd e one_ne) (fun _ => Ok_some ⟨r, h13b, by omega, hk2.mp q, fun j h1 h2 => hno j (by omega) h2⟩)
        · rw [if_neg q] at h14
          subst h14
          refine Ok_if (fun _ => ih c _ (by omega) (by omega) (by omega) (fun j h1 h2 => ?_)) (fun e => absurd rfl e)
          by_cases e : j = r
          · rw [e]; exact fun z => q (hk2.mpr z)
          · exact hno j (by omega) h2
theorem high_iv {n : Nat} {S : Nat → Prop} {i5 i2 : Int32} (h5 : i5.toInt = n) (hn : n ≤ 9) (hS : isSet_ i2 S) (hex : ∃ p, p < n ∧ S p) : Ok (fX5_highest i5 i2) (fun z => ∃ p : Nat, z.toInt = p ∧ p < n ∧ S p ∧ ∀ q, p < q → q < n → ¬ S q) := by
  unfold fX5_highest
  have t1 : (1 : Int32).toInt = 1 := rfl
  have b5 := i32b (x := i5)
  refine Ok_nm (fun i6 w6 => ?_)
  have e6 : i6.toInt = (n : Int) - 1 := by rw [w6, sub_iv (by omega) (by omega)]; omega
  exact high_loop hn hS hex n 12 i6 (Nat.le_refl _) (by omega) e6 (fun q h1 h2 => by omega)
theorem add_row {i4 : Int32} {f5 : Nat → Int32} {i2 : Int32} {k : Nat} (h4 : i4.toInt = k) (hk : k < 10) : Ok (fX4_add i4 f5 i2) (fun z => z.1.toInt = (k : Int) + 1 ∧ z.2 = upd f5 k i2) := by
  have t0 : (0 : Int32).toInt = 0 := rfl
  have t10 : (10 : Int32).toInt = 10 := rfl
  unfold fX4_add
  have ei := inc_iv (x := i4) (by omega)
  refine Ok_if (fun h => ?_) (fun _ => Ok_if (fun h => ?_) (fun _ => Ok_inB (vp_of (by omega) (by omega)) (by rw [toNat_iv h4]; exact Ok_some ⟨by show (i4 + 1).toInt = _; omega, rfl⟩)))
  · have h := i32lt h; omega
  · have h := i32le h; omega
def bl (t : Nat → Nat) (m : Nat) : Nat → Prop := fun x => ∃ j, j < m ∧ t j = x
theorem bl_same {t t' : Nat → Nat} {m : Nat} (h : ∀ j, j < m → t j = t' j) : ∀ x, bl t m x ↔ bl t' m x := fun x => ⟨fun ⟨j, j1, j2⟩ => ⟨j, j1, by rw [← h j j1]; exact j2⟩, fun ⟨j, j1, j2⟩ => ⟨j, j1, by rw [h j j1]; exact j2⟩⟩
theorem Cm.notA {n g : Nat} {E : Nat → Nat → Prop} {A : Nat → Prop} : ∀ k x, Cm n E A g k x → x = g ∨ ¬ A x
  | 0, _, h => Or.inl h
  | k + 1, x, h => by
    rcases h with h | ⟨-, h, -⟩
    · exact Cm.notA k x h
    · exact Or.inr h
def chose (n g : Nat) (E : Nat → Nat → Prop) (rule : Int) (d : Nat) (t : Nat → Nat) (j : Nat) : Prop :=
  (rule = 0 → ∀ p, p < n → p < t (j + 1) → E (t j) p → ¬ Cm n E (bl t (j + 1)) g (d - (j + 1)) p) ∧
  (rule = 1 → ∀ p k, p < n → p < t (j + 1) → E (t j) p → ¬ Cm n E (bl t (j + 1)) g k p) ∧
  (rule = 2 → ∀ p k, p < n → t (j + 1) < p → E (t j) p → ¬ Cm n E (bl t (j + 1)) g k p)
def FS (n s g : Nat) (E : Nat → Nat → Prop) (rule : Int) (d : Nat) (t : Nat → Nat) (i : Nat) : Prop :=
  (1 ≤ i ∧ t 0 = s) ∧ (∀ j, j < i → t j < n) ∧ (∀ a b, a < i → b < i → t a = t b → a = b) ∧ (∀ j, j + 1 < i → t j ≠ g ∧ E (t j) (t (j + 1)) ∧ chose n g E rule d t j) ∧
  ∃ r, Cm n E (bl t (i - 1)) g r (t (i - 1)) ∧ (rule = 0 → r + (i - 1) = d)
theorem chose_same {n g : Nat} {E : Nat → Nat → Prop} {rule : Int} {d : Nat} {t t' : Nat → Nat} {j : Nat} (h : ∀ a, a ≤ j + 1 → t a = t' a) (hc : chose n g E rule d t j) : chose n g E rule d t' j := by
  have b := bl_same (t := t) (t' := t') (m := j + 1) (fun a ha => h a (by omega))
  have bk : ∀ x, x < n → (bl t' (j + 1) x ↔ bl t (j + 1) x) := fun x _ => (b x).symm
  unfold chose at *
  rw [h j (by omega), h (j + 1) (by omega)] at hc
  exact ⟨fun e p h1 h2 h3 q => hc.1 e p h1 h2 h3 (Cm.ofA bk _ _ q), fun e p k h1 h2 h3 q => hc.2.1 e p k h1 h2 h3 (Cm.ofA bk _ _ q), fun e p k h1 h2 h3 q => hc.2.2 e p k h1 h2 h3 (Cm.ofA bk _ _ q)⟩
theorem FS.add {n s g d p r : Nat} {E : Nat → Nat → Prop} {rule : Int} {t : Nat → Nat} {i : Nat} (h : FS n s g E rule d t i) (hp : p < n) (hg : t (i - 1) ≠ g) (hE : E (t (i - 1)) p) (hr : Cm n E (bl t i) g r p) (hr0 : rule = 0 → r + i = d) (h0 : rule = 0 → ∀ q, q < n → q < p → E (t (i - 1)) q → ¬ Cm n E (bl t i) g (d - i) q) (h1 : rule = 1 → ∀ q k, q < n → q < p → E (t (i - 1)) q → ¬ Cm n E (bl t i) g k q) (h2 : rule = 2 → ∀ q k, q < n → p < q → E (t (i - 1)) q → ¬ Cm n E (bl t i) g k q) : FS n s g E rule d (upN t i p) (i + 1) := by
  obtain ⟨⟨a1, a2⟩, b, c, e, f⟩ := h
  have un : ∀ j, j < i → upN t i p j = t j := fun j hj => upN_ne t p (by omega)
  have ui : upN t i p i = p := upN_eq t i p
  have bs := bl_same (t := t) (t' := upN t i p) (m := i) (fun j hj => (un j hj).symm)
  have bk : ∀ x, x < n → (bl (upN t i p) i x ↔ bl t i x) := fun x _ => (bs x).symm
  have new : ∀ j, j < i → t j ≠ p := fun j hj q => by
    rcases Cm.notA _ _ hr with z | z
    · by_cases cj : j = i - 1
      · exact hg (by rw [← cj, q, z])
      · exact (e j (by omega)).1 (by rw [q, z])
    · exact z ⟨j, hj, q⟩
  refine ⟨⟨by omega, by rw [un 0 (by omega)]; exact a2⟩, fun j hj => ?_, fun x y hx hy q => ?_, fun j hj => ?_, r, ?_, fun z => by have := hr0 z; omega⟩
  · by_cases cj : j = i
    · rw [cj, ui]; exact hp
    · rw [un j (by omega)]; exact b j (by omega)
  · by_cases cx : x = i
    · by_cases cy : y = i
      · omega
      · rw [cx, ui, un y (by omega)] at q
        exact absurd q.symm (new y (by omega))
    · by_cases cy : y = i
      · rw [cy, ui, un x (by omega)] at q
        exact absurd q (new x (by omega))
      · rw [un x (by omega), un y (by omega)] at q
        exact c x y (by omega) (by omega) q
  · by_cases cj : j + 1 = i
    · have ej : j = i - 1 := by omega
      rw [un j (by omega), cj, ui, ej]
      refine ⟨hg, hE, ?_⟩
      unfold chose
      rw [show i - 1 + 1 = i by omega, un (i - 1) (by omega), ui]
      exact ⟨fun z q q1 q2 q3 w => h0 z q q1 q2 q3 (Cm.ofA bk _ _ w), fun z q k q1 q2 q3 w => h1 z q k q1 q2 q3 (Cm.ofA bk _ _ w), fun z q k q1 q2 q3 w => h2 z q k q1 q2 q3 (Cm.ofA bk _ _ w)⟩
    · obtain ⟨e1, e2, e3⟩ := e j (by omega)
      rw [un j (by omega), un (j + 1) (by omega)]
      exact ⟨e1, e2, chose_same (fun a ha => (un a (by omega)).symm) e3⟩
  · rw [show i + 1 - 1 = i by omega, ui]
    exact Cm.ofA (fun x hx => (bk x hx).symm) _ _ hr
theorem prefix_ {n g : Nat} {E : Nat → Nat → Prop} {t : Nat → Nat} {K m : Nat} (ht : ∀ i, i ≤ K → t i < n) (hE : ∀ i, i < K → E (t i) (t (i + 1))) : ∀ j, j ≤ K → Cm n E nowhere g m (t j) → Cm n E nowhere g (m + j) (t 0)
  | 0, _, h => h
  | j + 1, hj, h => by
    have a : Cm n E nowhere g (m + 1) (t j) := Or.inr ⟨ht j (by omega), id, t (j + 1), ht (j + 1) hj, hE j (by omega), h⟩
    have := prefix_ (m := m + 1) ht hE j (by omega) a
    rw [show m + (j + 1) = m + 1 + j by omega]
    exact this
theorem FS.done {n s g d : Nat} {E : Nat → Nat → Prop} {rule : Int} {t : Nat → Nat} {i : Nat} (h : FS n s g E rule d t i) (hsg : s ≠ g) (hd : exact_ n E nowhere g d s) (hg : t (i - 1) = g) : TRK n s g E rule t (i - 1) := by
  obtain ⟨⟨a1, a2⟩, b, c, e, r, f1, f2⟩ := h
  have hi : 2 ≤ i := by
    rcases Nat.lt_or_ge i 2 with q | q
    · exfalso
      have q2 : i = 1 := by omega
      subst q2
      exact hsg (a2.symm.trans hg)
    · exact q
  have lt : ∀ j, j ≤ i - 1 → t j < n := fun j hj => b j (by omega)
  have hE : ∀ j, j < i - 1 → E (t j) (t (j + 1)) := fun j hj => (e j (by omega)).2.1
  have hin : i ≤ n := pig n i t b c
  have b1 : ∀ j x, bl t (j + 1) x ↔ bn t j x := fun j x => ⟨fun ⟨a, q1, q2⟩ => ⟨a, by omega, q2⟩, fun ⟨a, q1, q2⟩ => ⟨a, by omega, q2⟩⟩
  have hpath : Cm n E nowhere g (i - 1) s := by
    have := Cm.path (A := nowhere) lt hE hg (i - 1) 0 (by omega) (fun _ _ _ => id)
    rw [a2] at this
    exact this
  have ed0 : rule = 0 → d = i - 1 := fun z => by
    have := f2 z
    rcases Nat.lt_or_ge (i - 1) d with q | q
    · exact absurd hpath (hd.2 (i - 1) q)
    · omega
  refine ⟨⟨a2, hg, by omega, by omega⟩, lt, fun x y hx hy q => c x y (by omega) (by omega) q, hE, fun z => ⟨fun k hk => hd.2 k (by have := ed0 z; omega), fun j p hj hp hlt hEp q => ?_⟩, fun z j p k hj hp hlt hEp q => ?_, fun z j p k hj hp hlt hEp q => ?_⟩
  · have e0 := ed0 z
    rcases Cm.orB (B := bl t (j + 1)) _ _ q with w | ⟨x, ⟨m, m1, m2⟩, -, x2⟩
    · refine (e j (by omega)).2.2.1 z p hp hlt hEp ?_
      have := Cm.anyA (B := bl t (j + 1)) (fun x q => Or.inr q) _ _ w
      rw [e0]
      exact this
    · rw [← m2] at x2
      have := prefix_ lt hE m (by omega) x2
      rw [a2] at this
      exact hd.2 _ (by omega) this
  · exact (e j (by omega)).2.2.2.1 z p k hp hlt hEp (Cm.ofA (fun x _ => (b1 j x).symm) _ _ q)
  · exact (e j (by omega)).2.2.2.2 z p k hp hlt hEp (Cm.ofA (fun x _ => (b1 j x).symm) _ _ q)
def CF (n s g : Nat) (R F : Nat → Int32) (rule : Int) (z : Int32 × (Nat → Int32) × (Nat → Int32)) : Prop :=
  (z.1 = 0 ∧ ¬ tracks n s g R F) ∨ ∃ t K, TRK n s g (ed R F) rule t K ∧ z.1.toInt = (K : Int) + 1 ∧ ∀ i, i ≤ K → (z.2.1 i).toInt = t i
theorem cfind_loop {n s g d : Nat} {R F f65 : Nat → Int32} {i11 i13 i3 i59 : Int32} (h11 : i11.toInt = n) (hn : n ≤ 9) (h13 : i13.toInt = g) (hg : g < n) (hsg : s ≠ g) (ho : onw n R F f65) (h3 : 0 ≤ i3.toInt ∧ i3.toInt ≤ 2) (h59 : i59.toInt = d) (hd : exact_ n (ed R F) nowhere g d s) : ∀ (r c : Nat) (i60 i61 i62 i63 : Int32) (f64 : Nat → Int32) (t : Nat → Nat) (i : Nat), n < i + r → r < c → FS n s g (ed R F) i3.toInt d t i → i60.toInt = t (i - 1) → isSet_ i61 (bl t i) → i62.toInt = i → i63.toInt = i → (∀ j, j < i → (f64 j).toInt = t j) → Ok (LX5_find_L55 i11 i13 i3 i59 f65 c i60 i61 i62 i63 f64) (CF n s g R F i3.toInt) := by
  intro r
  induction r with
  | zero =>
    intro c i60 i61 i62 i63 f64 t i hr hc hF
    have := pig n i t hF.2.1 hF.2.2.1
    omega
  | succ r ih =>
    intro c i60 i61 i62 i63 f64 t i hr hc hF h60 h61 h62 h63 hf
    cases c with
    | zero => omega
    | succ c =>
      show Ok (BX5_find_L55 i11 i13 i3 i59 f65 i60 i61 i62 i63 f64 (fun a b e x y => LX5_find_L55 i11 i13 i3 i59 f65 c a b e x y)) _
      unfold BX5_find_L55
      have hin := pig n i t hF.2.1 hF.2.2.1
      have h1 := hF.1.1
      have t0 : (0 : Int32).toInt = 0 := rfl
      have t2 : (2 : Int32).toInt = 2 := rfl
      have fin : t (i - 1) = g → CF n s g R F i3.toInt (i63, f64, f65) := fun q => by
        have hT := hF.done hsg hd q
        exact Or.inr ⟨t, i - 1, hT, by show i63.toInt = _; omega, fun j hj => hf j (by omega)⟩
      refine Ok_if (fun h => Ok_some (fin ?_)) (fun _ => Ok_if (fun e => Ok_some (fin (by have e := i32eq e; omega))) (fun e => ?_))
      · have h := i32le h
        refine Classical.byContradiction (fun q => ?_)
        have := pig_miss hg hF.2.1 hF.2.2.1 (fun j hj z => by
          by_cases cj : j = i - 1
          · rw [cj] at z; exact q z
          · exact (hF.2.2.2.1 j (by omega)).1 z)
        omega
      · have hne : t (i - 1) ≠ g := fun q => e (Int32.toInt_inj.mp (by omega))
        have lt := hF.2.1 (i - 1) (by omega)
        obtain ⟨rr, hr1, hr2⟩ := hF.2.2.2.2
        obtain ⟨y, j, y1, y2, y3, y4⟩ := hr1.step hne
        have hbl : ∀ x, x < n → ((bl t (i - 1) x ∨ x = t (i - 1)) ↔ bl t i x) := fun x _ => ⟨fun q => q.elim (fun ⟨j, j1, j2⟩ => ⟨j, by omega, j2⟩) (fun q => ⟨i - 1, by omega, q.symm⟩), fun ⟨j, j1, j2⟩ => by
          by_cases cj : j = i - 1
          · right; rw [← j2, cj]
          · exact Or.inl ⟨j, by omega, j2⟩⟩
        have y4 := Cm.ofA hbl _ _ y4
        refine Ok_jn (fun k66 w66 => ?_)
        have go : ∀ (i68 : Int32) (D : Nat), i68.toInt = D → D ≤ 10 → Cm n (ed R F) (bl t i) g D y → (i3.toInt = 0 → D + i = d) → (i3.toInt ≠ 0 → n ≤ D) → Ok (k66 i68) (CF n s g R F i3.toInt) := by
          intro i68 D h68 hD10 hyD hD0 hDn
          rw [w66]
          refine Ok_bind (onward_iv h60 (by omega)) (fun z69 h69 => Ok_bind (coming_iv (B := bl t i) h11 hn ho h13 (by omega) h61 h68 hD10) (fun z70 h70 => Ok_nm (fun i71 w71 => ?_)))
          have hS : isSet_ i71 (fun x => (x < n ∧ ed R F (t (i - 1)) x) ∧ Cm n (ed R F) (bl t i) g D x) := by
            intro x hx
            rw [w71, has_and, Bool.and_eq_true, h70 x hx, h69, ho _ lt x hx]
          have hex : ∃ p, p < n ∧ ((p < n ∧ ed R F (t (i - 1)) p) ∧ Cm n (ed R F) (bl t i) g D p) := ⟨y, y1, ⟨y1, y3⟩, hyD⟩
          refine Ok_jn (fun k72 w72 => ?_)
          have far : ∀ (i76 : Int32) (p : Nat), i76.toInt = p → p < n → ((p < n ∧ ed R F (t (i - 1)) p) ∧ Cm n (ed R F) (bl t i) g D p) → (i3.toInt ≠ 2 → ∀ q, q < p → ¬ ((q < n ∧ ed R F (t (i - 1)) q) ∧ Cm n (ed R F) (bl t i) g D q)) → (i3.toInt = 2 → ∀ q, p < q → q < n → ¬ ((q < n ∧ ed R F (t (i - 1)) q) ∧ Cm n (ed R F) (bl t i) g D q)) → Ok (k72 i76) (CF n s g R F i3.toInt) := by
            intro i76 p h76 hp hpS hlo hhi
            rw [w72]
            have anyk : ∀ q k, i3.toInt ≠ 0 → Cm n (ed R F) (bl t i) g k q → Cm n (ed R F) (bl t i) g D q := fun q k z w => by
              obtain ⟨a, a1, a2⟩ := w.short hg
              exact a2.1.le2 (by have := hDn z; omega)
            have hF2 := hF.add hp hne hpS.1.2 hpS.2 hD0 (fun z q q1 q2 q3 w => hlo (by omega) q q2 ⟨⟨q1, q3⟩, by rw [show D = d - i by have := hD0 z; omega]; exact w⟩) (fun z q k q1 q2 q3 w => hlo (by omega) q q2 ⟨⟨q1, q3⟩, anyk q k (by omega) w⟩) (fun z q k q1 q2 q3 w => hhi z q q2 q1 ⟨⟨q1, q3⟩, anyk q k (by omega) w⟩)
            refine Ok_nm (fun i77 w77 => Ok_bind (add_row h63 (by omega)) (fun z78 h78 => ?_))
            have ei := inc_iv (x := i62) (by omega)
            refine ih c i76 i77 (i62 + 1) z78.1 z78.2 (upN t i p) (i + 1) (by omega) (by omega) hF2 ?_ ?_ (by omega) (by rw [h78.1]; omega) (fun j hj => ?_)
            · rw [show i + 1 - 1 = i by omega, upN_eq]; exact h76
            · rw [w77]
              refine (isSet_or h61 h76 (by omega)).of (fun x _ => ?_)
              constructor
              · intro q
                rcases q with ⟨a, a1, a2⟩ | q
                · exact ⟨a, by omega, by rw [upN_ne t p (by omega)]; exact a2⟩
                · exact ⟨i, by omega, by rw [upN_eq]; exact q.symm⟩
              · rintro ⟨a, a1, a2⟩
                by_cases ca : a = i
                · rw [ca, upN_eq] at a2; exact Or.inr a2.symm
                · rw [upN_ne t p ca] at a2; exact Or.inl ⟨a, by omega, a2⟩
            · rw [h78.2]
              unfold upd
              by_cases cj : j = i
              · rw [if_pos cj, cj, upN_eq]; exact h76
              · rw [if_neg cj, upN_ne t p cj]; exact hf j (by omega)
          refine Ok_if (fun z => ?_) (fun z => ?_)
          · have z := i32eq z
            exact Ok_bind (high_iv h11 hn hS hex) (fun z75 ⟨p, p1, p2, p3, p4⟩ => far z75 p p1 p2 p3 (fun w => by omega) (fun _ => p4))
          · have z : i3.toInt ≠ 2 := fun w => z (Int32.toInt_inj.mp (by omega))
            exact Ok_bind (low_iv h11 hn hS hex) (fun z74 ⟨p, p1, p2, p3, p4⟩ => far z74 p p1 p2 p3 (fun _ => p4) (fun w => by omega))
        refine Ok_if (fun z => ?_) (fun z => ?_)
        · have z := i32eq z
          have e0 := hr2 (by omega)
          obtain ⟨a, a1, a2⟩ := hd.1.short hg
          have had : d ≤ a := by
            rcases Nat.lt_or_ge a d with q | q
            · exact absurd a2.1 (hd.2 a q)
            · exact q
          have es : (i59 - i62).toInt = ((d - i : Nat) : Int) := by rw [sub_iv (by omega) (by omega)]; omega
          exact go _ (d - i) es (by omega) (y4.le2 (by omega)) (fun _ => by omega) (fun w => by omega)
        · have z : i3.toInt ≠ 0 := fun w => z (Int32.toInt_inj.mp (by omega))
          obtain ⟨a, a1, a2⟩ := y4.short hg
          exact go i11 n h11 (by omega) (a2.1.le2 (by omega)) (fun w => by omega) (fun _ => Nat.le_refl _)
theorem cfind_iv {n s g : Nat} {R F f9 f10 : Nat → Int32} {i11 i12 i13 i3 : Int32} (h11 : i11.toInt = n) (hn : n ≤ 9) (h12 : i12.toInt = s) (hs : s < n) (h13 : i13.toInt = g) (hg : g < n) (hsg : s ≠ g) (h3 : 0 ≤ i3.toInt ∧ i3.toInt ≤ 2) : Ok (fX5_find f9 f10 i11 i12 i13 R F i3) (CF n s g R F i3.toInt) := by
  unfold fX5_find
  refine Ok_bind (R := fun _ => True) ⟨_, rfl, trivial⟩ (fun _ _ => Ok_bind (look_iv f10 h11 hn) (fun z21 h21 => Ok_bind (steps_iv h11 hn h21 h12 hs h13 hg) (fun z22 h22 => ?_)))
  have tm : (-1 : Int32).toInt = -1 := rfl
  have t0 : (0 : Int32).toInt = 0 := rfl
  refine Ok_if (fun e => ?_) (fun e => ?_)
  · rcases h22 with ⟨-, q⟩ | ⟨k, k1, k2, -⟩
    · exact Ok_some (Or.inl ⟨rfl, fun ⟨k, hk⟩ => q k hk⟩)
    · have e := i32eq e
      omega
  · rcases h22 with ⟨q, -⟩ | ⟨d, k1, k2, hd⟩
    · exact absurd q e
    · refine Ok_nm (fun i23 w23 => Ok_bind (add_row (k := 0) rfl (by omega)) (fun z24 h24 => ?_))
      refine cfind_loop h11 hn h13 hg hsg h21 h3 k2 hd n 12 i12 i23 1 z24.1 z24.2 (fun _ => s) 1 (by omega) (by omega) ⟨⟨by omega, rfl⟩, fun _ _ => hs, fun a b ha hb _ => by omega, fun j hj => by omega, d, ?_, fun _ => by omega⟩ h12 ?_ rfl (by rw [h24.1]; rfl) (fun j hj => ?_)
      · exact Cm.anyA (A := nowhere) (fun x ⟨j, j1, _⟩ => by omega) _ _ hd.1
      · rw [w23]
        refine (isSet_one h12 (by omega)).of (fun x _ => ⟨fun q => ⟨0, by omega, q.symm⟩, fun ⟨j, _, j2⟩ => j2.symm⟩)
      · have ej : j = 0 := by omega
        subst ej
        rw [h24.2]
        unfold upd
        rw [if_pos rfl]; exact h12
