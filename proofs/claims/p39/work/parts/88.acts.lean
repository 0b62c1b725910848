/-! THE REFERENCE'S ACTS, sharply -/
def pl (n : Nat) (x : Int32) : Prop := 0 ≤ x.toInt ∧ x.toInt < n
def rm (x : Int32) : Prop := 0 ≤ x.toInt ∧ x.toInt ≤ 50
def rl (x : Int32) : Prop := 0 ≤ x.toInt ∧ x.toInt ≤ 2
def same (F F' : Nat → Int32) : Prop := ∀ a b, a < 9 → b < 9 → G F a b = G F' a b
def zero (F : Nat → Int32) : Prop := ∀ a b, a < 9 → b < 9 → G F a b = 0
def isput (F F' : Nat → Int32) (a b : Nat) (v : Int) : Prop := ∀ x y, x < 9 → y < 9 → G F' x y = if x = a ∧ y = b then v else G F x y
def tn (x : Int32) : Nat := x.toInt.toNat
theorem pl.eq {n : Nat} {x : Int32} (h : pl n x) : x.toInt = tn x ∧ tn x < n := by
  unfold tn
  have := h.1
  have := h.2
  omega
theorem pl_iv {n : Nat} {i3 i2 : Int32} (h3 : i3.toInt = n) : Ok (fX8_isPlace i3 i2) (fun z => (pl n i2 ∧ z = 1) ∨ (¬ pl n i2 ∧ z = 0)) := by
  have t0 : (0 : Int32).toInt = 0 := rfl
  unfold fX8_isPlace pl
  refine Ok_if (fun h => ?_) (fun h => Ok_if (fun g => ?_) (fun g => ?_))
  · have h := i32lt h; exact Ok_some (Or.inr ⟨by omega, rfl⟩)
  · have g := i32le g; exact Ok_some (Or.inr ⟨by omega, rfl⟩)
  · have h := i32nlt h; have g := i32nle g; exact Ok_some (Or.inl ⟨by omega, rfl⟩)
theorem rm_iv {i1 : Int32} : Ok (fX8_isRoom i1) (fun z => (rm i1 ∧ z = 1) ∨ (¬ rm i1 ∧ z = 0)) := by
  have t0 : (0 : Int32).toInt = 0 := rfl
  have t50 : (50 : Int32).toInt = 50 := rfl
  unfold fX8_isRoom rm
  refine Ok_if (fun h => ?_) (fun h => Ok_if (fun g => ?_) (fun g => ?_))
  · have h := i32lt h; exact Ok_some (Or.inr ⟨by omega, rfl⟩)
  · have g := i32lt g; exact Ok_some (Or.inr ⟨by omega, rfl⟩)
  · have h := i32nlt h; have g := i32nlt g; exact Ok_some (Or.inl ⟨by omega, rfl⟩)
theorem rl_iv {i1 : Int32} : Ok (fX8_isRule i1) (fun z => (rl i1 ∧ z = 1) ∨ (¬ rl i1 ∧ z = 0)) := by
  have t0 : (0 : Int32).toInt = 0 := rfl
  have t2 : (2 : Int32).toInt = 2 := rfl
  unfold fX8_isRule rl
  refine Ok_if (fun h => ?_) (fun h => Ok_if (fun g => ?_) (fun g => ?_))
  · have h := i32lt h; exact Ok_some (Or.inr ⟨by omega, rfl⟩)
  · have g := i32lt g; exact Ok_some (Or.inr ⟨by omega, rfl⟩)
  · have h := i32nlt h; have g := i32nlt g; exact Ok_some (Or.inl ⟨by omega, rfl⟩)
theorem th00 : fX8_isThrown 0 0 = some (0, 0) := by decide +kernel
theorem th01 : fX8_isThrown 0 1 = some (1, 2) := by decide +kernel
theorem th10 : fX8_isThrown 1 0 = some (1, 1) := by decide +kernel
theorem th11 : fX8_isThrown 1 1 = some (1, 1) := by decide +kernel
def flag (c : Prop) (i : Int32) : Prop := (c ∧ i = 0) ∨ (¬ c ∧ i = 1)
theorem flag.z {c : Prop} {i : Int32} (h : flag c i) (hc : c) : i = 0 := h.elim (fun q => q.2) (fun q => absurd hc q.1)
theorem flag.o {c : Prop} {i : Int32} (h : flag c i) (hc : ¬ c) : i = 1 := h.elim (fun q => absurd q.1 hc) (fun q => q.2)
theorem one_ne : ¬ (1 : Int32) = 0 := by decide
section FLAGS
variable {α : Type} {P : α → Prop}
theorem thrown2 {c1 c2 : Prop} {i j : Int32} {f : Int32 × Int32 → Option α} (h1 : flag c1 i) (h2 : flag c2 j) (k1 : ¬ c1 → Ok (f (1, 1)) P) (k2 : c1 → ¬ c2 → Ok (f (1, 2)) P) (k0 : c1 → c2 → Ok (f (0, 0)) P) : Ok ((fX8_isThrown i j).bind f) P := by
  rcases h1 with ⟨q, e⟩ | ⟨q, e⟩ <;> rcases h2 with ⟨p, d⟩ | ⟨p, d⟩ <;> subst e <;> subst d
  · rw [th00]; exact k0 q p
  · rw [th01]; exact k2 q p
  · rw [th10]; exact k1 q
  · rw [th11]; exact k1 q
theorem thrown1 {c1 : Prop} {i : Int32} {f : Int32 × Int32 → Option α} (h1 : flag c1 i) (k1 : ¬ c1 → Ok (f (1, 1)) P) (k0 : c1 → Ok (f (0, 0)) P) : Ok ((fX8_isThrown_ i).bind f) P := by
  rcases h1 with ⟨q, e⟩ | ⟨q, e⟩ <;> subst e
  · rw [thr0]; exact k0 q
  · rw [thr1]; exact k1 q
theorem fl_pp {n : Nat} {i4 i2 i3 : Int32} {K : Int32 → Option α} (h4 : i4.toInt = n) (hk : ∀ i, flag (pl n i2 ∧ pl n i3) i → Ok (K i) P) : Ok ((fX8_isPlace i4 i2).bind (fun z14 => jn K (fun k15 => jn (fun (_ : Unit) => k15 (1 : Int32)) (fun (k17 : Unit → Option α) => if z14 = (0 : Int32) then (k17 ()) else ((fX8_isPlace i4 i3).bind (fun z19 => if z19 = (0 : Int32) then (k17 ()) else (k15 (0 : Int32)))))))) P := by
  refine Ok_bind (pl_iv h4) (fun z hz => ?_)
  show Ok (if z = (0 : Int32) then K 1 else ((fX8_isPlace i4 i3).bind (fun z19 => if z19 = (0 : Int32) then (K 1) else (K 0)))) P
  rcases hz with ⟨q, e⟩ | ⟨q, e⟩
  · subst e
    refine Ok_if (fun h => absurd h one_ne) (fun _ => Ok_bind (pl_iv h4) (fun y hy => ?_))
    rcases hy with ⟨q2, e⟩ | ⟨q2, e⟩
    · subst e
      exact Ok_if (fun h => absurd h one_ne) (fun _ => hk 0 (Or.inl ⟨⟨q, q2⟩, rfl⟩))
    · subst e
      exact Ok_if (fun _ => hk 1 (Or.inr ⟨fun c => q2 c.2, rfl⟩)) (fun h => absurd rfl h)
  · subst e
    exact Ok_if (fun _ => hk 1 (Or.inr ⟨fun c => q c.1, rfl⟩)) (fun h => absurd rfl h)
theorem fl_ppp {n : Nat} {i6 i2 i3 i4 : Int32} {K : Int32 → Option α} (h6 : i6.toInt = n) (hk : ∀ i, flag (pl n i2 ∧ pl n i3 ∧ pl n i4) i → Ok (K i) P) : Ok ((fX8_isPlace i6 i2).bind (fun z14 => jn K (fun k15 => jn (fun (_ : Unit) => k15 (1 : Int32)) (fun (k17 : Unit → Option α) => if z14 = (0 : Int32) then (k17 ()) else ((fX8_isPlace i6 i3).bind (fun z19 => if z19 = (0 : Int32) then (k17 ()) else ((fX8_isPlace i6 i4).bind (fun z20 => if z20 = (0 : Int32) then (k17 ()) else (k15 (0 : Int32)))))))))) P := by
  refine Ok_bind (pl_iv h6) (fun z hz => ?_)
  show Ok (if z = (0 : Int32) then K 1 else ((fX8_isPlace i6 i3).bind (fun z19 => if z19 = (0 : Int32) then (K 1) else ((fX8_isPlace i6 i4).bind (fun z20 => if z20 = (0 : Int32) then (K 1) else (K 0)))))) P
  rcases hz with ⟨q, e⟩ | ⟨q, e⟩
  · subst e
    refine Ok_if (fun h => absurd h one_ne) (fun _ => Ok_bind (pl_iv h6) (fun y hy => ?_))
    rcases hy with ⟨q2, e⟩ | ⟨q2, e⟩
    · subst e
      refine Ok_if (fun h => absurd h one_ne) (fun _ => Ok_bind (pl_iv h6) (fun y hy => ?_))
      rcases hy with ⟨q3, e⟩ | ⟨q3, e⟩
      · subst e
        exact Ok_if (fun h => absurd h one_ne) (fun _ => hk 0 (Or.inl ⟨⟨q, q2, q3⟩, rfl⟩))
      · subst e
        exact Ok_if (fun _ => hk 1 (Or.inr ⟨fun c => q3 c.2.2, rfl⟩)) (fun h => absurd rfl h)
    · subst e
      exact Ok_if (fun _ => hk 1 (Or.inr ⟨fun c => q2 c.2.1, rfl⟩)) (fun h => absurd rfl h)
  · subst e
    exact Ok_if (fun _ => hk 1 (Or.inr ⟨fun c => q c.1, rfl⟩)) (fun h => absurd rfl h)
theorem fl_of {c : Prop} {x : Option Int32} {K : Int32 → Option α} (h : Ok x (fun z => (c ∧ z = 1) ∨ (¬ c ∧ z = 0))) (hk : ∀ i, flag c i → Ok (K i) P) : Ok (x.bind (fun z13 => jn K (fun k14 => if z13 = (0 : Int32) then (k14 (1 : Int32)) else (k14 (0 : Int32))))) P := by
  refine Ok_bind h (fun z hz => ?_)
  show Ok (if z = (0 : Int32) then K 1 else K 0) P
  rcases hz with ⟨q, e⟩ | ⟨q, e⟩
  · subst e
    exact Ok_if (fun h => absurd h one_ne) (fun _ => hk 0 (Or.inl ⟨q, rfl⟩))
  · subst e
    exact Ok_if (fun _ => hk 1 (Or.inr ⟨q, rfl⟩)) (fun h => absurd rfl h)
end FLAGS
theorem still_loop : ∀ (r c : Nat) (i : Int32) (f : Nat → Int32) (k : Nat), k + r = 81 → r < c → i.toInt = k → (∀ j, j < k → f j = 0) → Ok (LX8_still_L2 c i f) (fun z => ∀ j, j < 81 → z j = 0) := by
  intro r
  have t81 : (81 : Int32).toInt = 81 := rfl
  induction r with
  | zero =>
    intro c i f k hk hc hi hf
    cases c with
    | zero => omega
    | succ c =>
      show Ok (BX8_still_L2 i f (fun a b => LX8_still_L2 c a b)) _
      unfold BX8_still_L2
      refine Ok_if (fun _ => Ok_some (fun j hj => hf j (by omega))) (fun h => ?_)
      have h := i32nle h
      omega
  | succ r ih =>
    intro c i f k hk hc hi hf
    cases c with
    | zero => omega
    | succ c =>
      show Ok (BX8_still_L2 i f (fun a b => LX8_still_L2 c a b)) _
      unfold BX8_still_L2
      have ei := inc_iv (x := i) (by omega)
      refine Ok_if (fun h => ?_) (fun _ => Ok_inB (vp_of (by omega) (by omega)) ?_)
      · have h := i32le h
        omega
      · rw [toNat_iv hi]
        refine ih c (i + 1) _ (k + 1) (by omega) (by omega) (by omega) (fun j hj => ?_)
        unfold upd
        by_cases e : j = k
        · rw [if_pos e]
        · rw [if_neg e]; exact hf j (by omega)
theorem zero_of {z : Nat → Int32} (h : ∀ j, j < 81 → z j = 0) : zero z := fun a b ha hb => by
  unfold G
  rw [h (a * 9 + b) (by omega)]; rfl
theorem still_iv (f : Nat → Int32) : Ok (fX8_still f) zero := by
  unfold fX8_still
  exact Ok_mono (still_loop 81 600 0 f 0 (by omega) (by omega) rfl (fun j hj => by omega)) (fun z hz => zero_of hz)
theorem flowRow_loop {g : Nat → Int32} : ∀ (r c : Nat) (i : Int32) (f : Nat → Int32) (k : Nat), k + r = 81 → r < c → i.toInt = k → (∀ j, j < k → f j = g j) → Ok (LX8_flowRow_L10 g c i f) (fun z => ∀ j, j < 81 → z j = g j) := by
  intro r
  have t81 : (81 : Int32).toInt = 81 := rfl
  induction r with
  | zero =>
    intro c i f k hk hc hi hf
    cases c with
    | zero => omega
    | succ c =>
      show Ok (BX8_flowRow_L10 g i f (fun a b => LX8_flowRow_L10 g c a b)) _
      unfold BX8_flowRow_L10
      refine Ok_if (fun _ => Ok_some (fun j hj => hf j (by omega))) (fun h => ?_)
      have h := i32nle h
      omega
  | succ r ih =>
    intro c i f k hk hc hi hf
    cases c with
    | zero => omega
    | succ c =>
      show Ok (BX8_flowRow_L10 g i f (fun a b => LX8_flowRow_L10 g c a b)) _
      unfold BX8_flowRow_L10
      have ei := inc_iv (x := i) (by omega)
      refine Ok_if (fun h => ?_) (fun _ => Ok_inB (vp_of (by omega) (by omega)) (Ok_inB (vp_of (by omega) (by omega)) ?_))
      · have h := i32le h
        omega
      · rw [toNat_iv hi]
        refine ih c (i + 1) _ (k + 1) (by omega) (by omega) (by omega) (fun j hj => ?_)
        unfold upd
        by_cases e : j = k
        · rw [if_pos e, e]
        · rw [if_neg e]; exact hf j (by omega)
theorem flowRow_iv (g : Nat → Int32) : Ok (fX8_flowRow g) (fun z => same z g) := by
  unfold fX8_flowRow
  exact Ok_mono (flowRow_loop 81 600 0 _ 0 (by omega) (by omega) rfl (fun j hj => by omega)) (fun z hz a b ha hb => by
    unfold G
    rw [hz (a * 9 + b) (by omega)])
theorem outF_same {n x : Nat} {F F' : Nat → Int32} (h : same F F') (hn : n ≤ 9) (hx : x < n) : outF n F x = outF n F' x := sumN_eq n (fun y hy => h x y (by omega) (by omega))
theorem same.symm {F F' : Nat → Int32} (h : same F F') : same F' F := fun a b ha hb => (h a b ha hb).symm
theorem same.trans {F F' F2 : Nat → Int32} (h : same F F') (h2 : same F' F2) : same F F2 := fun a b ha hb => (h a b ha hb).trans (h2 a b ha hb)
theorem FI.ofsame {n s g : Nat} {R F R' F' : Nat → Int32} (h : FI n s g R F) (hR : same R' R) (hF : same F' F) : FI n s g R' F' := by
  obtain ⟨a, b, c, d, e, f⟩ := h
  refine ⟨a, b, fun x y hx hy => by rw [hR x y hx hy]; exact c x y hx hy, fun x y hx hy => by rw [hR x y hx hy, hF x y hx hy, hF y x hy hx]; exact d x y hx hy, fun x hx h1 h2 => by rw [outF_same hF a.2 hx]; exact e x hx h1 h2, by rw [outF_same hF a.2 b.1]; exact f⟩
theorem outF_zero {n x : Nat} {F : Nat → Int32} (h : zero F) (hn : n ≤ 9) (hx : x < n) : outF n F x = 0 := (sumN_eq n (fun y hy => h x y (by omega) (by omega))).trans (sumN_zero n)
theorem FI.ofzero {n s g s' g' : Nat} {R F F' : Nat → Int32} (h : FI n s g R F) (hF : zero F') (hs : s' < n) (hg : g' < n) (hsg : s' ≠ g') : FI n s' g' R F' := by
  obtain ⟨a, b, c, d, e, f⟩ := h
  refine ⟨a, ⟨hs, hg, hsg⟩, c, fun x y hx hy => ?_, fun x hx h1 h2 => outF_zero hF a.2 hx, by rw [outF_zero hF a.2 hs]; omega⟩
  have := (c x y hx hy).1
  rw [hF x y hx hy, hF y x hy hx]
  omega
theorem FI.valueNow {n s g : Nat} {R F : Nat → Int32} {i2 i5 : Int32} {x : Nat} (h : FI n s g R F) (h2 : i2.toInt = n) (h5 : i5.toInt = x) (hx : x < n) : Ok (fX8_valueNow i2 i5 F) (fun z => z.toInt = outF n F x) := by
  have a := h.1
  unfold fX8_valueNow
  exact Ok_bind (fromPlace_iv h2 h5 a.2 (by omega) (fun b hb => (h.flow (by omega) hb).1)) (fun z hz => Ok_some hz)
def A_ends (n s : Nat) (F : Nat → Int32) (i7 i8 i9 i2 i3 : Int32) (z : Int32 × Int32 × Int32 × Int32 × Int32 × (Nat → Int32)) : Prop :=
  (¬ (pl n i2 ∧ pl n i3) ∧ z = (0, i7, i8, i9, 1, F)) ∨ ((pl n i2 ∧ pl n i3) ∧ ¬ (¬ i2 = i3) ∧ z = (0, i7, i8, i9, 2, F)) ∨ ((pl n i2 ∧ pl n i3) ∧ (¬ i2 = i3) ∧ z.1.toInt = outF n F s ∧ z.2.1 = i2 ∧ z.2.2.1 = i3 ∧ z.2.2.2.1 = i9 + 1 ∧ z.2.2.2.2.1 = 0 ∧ zero z.2.2.2.2.2)
theorem ends_iv {n s g : Nat} {R F : Nat → Int32} {i4 i7 i8 i9 i2 i3 : Int32} (hI : FI n s g R F) (h4 : i4.toInt = n) (h7 : i7.toInt = s) : Ok (fX8_ends i4 i7 i8 i9 F i2 i3) (A_ends n s F i7 i8 i9 i2 i3) := by
  unfold fX8_ends
  refine fl_pp h4 (fun i hi => Ok_jn (fun k21 w21 => ?_))
  have go : ∀ j, flag (¬ i2 = i3) j → Ok (k21 j) (A_ends n s F i7 i8 i9 i2 i3) := by
    intro j hj
    rw [w21]
    refine thrown2 hi hj (fun q => ⟨_, rfl, Or.inl ⟨q, rfl⟩⟩) (fun q p => ⟨_, rfl, Or.inr (Or.inl ⟨q, p, rfl⟩)⟩) (fun q p => Ok_if (fun _ => ?_) (fun h => absurd rfl h))
    refine Ok_bind (hI.valueNow h4 h7 hI.2.1.1) (fun z25 h25 => Ok_bind (still_iv F) (fun z26 h26 => ?_))
    exact ⟨_, rfl, Or.inr (Or.inr ⟨q, p, h25, rfl, rfl, rfl, rfl, h26⟩)⟩
  exact Ok_if (fun e => go 1 (Or.inr ⟨fun q => q e, rfl⟩)) (fun e => go 0 (Or.inl ⟨e, rfl⟩))
theorem cell_iv {F : Nat → Int32} {i2 i3 : Int32} {n : Nat} (h2 : pl n i2) (h3 : pl n i3) (hn : n ≤ 9) : vp_in ((i2 * (9 : Int32)) + i3) 81 ∧ ((i2 * (9 : Int32)) + i3).toNatClampNeg = tn i2 * 9 + tn i3 ∧ Ok (fX8_room F i2 i3) (fun z => z.toInt = G F (tn i2) (tn i3)) ∧ Ok (fX8_flow F i2 i3) (fun z => z.toInt = G F (tn i2) (tn i3)) := by
  obtain ⟨a, b⟩ := h2.eq
  obtain ⟨c, d⟩ := h3.eq
  obtain ⟨g1, g2⟩ := G_idx a c (by omega) (by omega)
  refine ⟨g1, g2, ?_, ?_⟩
  · unfold fX8_room
    exact Ok_inB g1 (by rw [g2]; exact Ok_some rfl)
  · unfold fX8_flow
    exact Ok_inB g1 (by rw [g2]; exact Ok_some rfl)
theorem isput_upd {F : Nat → Int32} {a b : Nat} {x : Int32} (hb : b < 9) : isput F (upd F (a * 9 + b) x) a b x.toInt := by
  intro p q hp hq
  unfold G upd
  by_cases c : p = a ∧ q = b
  · rw [if_pos c, c.1, c.2, if_pos rfl]
  · rw [if_neg c, if_neg (fun e => c (idx_inj hq hb e))]
def A_room (n : Nat) (R F : Nat → Int32) (i10 i11 i2 i3 i4 : Int32) (z : Int32 × Int32 × Int32 × Int32 × (Nat → Int32)) : Prop :=
  (¬ (pl n i2 ∧ pl n i3) ∧ z = (0, i10, i11, 1, R)) ∨ ((pl n i2 ∧ pl n i3) ∧ ¬ (¬ i2 = i3 ∧ rm i4) ∧ z = (0, i10, i11, 2, R)) ∨
  ((pl n i2 ∧ pl n i3) ∧ (¬ i2 = i3 ∧ rm i4) ∧ ¬ (G F (tn i2) (tn i3) ≤ i4.toInt) ∧ z = (-9, i10, i11 + 1, 0, R)) ∨
  ((pl n i2 ∧ pl n i3) ∧ (¬ i2 = i3 ∧ rm i4) ∧ G F (tn i2) (tn i3) ≤ i4.toInt ∧ z.1.toInt = G R (tn i2) (tn i3) ∧ z.2.1 = i10 + 1 ∧ z.2.2.1 = i11 ∧ z.2.2.2.1 = 0 ∧ isput R z.2.2.2.2 (tn i2) (tn i3) i4.toInt)
theorem room_iv {n s g : Nat} {R F : Nat → Int32} {i5 i10 i11 i2 i3 i4 : Int32} (hI : FI n s g R F) (h5 : i5.toInt = n) : Ok (fX8_room_ i5 i10 i11 R F i2 i3 i4) (A_room n R F i10 i11 i2 i3 i4) := by
  unfold fX8_room_
  have n9 := hI.1
  refine fl_pp h5 (fun i hi => Ok_jn (fun k23 w23 => Ok_jn (fun k25 w25 => ?_)))
  have go : ∀ j, flag (¬ i2 = i3 ∧ rm i4) j → Ok (k23 j) (A_room n R F i10 i11 i2 i3 i4) := by
    intro j hj
    rw [w23]
    refine thrown2 hi hj (fun q => ⟨_, rfl, Or.inl ⟨q, rfl⟩⟩) (fun q p => ⟨_, rfl, Or.inr (Or.inl ⟨q, p, rfl⟩)⟩) (fun q p => Ok_if (fun _ => ?_) (fun h => absurd rfl h))
    obtain ⟨g1, g2, gR, -⟩ := cell_iv (F := R) q.1 q.2 n9.2
    obtain ⟨-, -, -, gF⟩ := cell_iv (F := F) q.1 q.2 n9.2
    refine Ok_bind gF (fun z30 h30 => Ok_if (fun h => ?_) (fun h => ?_))
    · have h := i32le h
      refine Ok_bind gR (fun z31 h31 => Ok_inB g1 ?_)
      rw [g2]
      exact ⟨_, rfl, Or.inr (Or.inr (Or.inr ⟨q, p, by omega, h31, rfl, rfl, rfl, isput_upd (by have := q.2.eq; omega)⟩))⟩
    · have h := i32nle h
      exact ⟨_, rfl, Or.inr (Or.inr (Or.inl ⟨q, p, by omega, rfl⟩))⟩
  rw [w25]
  refine Ok_if (fun e => go 1 (Or.inr ⟨fun q => q.1 e, rfl⟩)) (fun e => Ok_bind rm_iv (fun z hz => ?_))
  rcases hz with ⟨q, d⟩ | ⟨q, d⟩
  · subst d
    exact Ok_if (fun h => absurd h one_ne) (fun _ => go 0 (Or.inl ⟨⟨e, q⟩, rfl⟩))
  · subst d
    exact Ok_if (fun _ => go 1 (Or.inr ⟨fun c => q c.2, rfl⟩)) (fun h => absurd rfl h)
def by50 (x : Int32) : Prop := -50 ≤ x.toInt ∧ x.toInt ≤ 50
def wide (n : Nat) (R F : Nat → Int32) (i2 i3 i4 : Int32) : Prop := (0 ≤ G R (tn i2) (tn i3) + i4.toInt ∧ G R (tn i2) (tn i3) + i4.toInt ≤ 50) ∧ G F (tn i2) (tn i3) ≤ G R (tn i2) (tn i3) + i4.toInt
def A_widen (n : Nat) (R F : Nat → Int32) (i10 i11 i2 i3 i4 : Int32) (z : Int32 × Int32 × Int32 × Int32 × (Nat → Int32)) : Prop :=
  (¬ (pl n i2 ∧ pl n i3) ∧ z = (0, i10, i11, 1, R)) ∨ ((pl n i2 ∧ pl n i3) ∧ ¬ (¬ i2 = i3 ∧ by50 i4) ∧ z = (0, i10, i11, 2, R)) ∨
  ((pl n i2 ∧ pl n i3) ∧ (¬ i2 = i3 ∧ by50 i4) ∧ ¬ wide n R F i2 i3 i4 ∧ z = (-9, i10, i11 + 1, 0, R)) ∨
  ((pl n i2 ∧ pl n i3) ∧ (¬ i2 = i3 ∧ by50 i4) ∧ wide n R F i2 i3 i4 ∧ z.1.toInt = G R (tn i2) (tn i3) + i4.toInt ∧ z.2.1 = i10 + 1 ∧ z.2.2.1 = i11 ∧ z.2.2.2.1 = 0 ∧ isput R z.2.2.2.2 (tn i2) (tn i3) (G R (tn i2) (tn i3) + i4.toInt))
theorem widen_iv {n s g : Nat} {R F : Nat → Int32} {i5 i10 i11 i2 i3 i4 : Int32} (hI : FI n s g R F) (h5 : i5.toInt = n) : Ok (fX8_widen i5 i10 i11 R F i2 i3 i4) (A_widen n R F i10 i11 i2 i3 i4) := by
  unfold fX8_widen
  have n9 := hI.1
  have t50 : (50 : Int32).toInt = 50 := rfl
  have tm50 : (-50 : Int32).toInt = -50 := rfl
  refine fl_pp h5 (fun i hi => Ok_jn (fun k23 w23 => Ok_jn (fun k25 w25 => ?_)))
  have go : ∀ j, flag (¬ i2 = i3 ∧ by50 i4) j → Ok (k23 j) (A_widen n R F i10 i11 i2 i3 i4) := by
    intro j hj
    rw [w23]
    refine thrown2 hi hj (fun q => ⟨_, rfl, Or.inl ⟨q, rfl⟩⟩) (fun q p => ⟨_, rfl, Or.inr (Or.inl ⟨q, p, rfl⟩)⟩) (fun q p => Ok_if (fun _ => ?_) (fun h => absurd rfl h))
    obtain ⟨g1, g2, gR, -⟩ := cell_iv (F := R) q.1 q.2 n9.2
    obtain ⟨-, -, -, gF⟩ := cell_iv (F := F) q.1 q.2 n9.2
    have b := p.2
    unfold by50 at b
    have bR := hI.smR (tn i2) (tn i3) (by have := q.1.eq; omega) (by have := q.2.eq; omega)
    refine Ok_bind gR (fun z29 h29 => Ok_nm (fun i30 w30 => ?_))
    have e30 : i30.toInt = G R (tn i2) (tn i3) + i4.toInt := by rw [w30, add_iv (by omega) (by omega), h29]
    clear w30
    refine Ok_bind rm_iv (fun z31 h31 => Ok_jn (fun k32 w32 => ?_))
    have no : ¬ wide n R F i2 i3 i4 → Ok (k32 ()) (A_widen n R F i10 i11 i2 i3 i4) := fun h => by
      rw [w32]
      exact ⟨_, rfl, Or.inr (Or.inr (Or.inl ⟨q, p, h, rfl⟩))⟩
    rcases h31 with ⟨q1, d⟩ | ⟨q1, d⟩
    · subst d
      unfold rm at q1
      refine Ok_if (fun h => absurd h one_ne) (fun _ => Ok_bind gF (fun z34 h34 => Ok_if (fun h => ?_) (fun h => ?_)))
      · have h := i32le h
        refine Ok_inB g1 ?_
        rw [g2]
        have hp := isput_upd (F := R) (a := tn i2) (b := tn i3) (x := i30) (by have := q.2.eq; omega)
        rw [e30] at hp
        exact ⟨_, rfl, Or.inr (Or.inr (Or.inr ⟨q, p, ⟨⟨by omega, by omega⟩, by omega⟩, e30, rfl, rfl, rfl, hp⟩))⟩
      · have h := i32nle h
        exact no (fun c => by have := c.2; omega)
    · subst d
      exact Ok_if (fun _ => no (fun c => q1 ⟨by have := c.1.1; omega, by have := c.1.2; omega⟩)) (fun h => absurd rfl h)
  rw [w25]
  refine Ok_if (fun e => go 1 (Or.inr ⟨fun q => q.1 e, rfl⟩)) (fun e => Ok_if (fun h => ?_) (fun h => Ok_if (fun h2 => ?_) (fun h2 => ?_)))
  · have h := i32lt h
    exact go 1 (Or.inr ⟨fun c => by have := c.2.1; omega, rfl⟩)
  · have h := i32nlt h
    have h2 := i32le h2
    exact go 0 (Or.inl ⟨⟨e, by omega, by omega⟩, rfl⟩)
  · have h2 := i32nle h2
    exact go 1 (Or.inr ⟨fun c => by have := c.2.2; omega, rfl⟩)
theorem FI.ofput {n s g a b : Nat} {v : Int} {R R' F : Nat → Int32} (h : FI n s g R F) (hR : isput R R' a b v) (ha : a < n) (hb : b < n) (hab : a ≠ b) (hv : 0 ≤ v ∧ v ≤ 50) (hF : G F a b ≤ v) : FI n s g R' F := by
  obtain ⟨p, q, c, d, e, f⟩ := h
  refine ⟨p, q, fun x y hx hy => ?_, fun x y hx hy => ?_, e, f⟩
  · have := c x y hx hy
    rw [hR x y hx hy]
    by_cases k : x = a ∧ y = b
    · rw [if_pos k]
      exact ⟨hv, fun z => by omega⟩
    · rw [if_neg k]; exact this
  · have := d x y hx hy
    rw [hR x y hx hy]
    by_cases k : x = a ∧ y = b
    · rw [if_pos k]
      obtain ⟨k1, k2⟩ := k
      subst k1
      subst k2
      exact ⟨this.1, hF⟩
    · rw [if_neg k]; exact this
