/-! ONE FIRST PART AT MOST -/
theorem frm_uni {n s x y : Nat} {F : Nat → Int32} (h : frm n s F x) (h' : frm n s F y) : x = y := by
  rcases h with ⟨a, b⟩ | ⟨a, b, ⟨u, u1, u2⟩, c⟩ <;> rcases h' with ⟨a', b'⟩ | ⟨a', b', ⟨u', u1', u2'⟩, c'⟩
  · rw [b, b']
  · omega
  · omega
  · rcases Nat.lt_trichotomy x y with q | q | q
    · have := c' x u q u1; omega
    · exact q
    · have := c y u' q u1'; omega
theorem PRT.uni {n s g M b M' b' : Nat} {F : Nat → Int32} {w w' : Nat → Nat} {way m way' m' : Int} (h : PRT n s g F w M b way m) (h' : PRT n s g F w' M' b' way' m') : M = M' ∧ b = b' ∧ way = way' ∧ m = m' ∧ ∀ i, i ≤ M → w i = w' i := by
  have e : ∀ i, i ≤ M → i ≤ M' → w i = w' i := by
    intro i
    induction i with
    | zero => intro _ _; exact frm_uni h.1 h'.1
    | succ i ih =>
      intro h1 h2
      have q := ih (by omega) (by omega)
      have a := h.2.2.1 i (by omega)
      have c := h'.2.2.1 i (by omega)
      rw [q] at a
      exact nxt_uni a c
  have hM := h.2.1
  have hM' := h'.2.1
  have eM : M = M' := by
    rcases Nat.lt_trichotomy M M' with q | q | q
    · exfalso
      have eMM := e M (Nat.le_refl _) (by omega)
      rcases h.2.2.2.2.2 with ⟨-, a2, a3, -⟩ | ⟨-, a2, -⟩
      · exact h'.2.2.2.2.1 M (by omega) q ⟨a2, by rw [← eMM]; exact a3⟩
      · rw [eMM, e b (by omega) (by omega)] at a2
        have := h'.2.2.2.1 M b q (by omega) a2
        omega
    · exact q
    · exfalso
      have eMM := e M' (by omega) (Nat.le_refl _)
      rcases h'.2.2.2.2.2 with ⟨-, a2, a3, -⟩ | ⟨-, a2, -⟩
      · exact h.2.2.2.2.1 M' (by omega) q ⟨a2, by rw [eMM]; exact a3⟩
      · rw [← eMM, ← e b' (by omega) (by omega)] at a2
        have := h.2.2.2.1 M' b' q (by omega) a2
        omega
  subst eM
  have ew : ∀ i, i ≤ M → w i = w' i := fun i hi => e i hi hi
  rcases h.2.2.2.2.2 with ⟨a1, a2, a3, a4, a5, a6⟩ | ⟨a1, a2, a3⟩ <;> rcases h'.2.2.2.2.2 with ⟨c1, c2, c3, c4, c5, c6⟩ | ⟨c1, c2, c3⟩
  · have em : mnL (G F) (fun i => w (b + i)) (M - b) = mnL (G F) (fun i => w' (b' + i)) (M - b') := by
      rw [a4, c4]
      have : ∀ k, k ≤ M → mnL (G F) (fun i => w (0 + i)) k = mnL (G F) (fun i => w' (0 + i)) k := by
        intro k
        induction k with
        | zero => intro _; rfl
        | succ k ih =>
          intro hk
          show (if G F (w (0 + k)) (w (0 + (k + 1))) < mnL (G F) (fun i => w (0 + i)) k then G F (w (0 + k)) (w (0 + (k + 1))) else mnL (G F) (fun i => w (0 + i)) k) = (if G F (w' (0 + k)) (w' (0 + (k + 1))) < mnL (G F) (fun i => w' (0 + i)) k then G F (w' (0 + k)) (w' (0 + (k + 1))) else mnL (G F) (fun i => w' (0 + i)) k)
          rw [ih (by omega), ew (0 + k) (by omega), ew (0 + (k + 1)) (by omega)]
      exact this (M - 0) (by omega)
    exact ⟨rfl, by omega, by omega, by rw [a6, c6, em], ew⟩
  · exact absurd (by rw [ew b' (by omega), ew M (Nat.le_refl _)]; exact c2.symm) (a5 b' (by omega))
  · exact absurd (by rw [← ew b (by omega), ← ew M (Nat.le_refl _)]; exact a2.symm) (c5 b (by omega))
  · have eb : b = b' := by
      rw [ew M (Nat.le_refl _), c2, ← ew b' (by omega)] at a2
      exact (h.2.2.2.1 b' b (by omega) (by omega) a2).symm
    subst eb
    have em : mnL (G F) (fun i => w (b + i)) (M - b) = mnL (G F) (fun i => w' (b + i)) (M - b) := by
      have : ∀ k, k ≤ M - b → mnL (G F) (fun i => w (b + i)) k = mnL (G F) (fun i => w' (b + i)) k := by
        intro k
        induction k with
        | zero => intro _; rfl
        | succ k ih =>
          intro hk
          show (if G F (w (b + k)) (w (b + (k + 1))) < mnL (G F) (fun i => w (b + i)) k then G F (w (b + k)) (w (b + (k + 1))) else mnL (G F) (fun i => w (b + i)) k) = (if G F (w' (b + k)) (w' (b + (k + 1))) < mnL (G F) (fun i => w' (b + i)) k then G F (w' (b + k)) (w' (b + (k + 1))) else mnL (G F) (fun i => w' (b + i)) k)
          rw [ih (by omega), ew (b + k) (by omega), ew (b + (k + 1)) (by omega)]
      exact this (M - b) (Nat.le_refl _)
    exact ⟨rfl, rfl, by omega, by rw [a3, c3, em], ew⟩
theorem mvs_same {t t' : Nat → Nat} {m : Int} {x y : Nat} : ∀ k, (∀ i, i ≤ k → t i = t' i) → mvs t m x y k = mvs t' m x y k
  | 0, _ => rfl
  | k + 1, h => by
    unfold mvs
    rw [mvs_same k (fun i hi => h i (by omega)), h k (by omega), h (k + 1) (Nat.le_refl _)]
theorem taken_uni {n s g : Nat} {F F1 F2 : Nat → Int32} {way m way' m' : Int} (h : taken n s g F F1 way m) (h' : taken n s g F F2 way' m') : way = way' ∧ m = m' ∧ same F1 F2 := by
  obtain ⟨w, M, b, hP, hc⟩ := h
  obtain ⟨w', M', b', hP', hc'⟩ := h'
  obtain ⟨e1, e2, e3, e4, e5⟩ := hP.uni hP'
  subst e1
  subst e2
  have hM := hP.2.1
  refine ⟨e3, e4, fun x y hx hy => ?_⟩
  rw [hc x y hx hy, hc' x y hx hy, e4, mvs_same (t := fun i => w (b + i)) (t' := fun i => w' (b + i)) (M - b) (fun i hi => e5 (b + i) (by omega))]
theorem empt_taken {n s g : Nat} {F F1 : Nat → Int32} {way m : Int} (hs : s < n) (h : empt n s F) (ht : taken n s g F F1 way m) : False := by
  obtain ⟨w, M, b, hP, hc⟩ := ht
  have a := hP.2.2.1 0 (by have := hP.2.1; omega)
  have := h.2 (w 0) (w (0 + 1)) (hP.lt0 hs 0 (by omega)) a.1
  have := a.2.1
  omega
/-! WHAT THE CLASS THROWS -/
abbrev IOB : String := "java/lang/IndexOutOfBoundsException"
abbrev IAE : String := "java/lang/IllegalArgumentException"
section THROWN
variable {α β : Type}
def XP (hx : String → Option β) (g : α → Option β) (P : β → Prop) : String ⊕ α → Prop
  | .inl e => Ok (hx e) P
  | .inr y => Ok (g y) P
theorem xc_of {x : Option (String ⊕ α)} {hx : String → Option β} {g : α → Option β} {P : β → Prop} (h : Ok x (XP hx g P)) : Ok (xc x hx g) P := by
  obtain ⟨z, rfl, h2⟩ := h
  cases z with
  | inl e => exact h2
  | inr y => exact h2
theorem xb_need {c : Prop} {e : String} {x : Option (String ⊕ Unit)} {f : Unit → Option (String ⊕ β)} {P : String ⊕ β → Prop} (h : Ok x (fun z => (c ∧ z = .inr ()) ∨ (¬ c ∧ z = .inl e))) (k1 : ¬ c → P (.inl e)) (k2 : c → Ok (f ()) P) : Ok (xb x f) P := by
  obtain ⟨z, rfl, h2⟩ := h
  rcases h2 with ⟨q, rfl⟩ | ⟨q, rfl⟩
  · exact k2 q
  · exact ⟨.inl e, rfl, k1 q⟩
theorem needPlace_iv {n : Nat} {i11 i2 : Int32} (h : i11.toInt = n) : Ok (fX6_needPlace i11 i2) (fun z => (pl n i2 ∧ z = .inr ()) ∨ (¬ pl n i2 ∧ z = .inl IOB)) := by
  have t0 : (0 : Int32).toInt = 0 := rfl
  unfold fX6_needPlace pl
  refine Ok_jn (fun k w => ?_)
  rw [w]
  refine Ok_if (fun h => ?_) (fun h => Ok_if (fun g => ?_) (fun g => ?_))
  · have h := i32lt h; exact Ok_some (Or.inr ⟨by omega, rfl⟩)
  · have h := i32nlt h; have g := i32lt g; exact Ok_some (Or.inl ⟨by omega, rfl⟩)
  · have g := i32nlt g; exact Ok_some (Or.inr ⟨by omega, rfl⟩)
theorem needWithin_iv {lo hi : Int} {i2 i3 i4 : Int32} (h3 : i3.toInt = lo) (h4 : i4.toInt = hi) : Ok (fX6_needWithin i2 i3 i4) (fun z => ((lo ≤ i2.toInt ∧ i2.toInt ≤ hi) ∧ z = .inr ()) ∨ (¬ (lo ≤ i2.toInt ∧ i2.toInt ≤ hi) ∧ z = .inl IAE)) := by
  unfold fX6_needWithin
  refine Ok_jn (fun k w => ?_)
  rw [w]
  refine Ok_if (fun h => ?_) (fun h => Ok_if (fun g => ?_) (fun g => ?_))
  · have h := i32lt h; exact Ok_some (Or.inr ⟨by omega, rfl⟩)
  · have h := i32nlt h; have g := i32le g; exact Ok_some (Or.inl ⟨by omega, rfl⟩)
  · have g := i32nle g; exact Ok_some (Or.inr ⟨by omega, rfl⟩)
theorem needUnlike_iv {i2 i3 : Int32} : Ok (fX6_needUnlike i2 i3) (fun z => ((¬ i2 = i3) ∧ z = .inr ()) ∨ (¬ (¬ i2 = i3) ∧ z = .inl IAE)) := by
  unfold fX6_needUnlike
  exact Ok_if (fun h => Ok_some (Or.inr ⟨fun q => q h, rfl⟩)) (fun h => Ok_some (Or.inl ⟨h, rfl⟩))
theorem xb_pair {n : Nat} {i12 i2 i3 : Int32} {f : Unit → Option (String ⊕ β)} {P : String ⊕ β → Prop} (h : i12.toInt = n) (k1 : ¬ (pl n i2 ∧ pl n i3) → P (.inl IOB)) (k2 : (pl n i2 ∧ pl n i3) → ¬ (¬ i2 = i3) → P (.inl IAE)) (k3 : (pl n i2 ∧ pl n i3) → ¬ i2 = i3 → Ok (f ()) P) : Ok (xb (fX6_needPair i12 i2 i3) f) P := by
  have hn : Ok (fX6_needPair i12 i2 i3) (fun z => (¬ (pl n i2 ∧ pl n i3) ∧ z = .inl IOB) ∨ ((pl n i2 ∧ pl n i3) ∧ ¬ (¬ i2 = i3) ∧ z = .inl IAE) ∨ ((pl n i2 ∧ pl n i3) ∧ (¬ i2 = i3) ∧ z = .inr ())) := by
    unfold fX6_needPair
    exact xb_need (needPlace_iv h) (fun q => Or.inl ⟨fun c => q c.1, rfl⟩) (fun q1 => xb_need (needPlace_iv h) (fun q => Or.inl ⟨fun c => q c.2, rfl⟩) (fun q2 => xb_need needUnlike_iv (fun q => Or.inr (Or.inl ⟨⟨q1, q2⟩, q, rfl⟩)) (fun q => Ok_some (Or.inr (Or.inr ⟨⟨q1, q2⟩, q, rfl⟩)))))
  obtain ⟨z, e, h2⟩ := hn
  rw [e]
  rcases h2 with ⟨q, rfl⟩ | ⟨q, p, rfl⟩ | ⟨q, p, rfl⟩
  · exact ⟨_, rfl, k1 q⟩
  · exact ⟨_, rfl, k2 q p⟩
  · exact k3 q p
end THROWN
/-! THE CLASS'S ACTS, sharply; Rc, Fc are the class's own rows, R, F what they are the same as -/
theorem isput.ofsame {F F' z : Nat → Int32} {a b : Nat} {v : Int} (h : same F F') (hz : isput F z a b v) : isput F' z a b v := fun x y hx hy => by rw [hz x y hx hy, h x y hx hy]
def C_places (i9 i12 i13 i14 : Int32) (f18 f20 : Nat → Int32) (l21 : Int64) (i2 : Int32) (z : Int32 × Int32 × Int32 × Int32 × Int32 × (Nat → Int32) × (Nat → Int32) × Int64) : Prop :=
  (¬ (2 ≤ i2.toInt ∧ i2.toInt ≤ 9) ∧ z = (1, i9, i12, i13, i14, f18, f20, l21)) ∨ ((2 ≤ i2.toInt ∧ i2.toInt ≤ 9) ∧ z.1 = 0 ∧ z.2.1 = i9 + 1 ∧ z.2.2.1 = i2 ∧ z.2.2.2.1 = 0 ∧ z.2.2.2.2.1 = i2 - 1 ∧ zero z.2.2.2.2.2.1 ∧ zero z.2.2.2.2.2.2.1 ∧ z.2.2.2.2.2.2.2 = i12.toInt64)
theorem cplaces_iv (i9 i12 i13 i14 : Int32) (f18 f20 : Nat → Int32) (l21 : Int64) (i2 : Int32) : Ok (fL_places i9 i12 i13 i14 f18 f20 l21 i2) (C_places i9 i12 i13 i14 f18 f20 l21 i2) := by
  unfold fL_places
  refine xc_of ?_
  unfold fX6_places
  refine xb_need (needWithin_iv (lo := 2) (hi := 9) rfl rfl) (fun q => ?_) (fun q => ?_)
  · show Ok (if _ then _ else _) _
    rw [if_pos rfl]
    exact ⟨_, rfl, Or.inl ⟨q, rfl⟩⟩
  · unfold fX2_begin
    refine Ok_bind (R := fun z => z.1 = i2 - 1 ∧ zero z.2.1 ∧ zero z.2.2) (Ok_bind (clear_iv f18) (fun z12 h12 => Ok_bind (clear_iv f20) (fun z13 h13 => Ok_some ⟨rfl, h12, h13⟩))) (fun z21 h21 => ?_)
    exact ⟨_, rfl, ⟨_, rfl, Or.inr ⟨q, rfl, rfl, rfl, rfl, h21.1, h21.2.1, h21.2.2, rfl⟩⟩⟩
def C_ends (n s : Nat) (F : Nat → Int32) (i10 i14 i15 : Int32) (f19 : Nat → Int32) (l20 : Int64) (i2 i3 : Int32) (z : Int32 × Int32 × Int32 × Int32 × (Nat → Int32) × Int64) : Prop :=
  (¬ (pl n i2 ∧ pl n i3) ∧ z = (1, i10, i14, i15, f19, l20)) ∨ ((pl n i2 ∧ pl n i3) ∧ ¬ (¬ i2 = i3) ∧ z = (2, i10, i14, i15, f19, l20)) ∨ ((pl n i2 ∧ pl n i3) ∧ (¬ i2 = i3) ∧ z.1 = 0 ∧ z.2.1 = i10 + 1 ∧ z.2.2.1 = i2 ∧ z.2.2.2.1 = i3 ∧ zero z.2.2.2.2.1 ∧ ∃ v : Int32, z.2.2.2.2.2 = v.toInt64 ∧ v.toInt = outF n F s)
theorem cends_iv {n s g : Nat} {R F Fc : Nat → Int32} {i10 i13 i14 i15 i2 i3 : Int32} {l20 : Int64} (hI : FI n s g R F) (hF : same Fc F) (h13 : i13.toInt = n) (h14 : i14.toInt = s) : Ok (fL_ends i10 i13 i14 i15 Fc l20 i2 i3) (C_ends n s F i10 i14 i15 Fc l20 i2 i3) := by
  have n9 := hI.1
  have se := hI.2.1
  have hIc : FI n s g R Fc := hI.ofsame (fun _ _ _ _ => rfl) hF
  unfold fL_ends
  refine xc_of ?_
  unfold fX6_ends
  refine xb_pair h13 (fun q => ?_) (fun q p => ?_) (fun q p => ?_)
  · show Ok (if _ then _ else _) _
    rw [if_pos rfl]
    exact ⟨_, rfl, Or.inl ⟨q, rfl⟩⟩
  · show Ok (if _ then _ else _) _
    rw [if_neg (by decide), if_pos rfl]
    exact ⟨_, rfl, Or.inr (Or.inl ⟨q, p, rfl⟩)⟩
  · refine Ok_bind (cvalue_iv h13 h14 n9.2 (by omega) hIc.smF) (fun z20 h20 => Ok_bind (clear_iv Fc) (fun z21 h21 => ?_))
    exact ⟨_, rfl, ⟨_, rfl, Or.inr (Or.inr ⟨q, p, rfl, rfl, rfl, rfl, h21, z20, rfl, by rw [h20, outF_same hF n9.2 se.1]⟩)⟩⟩
def C_room (n : Nat) (R F : Nat → Int32) (i11 i12 : Int32) (f20 : Nat → Int32) (l23 : Int64) (i2 i3 i4 : Int32) (z : Int32 × Int32 × Int32 × (Nat → Int32) × Int64) : Prop :=
  (¬ (pl n i2 ∧ pl n i3) ∧ z = (1, i11, i12, f20, l23)) ∨ ((pl n i2 ∧ pl n i3) ∧ ¬ (¬ i2 = i3 ∧ rm i4) ∧ z = (2, i11, i12, f20, l23)) ∨
  ((pl n i2 ∧ pl n i3) ∧ (¬ i2 = i3 ∧ rm i4) ∧ ¬ (G F (tn i2) (tn i3) ≤ i4.toInt) ∧ z = (0, i11, i12 + 1, f20, (-9 : Int32).toInt64)) ∨
  ((pl n i2 ∧ pl n i3) ∧ (¬ i2 = i3 ∧ rm i4) ∧ G F (tn i2) (tn i3) ≤ i4.toInt ∧ z.1 = 0 ∧ z.2.1 = i11 + 1 ∧ z.2.2.1 = i12 ∧ isput R z.2.2.2.1 (tn i2) (tn i3) i4.toInt ∧ ∃ v : Int32, z.2.2.2.2 = v.toInt64 ∧ v.toInt = G R (tn i2) (tn i3))
theorem croomL_iv {n s g : Nat} {R F Rc Fc : Nat → Int32} {i11 i12 i14 i2 i3 i4 : Int32} {l23 : Int64} (hI : FI n s g R F) (hR : same Rc R) (hF : same Fc F) (h14 : i14.toInt = n) : Ok (fL_room i11 i12 i14 Rc Fc l23 i2 i3 i4) (C_room n R F i11 i12 Rc l23 i2 i3 i4) := by
  have n9 := hI.1
  unfold fL_room
  refine xc_of ?_
  unfold fX6_room
  refine xb_pair h14 (fun q => ?_) (fun q p => ?_) (fun q p => xb_need (needWithin_iv (lo := 0) (hi := 50) rfl rfl) (fun p2 => ?_) (fun p2 => ?_))
  · show Ok (if _ then _ else _) _
    rw [if_pos rfl]
    exact ⟨_, rfl, Or.inl ⟨q, rfl⟩⟩
  · show Ok (if _ then _ else _) _
    rw [if_neg (by decide), if_pos rfl]
    exact ⟨_, rfl, Or.inr (Or.inl ⟨q, fun c => p c.1, rfl⟩)⟩
  · show Ok (if _ then _ else _) _
    rw [if_neg (by decide), if_pos rfl]
    exact ⟨_, rfl, Or.inr (Or.inl ⟨q, fun c => p2 c.2, rfl⟩)⟩
  · obtain ⟨e2, l2⟩ := q.1.eq
    obtain ⟨e3, l3⟩ := q.2.eq
    refine Ok_bind (at_iv e2 e3 (by omega) (by omega)) (fun z24 h24 => ?_)
    rw [hF _ _ (by omega) (by omega)] at h24
    refine Ok_if (fun h => ?_) (fun h => ?_)
    · have h := i32le h
      refine Ok_bind (at_iv e2 e3 (by omega) (by omega)) (fun z25 h25 => Ok_bind (put_iv e2 e3 (by omega) (by omega)) (fun z26 h26 => ?_))
      rw [hR _ _ (by omega) (by omega)] at h25
      exact ⟨_, rfl, ⟨_, rfl, Or.inr (Or.inr (Or.inr ⟨q, ⟨p, p2⟩, by omega, rfl, rfl, rfl, h26.ofsame hR, z25, rfl, h25⟩))⟩⟩
    · have h := i32nle h
      exact ⟨_, rfl, ⟨_, rfl, Or.inr (Or.inr (Or.inl ⟨q, ⟨p, p2⟩, by omega, rfl⟩))⟩⟩
def C_widen (n : Nat) (R F : Nat → Int32) (i11 i12 : Int32) (f20 : Nat → Int32) (l23 : Int64) (i2 i3 i4 : Int32) (z : Int32 × Int32 × Int32 × (Nat → Int32) × Int64) : Prop :=
  (¬ (pl n i2 ∧ pl n i3) ∧ z = (1, i11, i12, f20, l23)) ∨ ((pl n i2 ∧ pl n i3) ∧ ¬ (¬ i2 = i3 ∧ by50 i4) ∧ z = (2, i11, i12, f20, l23)) ∨
  ((pl n i2 ∧ pl n i3) ∧ (¬ i2 = i3 ∧ by50 i4) ∧ ¬ wide n R F i2 i3 i4 ∧ z = (0, i11, i12 + 1, f20, (-9 : Int32).toInt64)) ∨
  ((pl n i2 ∧ pl n i3) ∧ (¬ i2 = i3 ∧ by50 i4) ∧ wide n R F i2 i3 i4 ∧ z.1 = 0 ∧ z.2.1 = i11 + 1 ∧ z.2.2.1 = i12 ∧ isput R z.2.2.2.1 (tn i2) (tn i3) (G R (tn i2) (tn i3) + i4.toInt) ∧ ∃ v : Int32, z.2.2.2.2 = v.toInt64 ∧ v.toInt = G R (tn i2) (tn i3) + i4.toInt)
theorem cwiden_iv {n s g : Nat} {R F Rc Fc : Nat → Int32} {i11 i12 i14 i2 i3 i4 : Int32} {l23 : Int64} (hI : FI n s g R F) (hR : same Rc R) (hF : same Fc F) (h14 : i14.toInt = n) : Ok (fL_widen i11 i12 i14 Rc Fc l23 i2 i3 i4) (C_widen n R F i11 i12 Rc l23 i2 i3 i4) := by
  have n9 := hI.1
  have t0 : (0 : Int32).toInt = 0 := rfl
  have t50 : (50 : Int32).toInt = 50 := rfl
  unfold fL_widen
  refine xc_of ?_
  unfold fX6_widen
  refine xb_pair h14 (fun q => ?_) (fun q p => ?_) (fun q p => xb_need (needWithin_iv (lo := -50) (hi := 50) rfl rfl) (fun p2 => ?_) (fun p2 => ?_))
  · show Ok (if _ then _ else _) _
    rw [if_pos rfl]
    exact ⟨_, rfl, Or.inl ⟨q, rfl⟩⟩
  · show Ok (if _ then _ else _) _
    rw [if_neg (by decide), if_pos rfl]
    exact ⟨_, rfl, Or.inr (Or.inl ⟨q, fun c => p c.1, rfl⟩)⟩
  · show Ok (if _ then _ else _) _
    rw [if_neg (by decide), if_pos rfl]
    exact ⟨_, rfl, Or.inr (Or.inl ⟨q, fun c => p2 c.2, rfl⟩)⟩
  · obtain ⟨e2, l2⟩ := q.1.eq
    obtain ⟨e3, l3⟩ := q.2.eq
    have bR := hI.smR (tn i2) (tn i3) (by omega) (by omega)
    refine Ok_bind (at_iv e2 e3 (by omega) (by omega)) (fun z24 h24 => Ok_nm (fun i25 w25 => ?_))
    rw [hR _ _ (by omega) (by omega)] at h24
    have e25 : i25.toInt = G R (tn i2) (tn i3) + i4.toInt := by rw [w25, add_iv (by omega) (by omega), h24]
    clear w25
    generalize hQ : XP _ _ _ = Q
    refine Ok_jn (fun k26 w26 => ?_)
    have no : ¬ wide n R F i2 i3 i4 → Ok (k26 ()) Q := fun h => by
      rw [w26]
      subst hQ
      exact ⟨_, rfl, ⟨_, rfl, Or.inr (Or.inr (Or.inl ⟨q, ⟨p, p2⟩, h, rfl⟩))⟩⟩
    refine Ok_if (fun h => ?_) (fun h => Ok_if (fun h' => ?_) (fun h' => Ok_bind (at_iv e2 e3 (by omega) (by omega)) (fun z28 h28 => ?_)))
    · have h := i32lt h
      exact no (fun c => by have := c.1.1; omega)
    · have h' := i32lt h'
      exact no (fun c => by have := c.1.2; omega)
    · have h := i32nlt h
      have h' := i32nlt h'
      rw [hF _ _ (by omega) (by omega)] at h28
      refine Ok_if (fun h2 => ?_) (fun h2 => ?_)
      · have h2 := i32le h2
        refine Ok_bind (put_iv e2 e3 (by omega) (by omega)) (fun z29 h29 => ?_)
        rw [e25] at h29
        subst hQ
        exact ⟨_, rfl, ⟨_, rfl, Or.inr (Or.inr (Or.inr ⟨q, ⟨p, p2⟩, ⟨⟨by omega, by omega⟩, by omega⟩, rfl, rfl, rfl, h29.ofsame hR, i25, rfl, e25⟩))⟩⟩
      · have h2 := i32nle h2
        exact no (fun c => by have := c.2; omega)
