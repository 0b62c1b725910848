/-! WHAT EACH ACT OF THE REFERENCE KEEPS -/
def RIv (i3 i6 i7 : Int32) (R F : Nat → Int32) : Prop := ∃ (n s g : Nat), i3.toInt = n ∧ i6.toInt = s ∧ i7.toInt = g ∧ FI n s g R F
theorem RIv.x {i3 i6 i7 : Int32} {R F : Nat → Int32} (h : RIv i3 i6 i7 R F) : PFx i3 i6 i7 F ∧ (2 ≤ i3.toInt ∧ i3.toInt ≤ 9) ∧ (0 ≤ i6.toInt ∧ i6.toInt ≤ 8) ∧ (0 ≤ i7.toInt ∧ i7.toInt ≤ 8) := by
  obtain ⟨n, s, g, a, b, c, d⟩ := h
  have n9 := d.1
  have se := d.2.1
  exact ⟨⟨n, s, g, R, a, b, c, d⟩, by omega, by omega, by omega⟩
theorem FI_new {n : Nat} {R F : Nat → Int32} (hn : 2 ≤ n ∧ n ≤ 9) (hR : zero R) (hF : zero F) : FI n 0 (n - 1) R F := by
  refine ⟨hn, ⟨by omega, by omega, by omega⟩, fun a b ha hb => ⟨by rw [hR a b ha hb]; omega, fun _ => hR a b ha hb⟩, fun a b ha hb => by rw [hR a b ha hb, hF a b ha hb, hF b a hb ha]; omega, fun x hx h1 h2 => outF_zero hF hn.2 hx, by rw [outF_zero hF hn.2 (by omega)]; omega⟩
theorem ri_places {n s g : Nat} {R F : Nat → Int32} {i3 i6 i7 i8 i2 : Int32} {z : Int32 × Int32 × Int32 × Int32 × Int32 × Int32 × (Nat → Int32) × (Nat → Int32)} (hI : FI n s g R F) (h3 : i3.toInt = n) (h6 : i6.toInt = s) (h7 : i7.toInt = g) (h : (¬ (2 ≤ i2.toInt ∧ i2.toInt ≤ 9) ∧ z = (0, i3, i6, i7, i8, 1, R, F)) ∨ ((2 ≤ i2.toInt ∧ i2.toInt ≤ 9) ∧ z = (i3, i2, 0, i2 - 1, i8 + 1, 0, (fun _ => 0), (fun _ => 0)))) : RIv z.2.1 z.2.2.1 z.2.2.2.1 z.2.2.2.2.2.2.1 z.2.2.2.2.2.2.2 := by
  rcases h with ⟨-, e⟩ | ⟨q, e⟩
  · subst e
    exact ⟨n, s, g, h3, h6, h7, hI⟩
  · subst e
    have t1 : (1 : Int32).toInt = 1 := rfl
    refine ⟨tn i2, 0, tn i2 - 1, by show i2.toInt = (tn i2 : Int); unfold tn; omega, rfl, ?_, FI_new (by unfold tn; omega) (fun _ _ _ _ => rfl) (fun _ _ _ _ => rfl)⟩
    show (i2 - 1).toInt = _
    rw [sub_iv (by omega) (by omega)]
    unfold tn
    omega
theorem ri_ends {n s g : Nat} {R F : Nat → Int32} {i4 i7 i8 i9 i2 i3 : Int32} {z : Int32 × Int32 × Int32 × Int32 × Int32 × (Nat → Int32)} (hI : FI n s g R F) (h4 : i4.toInt = n) (h7 : i7.toInt = s) (h8 : i8.toInt = g) (h : A_ends n s F i7 i8 i9 i2 i3 z) : RIv i4 z.2.1 z.2.2.1 R z.2.2.2.2.2 := by
  rcases h with ⟨-, e⟩ | ⟨-, -, e⟩ | ⟨q, p, -, e1, e2, -, -, e3⟩
  · subst e; exact ⟨n, s, g, h4, h7, h8, hI⟩
  · subst e; exact ⟨n, s, g, h4, h7, h8, hI⟩
  · obtain ⟨a1, a2⟩ := q.1.eq
    obtain ⟨b1, b2⟩ := q.2.eq
    rw [e1, e2]
    exact ⟨n, tn i2, tn i3, h4, a1, b1, hI.ofzero e3 a2 b2 (fun e => p (Int32.toInt_inj.mp (by omega)))⟩
theorem ri_room {n s g : Nat} {R F : Nat → Int32} {i5 i6 i7 i10 i11 i2 i3 i4 : Int32} {z : Int32 × Int32 × Int32 × Int32 × (Nat → Int32)} (hI : FI n s g R F) (h5 : i5.toInt = n) (h6 : i6.toInt = s) (h7 : i7.toInt = g) (h : A_room n R F i10 i11 i2 i3 i4 z) : RIv i5 i6 i7 z.2.2.2.2 F := by
  rcases h with ⟨-, e⟩ | ⟨-, -, e⟩ | ⟨-, -, -, e⟩ | ⟨q, p, f, -, -, -, -, e⟩
  · subst e; exact ⟨n, s, g, h5, h6, h7, hI⟩
  · subst e; exact ⟨n, s, g, h5, h6, h7, hI⟩
  · subst e; exact ⟨n, s, g, h5, h6, h7, hI⟩
  · obtain ⟨a1, a2⟩ := q.1.eq
    obtain ⟨b1, b2⟩ := q.2.eq
    exact ⟨n, s, g, h5, h6, h7, hI.ofput e a2 b2 (fun c => p.1 (Int32.toInt_inj.mp (by omega))) p.2 f⟩
theorem ri_widen {n s g : Nat} {R F : Nat → Int32} {i5 i6 i7 i10 i11 i2 i3 i4 : Int32} {z : Int32 × Int32 × Int32 × Int32 × (Nat → Int32)} (hI : FI n s g R F) (h5 : i5.toInt = n) (h6 : i6.toInt = s) (h7 : i7.toInt = g) (h : A_widen n R F i10 i11 i2 i3 i4 z) : RIv i5 i6 i7 z.2.2.2.2 F := by
  rcases h with ⟨-, e⟩ | ⟨-, -, e⟩ | ⟨-, -, -, e⟩ | ⟨q, p, f, -, -, -, -, e⟩
  · subst e; exact ⟨n, s, g, h5, h6, h7, hI⟩
  · subst e; exact ⟨n, s, g, h5, h6, h7, hI⟩
  · subst e; exact ⟨n, s, g, h5, h6, h7, hI⟩
  · obtain ⟨a1, a2⟩ := q.1.eq
    obtain ⟨b1, b2⟩ := q.2.eq
    exact ⟨n, s, g, h5, h6, h7, hI.ofput e a2 b2 (fun c => p.1 (Int32.toInt_inj.mp (by omega))) f.1 f.2⟩
theorem ri_circle {n s g : Nat} {R F : Nat → Int32} {i3 i6 i7 i8 i9 i2 : Int32} {z : Int32 × Int32 × Int32 × Int32 × (Nat → Int32)} (hI : FI n s g R F) (h3 : i3.toInt = n) (h6 : i6.toInt = s) (h7 : i7.toInt = g) (h : A_circle n R F i8 i9 i2 z) : RIv i3 i6 i7 z.2.2.2.2 F := by
  rcases h with ⟨-, e⟩ | ⟨-, -, e⟩ | ⟨q, f, -, -, -, -, e⟩
  · subst e; exact ⟨n, s, g, h3, h6, h7, hI⟩
  · subst e; exact ⟨n, s, g, h3, h6, h7, hI⟩
  · exact ⟨n, s, g, h3, h6, h7, hI.ofcirc e q f⟩
theorem ri_strew {n s g : Nat} {R F : Nat → Int32} {i3 i6 i7 i8 i2 : Int32} {z : Int32 × Int32 × Int32 × (Nat → Int32) × (Nat → Int32)} (hI : FI n s g R F) (h3 : i3.toInt = n) (h6 : i6.toInt = s) (h7 : i7.toInt = g) (h : A_strew n R F i8 i2 z) : RIv i3 i6 i7 z.2.2.2.1 z.2.2.2.2 := by
  rcases h with ⟨-, e⟩ | ⟨q, -, -, -, e1, e2⟩
  · subst e; exact ⟨n, s, g, h3, h6, h7, hI⟩
  · exact ⟨n, s, g, h3, h6, h7, hI.ofstrewn e1 e2⟩
theorem ri_turn {n s g : Nat} {R F : Nat → Int32} {i2 i5 i6 i7 : Int32} {z : Int32 × Int32 × (Nat → Int32) × (Nat → Int32)} (hI : FI n s g R F) (h2 : i2.toInt = n) (h5 : i5.toInt = s) (h6 : i6.toInt = g) (h : A_turn n s R F i7 z) : RIv i2 i6 i5 z.2.2.1 z.2.2.2 := ⟨n, g, s, h2, h6, h5, (hI.ofturn h.2.2.1 h.2.2.2).1⟩
theorem ri_swap {n s g : Nat} {R F : Nat → Int32} {i4 i7 i8 i9 i2 i3 : Int32} {z : Int32 × Int32 × Int32 × Int32 × Int32 × (Nat → Int32) × (Nat → Int32)} (hI : FI n s g R F) (h4 : i4.toInt = n) (h7 : i7.toInt = s) (h8 : i8.toInt = g) (h : A_swap n s g R F i7 i8 i9 i2 i3 z) : RIv i4 z.2.1 z.2.2.1 z.2.2.2.2.2.1 z.2.2.2.2.2.2 := by
  rcases h with ⟨-, e⟩ | ⟨q, -, e1, e2, -, -, e3, e4⟩
  · subst e; exact ⟨n, s, g, h4, h7, h8, hI⟩
  · exact ⟨n, _, _, h4, e1, e2, hI.ofswap q.1.eq.2 q.2.eq.2 e3 e4⟩
theorem ri_step {n s g : Nat} {R F : Nat → Int32} {i3 i6 i7 i8 i2 : Int32} {z : Int32 × Int32 × Int32 × (Nat → Int32)} (hI : FI n s g R F) (h3 : i3.toInt = n) (h6 : i6.toInt = s) (h7 : i7.toInt = g) (h : A_step n s g R F i8 i2 z) : RIv i3 i6 i7 R z.2.2.2 := by
  rcases h with ⟨-, e⟩ | ⟨q, ⟨-, e⟩ | ⟨e, -⟩⟩
  · subst e; exact ⟨n, s, g, h3, h6, h7, hI⟩
  · subst e; exact ⟨n, s, g, h3, h6, h7, hI⟩
  · exact ⟨n, s, g, h3, h6, h7, (hI.ofstep e).1⟩
theorem ri_fill {n s g : Nat} {R F : Nat → Int32} {i3 i6 i7 i8 i2 : Int32} {z : Int32 × Int32 × Int32 × (Nat → Int32)} (hI : FI n s g R F) (h3 : i3.toInt = n) (h6 : i6.toInt = s) (h7 : i7.toInt = g) (h : A_fill n s g R F i8 i2 z) : RIv i3 i6 i7 R z.2.2.2 := by
  rcases h with ⟨-, e⟩ | ⟨q, j, -, -, -, -, e⟩
  · subst e; exact ⟨n, s, g, h3, h6, h7, hI⟩
  · exact ⟨n, s, g, h3, h6, h7, e⟩
theorem ri_send {n s g : Nat} {R F : Nat → Int32} {i4 i7 i8 i9 i10 i2 i3 : Int32} {z : Int32 × Int32 × Int32 × Int32 × (Nat → Int32)} (hI : FI n s g R F) (h4 : i4.toInt = n) (h7 : i7.toInt = s) (h8 : i8.toInt = g) (h : A_send n s g R F i9 i10 i2 i3 z) : RIv i4 i7 i8 R z.2.2.2.2 := by
  rcases h with ⟨-, e⟩ | ⟨-, -, e⟩ | ⟨-, -, -, e⟩ | ⟨q, p, f, -, -, -, -, e⟩
  · subst e; exact ⟨n, s, g, h4, h7, h8, hI⟩
  · subst e; exact ⟨n, s, g, h4, h7, h8, hI⟩
  · subst e; exact ⟨n, s, g, h4, h7, h8, hI⟩
  · exact ⟨n, s, g, h4, h7, h8, hI.ofsend q.eq.2 p.1 f e⟩
theorem ri_round {n s g : Nat} {R F : Nat → Int32} {i6 i7 i8 i11 i12 i2 i3 i4 i5 : Int32} {z : Int32 × Int32 × Int32 × Int32 × (Nat → Int32)} (hI : FI n s g R F) (h6 : i6.toInt = n) (h7 : i7.toInt = s) (h8 : i8.toInt = g) (h : A_round n R F i11 i12 i2 i3 i4 i5 z) : RIv i6 i7 i8 R z.2.2.2.2 := by
  rcases h with ⟨-, e⟩ | ⟨-, -, e⟩ | ⟨-, -, -, e⟩ | ⟨q, p, f, -, -, -, -, e⟩
  · subst e; exact ⟨n, s, g, h6, h7, h8, hI⟩
  · subst e; exact ⟨n, s, g, h6, h7, h8, hI⟩
  · subst e; exact ⟨n, s, g, h6, h7, h8, hI⟩
  · obtain ⟨a1, a2⟩ := q.1.eq
    obtain ⟨b1, b2⟩ := q.2.1.eq
    obtain ⟨c1, c2⟩ := q.2.2.eq
    exact ⟨n, s, g, h6, h7, h8, hI.ofring a2 b2 c2 (fun c => p.1 (Int32.toInt_inj.mp (by omega))) (fun c => p.2.1 (Int32.toInt_inj.mp (by omega))) (fun c => p.2.2.1 (Int32.toInt_inj.mp (by omega))) p.2.2.2.1 f e⟩
theorem ri_peel {n s g : Nat} {R F : Nat → Int32} {i2 i5 i6 i7 : Int32} {z : Int32 × Int32 × (Nat → Int32)} (hI : FI n s g R F) (h2 : i2.toInt = n) (h5 : i5.toInt = s) (h6 : i6.toInt = g) (h : A_peel n s g F i7 z) : RIv i2 i5 i6 R z.2.2 := by
  rcases h with ⟨-, ⟨-, -, e⟩ | ⟨way, e⟩⟩
  · rw [e]; exact ⟨n, s, g, h2, h5, h6, hI⟩
  · exact ⟨n, s, g, h2, h5, h6, hI.oftaken e⟩
theorem ri_empty {n s g : Nat} {R F : Nat → Int32} {i2 i5 i6 i7 : Int32} {z : Int32 × Int32 × (Nat → Int32)} (hI : FI n s g R F) (h2 : i2.toInt = n) (h5 : i5.toInt = s) (h6 : i6.toInt = g) (h : A_empty n s F i7 z) : RIv i2 i5 i6 R z.2.2 := ⟨n, s, g, h2, h5, h6, hI.ofzero h.2.2 hI.2.1.1 hI.2.1.2.1 hI.2.1.2.2⟩
theorem would_keep {n s g : Nat} {R F : Nat → Int32} {i5 i8 i9 i2 i3 i4 : Int32} (hI : FI n s g R F) (h5 : i5.toInt = n) (h8 : i8.toInt = s) (h9 : i9.toInt = g) : Ok (fX8_would i5 i8 i9 R i2 i3 i4) (fun z => same z.2.2 R) := by
  unfold fX8_would
  have n9 := hI.1
  have se := hI.2.1
  have r0 : same R R := fun _ _ _ _ => rfl
  refine fl_pp h5 (fun i hi => Ok_jn (fun k22 w22 => ?_))
  have go : ∀ j, flag (¬ i2 = i3 ∧ -1 ≤ i4.toInt ∧ i4.toInt ≤ 1) j → Ok (k22 j) (fun z => same z.2.2 R) := by
    intro j hj
    rw [w22]
    refine thrown2 hi hj (fun q => ⟨_, rfl, r0⟩) (fun q p => ⟨_, rfl, r0⟩) (fun q p => Ok_if (fun _ => ?_) (fun h => absurd rfl h))
    obtain ⟨g1, g2, gR, -⟩ := cell_iv (F := R) q.1 q.2 n9.2
    refine Ok_bind gR (fun z28 h28 => Ok_if (fun h => ?_) (fun h => Ok_some r0))
    rw [g2]
    refine Ok_inB g1 (Ok_inB g1 (Ok_bind (ok_X8_leastNow _ _ _ _ (by omega) (by omega) (by omega)) (fun z29 _ => Ok_inB g1 (Ok_inB g1 (Ok_some (fun a b ha hb => ?_))))))
    show (upd (upd R (tn i2 * 9 + tn i3) (R (tn i2 * 9 + tn i3) + i4)) (tn i2 * 9 + tn i3) (upd R (tn i2 * 9 + tn i3) (R (tn i2 * 9 + tn i3) + i4) (tn i2 * 9 + tn i3) - i4) (a * 9 + b)).toInt = (R (a * 9 + b)).toInt
    unfold upd
    by_cases c : a * 9 + b = tn i2 * 9 + tn i3
    · rw [if_pos c, if_pos rfl, c, Int32.add_sub_cancel]
    · rw [if_neg c, if_neg c]
  refine Ok_jn (fun k24 w24 => ?_)
  rw [w24]
  have t1 : (1 : Int32).toInt = 1 := rfl
  have tm : (-1 : Int32).toInt = -1 := rfl
  refine Ok_if (fun e => go 1 (Or.inr ⟨fun q => q.1 e, rfl⟩)) (fun e => Ok_if (fun h => ?_) (fun h => Ok_if (fun h2 => ?_) (fun h2 => ?_)))
  · have h := i32lt h
    exact go 1 (Or.inr ⟨fun c => by have := c.2.1; omega, rfl⟩)
  · have h := i32nlt h
    have h2 := i32le h2
    exact go 0 (Or.inl ⟨⟨e, by omega, by omega⟩, rfl⟩)
  · have h2 := i32nle h2
    exact go 1 (Or.inr ⟨fun c => by have := c.2.2; omega, rfl⟩)
theorem ri_would {n s g : Nat} {R R' F : Nat → Int32} {i5 i8 i9 : Int32} (hI : FI n s g R F) (h5 : i5.toInt = n) (h8 : i8.toInt = s) (h9 : i9.toInt = g) (h : same R' R) : RIv i5 i8 i9 R' F := ⟨n, s, g, h5, h8, h9, hI.ofsame h (fun _ _ _ _ => rfl)⟩
theorem x8_init : fX8_init = some 5 := by decide +kernel
theorem ri_init : RIv 6 0 5 (fun _ => 0) (fun _ => 0) := ⟨6, 0, 5, rfl, rfl, rfl, FI_new (by omega) (fun _ _ _ _ => rfl) (fun _ _ _ _ => rfl)⟩
theorem CT_init : CT 16 0 (fun _ => 0) := ⟨by omega, by decide, BY_0⟩
