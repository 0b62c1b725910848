/-! CLASS AND REFERENCE, side by side -/
def CMP (k : Int32) (out : Int64) (thrown : Int32) (ans : Int64) : Prop := thrown = k ∧ (k = 0 → out = ans)
theorem lg_self2 (x : Int64) : lg_cmp x x = 0 := by unfold lg_cmp; rw [if_neg (fun h => absurd (Int64.lt_iff_toInt_lt.mp h) (Int.lt_irrefl _)), if_pos rfl]
theorem cmp_thrown {β : Type} {P : β → Prop} {k thrown : Int32} {out ans : Int64} {K : Unit → Option β} (h : CMP k out thrown ans) (hk : Ok (K ()) P) : Ok ((fX8_thrown thrown).bind (fun z315 => if z315 = k then (jn K (fun (k316 : Unit → Option β) => if k = (0 : Int32) then (if (lg_cmp out ans) = (0 : Int32) then (k316 ()) else (none)) else (k316 ()))) else (none))) P := by
  refine Ok_bind (R := fun z => z = thrown) ⟨_, rfl, rfl⟩ (fun z hz => ?_)
  subst hz
  refine Ok_if (fun _ => ?_) (fun q => absurd h.1 q)
  show Ok (if k = (0 : Int32) then (if (lg_cmp out ans) = (0 : Int32) then (K ()) else (none)) else (K ())) P
  refine Ok_if (fun e => ?_) (fun _ => hk)
  refine Ok_if (fun _ => hk) (fun q => absurd ?_ q)
  rw [h.2 e]
  exact lg_self2 _
theorem i64eq {v w : Int32} {a : Int} (h1 : v.toInt = a) (h2 : w.toInt = a) : v.toInt64 = w.toInt64 := by rw [Int32.toInt_inj.mp (h1.trans h2.symm)]
theorem zero_same {F F' : Nat → Int32} (h : zero F) (h' : zero F') : same F F' := fun a b ha hb => by rw [h a b ha hb, h' a b ha hb]
theorem isput_same {F A B : Nat → Int32} {a b : Nat} {v : Int} (h : isput F A a b v) (h' : isput F B a b v) : same A B := fun x y hx hy => by rw [h x y hx hy, h' x y hx hy]
theorem circ_same {n : Nat} {F A B : Nat → Int32} {v : Int} (h : circ n F A v) (h' : circ n F B v) : same A B := fun x y hx hy => by rw [h x y hx hy, h' x y hx hy]
theorem strewn_same {n e : Nat} {F A B : Nat → Int32} (h : isstrewn n e F A) (h' : isstrewn n e F B) : same A B := fun x y hx hy => by rw [h x y hx hy, h' x y hx hy]
theorem turned_same {n : Nat} {F A B : Nat → Int32} (h : turned n F A) (h' : turned n F B) : same A B := fun x y hx hy => by rw [h x y hx hy, h' x y hx hy]
theorem swapt_same {n p q : Nat} {F A B : Nat → Int32} (h : swapt n p q F A) (h' : swapt n p q F B) : same A B := fun x y hx hy => by rw [h x y hx hy, h' x y hx hy]
theorem carried_same2 {F A B : Nat → Int32} {t : Nat → Nat} {m : Int} {K : Nat} (h : carried F A t m K) (h' : carried F B t m K) : same A B := fun x y hx hy => by rw [h x y hx hy, h' x y hx hy]
theorem two_ne : ¬ (2 : Int32) = 0 := by decide
theorem sim_places {i9 i12 i13 i14 i3 i6 i7 i8 i2 : Int32} {f18 f20 f12 f13 : Nat → Int32} {l21 : Int64} {z1 : Int32 × Int32 × Int32 × Int32 × Int32 × (Nat → Int32) × (Nat → Int32) × Int64} {z2 : Int32 × Int32 × Int32 × Int32 × Int32 × Int32 × (Nat → Int32) × (Nat → Int32)} (h1 : C_places i9 i12 i13 i14 f18 f20 l21 i2 z1) (h2 : (¬ (2 ≤ i2.toInt ∧ i2.toInt ≤ 9) ∧ z2 = (0, i3, i6, i7, i8, 1, f12, f13)) ∨ ((2 ≤ i2.toInt ∧ i2.toInt ≤ 9) ∧ z2 = (i3, i2, 0, i2 - 1, i8 + 1, 0, (fun _ => 0), (fun _ => 0)))) (e1 : i9 = i8) (e2 : i12 = i3) (e3 : i13 = i6) (e4 : i14 = i7) (hR : same f18 f12) (hF : same f20 f13) (hm : 2 ≤ i12.toInt ∧ i12.toInt ≤ 9) : CMP z1.1 z1.2.2.2.2.2.2.2 z2.2.2.2.2.2.1 z2.1.toInt64 ∧ z1.2.1 = z2.2.2.2.2.1 ∧ z1.2.2.1 = z2.2.1 ∧ z1.2.2.2.1 = z2.2.2.1 ∧ z1.2.2.2.2.1 = z2.2.2.2.1 ∧ same z1.2.2.2.2.2.1 z2.2.2.2.2.2.2.1 ∧ same z1.2.2.2.2.2.2.1 z2.2.2.2.2.2.2.2 ∧ (2 ≤ z1.2.2.1.toInt ∧ z1.2.2.1.toInt ≤ 9) := by
  subst e1
  subst e2
  subst e3
  subst e4
  rcases h1 with ⟨a, b⟩ | ⟨a, b1, b2, b3, b4, b5, b6, b7, b8⟩ <;> rcases h2 with ⟨c, d⟩ | ⟨c, d⟩
  · subst b
    subst d
    exact ⟨⟨rfl, fun q => absurd q one_ne⟩, rfl, rfl, rfl, rfl, hR, hF, hm⟩
  · exact absurd c a
  · exact absurd a c
  · subst d
    exact ⟨⟨b1.symm, fun _ => b8⟩, b2, b3, b4, b5, zero_same b6 (fun _ _ _ _ => rfl), zero_same b7 (fun _ _ _ _ => rfl), by rw [b3]; exact a⟩
theorem sim_ends {n s : Nat} {F Fc : Nat → Int32} {i10 i14 i15 i7 i8 i9 i2 i3 : Int32} {l20 : Int64} {z1 : Int32 × Int32 × Int32 × Int32 × (Nat → Int32) × Int64} {z2 : Int32 × Int32 × Int32 × Int32 × Int32 × (Nat → Int32)} (h1 : C_ends n s F i10 i14 i15 Fc l20 i2 i3 z1) (h2 : A_ends n s F i7 i8 i9 i2 i3 z2) (e1 : i10 = i9) (e2 : i14 = i7) (e3 : i15 = i8) (hF : same Fc F) : CMP z1.1 z1.2.2.2.2.2 z2.2.2.2.2.1 z2.1.toInt64 ∧ z1.2.1 = z2.2.2.2.1 ∧ z1.2.2.1 = z2.2.1 ∧ z1.2.2.2.1 = z2.2.2.1 ∧ same z1.2.2.2.2.1 z2.2.2.2.2.2 := by
  subst e1
  subst e2
  subst e3
  rcases h1 with ⟨a, b⟩ | ⟨a, b, c⟩ | ⟨a, b, b1, b2, b3, b4, b5, v, b6, b7⟩ <;> rcases h2 with ⟨a', b'⟩ | ⟨a', b', c'⟩ | ⟨a', b', d1, d2, d3, d4, d5, d6⟩ <;> first
    | exact absurd a' a
    | exact absurd a a'
    | exact absurd b' b
    | exact absurd b b'
    | skip
  · subst b
    subst b'
    exact ⟨⟨rfl, fun q => absurd q one_ne⟩, rfl, rfl, rfl, hF⟩
  · subst c
    subst c'
    exact ⟨⟨rfl, fun q => absurd q two_ne⟩, rfl, rfl, rfl, hF⟩
  · exact ⟨⟨by rw [d5, b1], fun _ => by rw [b6]; exact i64eq b7 d1⟩, by rw [b2, d4], by rw [b3, d2], by rw [b4, d3], zero_same b5 d6⟩
theorem sim_room {n : Nat} {R F Rc : Nat → Int32} {i11 i12 i9 i10 i2 i3 i4 : Int32} {l23 : Int64} {z1 : Int32 × Int32 × Int32 × (Nat → Int32) × Int64} {z2 : Int32 × Int32 × Int32 × Int32 × (Nat → Int32)} (h1 : C_room n R F i11 i12 Rc l23 i2 i3 i4 z1) (h2 : A_room n R F i9 i10 i2 i3 i4 z2) (e1 : i11 = i9) (e2 : i12 = i10) (hR : same Rc R) : CMP z1.1 z1.2.2.2.2 z2.2.2.2.1 z2.1.toInt64 ∧ z1.2.1 = z2.2.1 ∧ z1.2.2.1 = z2.2.2.1 ∧ same z1.2.2.2.1 z2.2.2.2.2 := by
  subst e1
  subst e2
  rcases h1 with ⟨a, b⟩ | ⟨a, b, c⟩ | ⟨a, b, c, d⟩ | ⟨a, b, c, d1, d2, d3, d4, v, d5, d6⟩ <;> rcases h2 with ⟨a', b'⟩ | ⟨a', b', c'⟩ | ⟨a', b', c', d'⟩ | ⟨a', b', c', x1, x2, x3, x4, x5⟩ <;> first
    | exact absurd a' a
    | exact absurd a a'
    | exact absurd b' b
    | exact absurd b b'
    | exact absurd c' c
    | exact absurd c c'
    | skip
  · subst b
    subst b'
    exact ⟨⟨rfl, fun q => absurd q one_ne⟩, rfl, rfl, hR⟩
  · subst c
    subst c'
    exact ⟨⟨rfl, fun q => absurd q two_ne⟩, rfl, rfl, hR⟩
  · subst d
    subst d'
    exact ⟨⟨rfl, fun _ => rfl⟩, rfl, rfl, hR⟩
  · exact ⟨⟨by rw [x4, d1], fun _ => by rw [d5]; exact i64eq d6 x1⟩, by rw [d2, x2], by rw [d3, x3], isput_same d4 x5⟩
theorem sim_widen {n : Nat} {R F Rc : Nat → Int32} {i11 i12 i9 i10 i2 i3 i4 : Int32} {l23 : Int64} {z1 : Int32 × Int32 × Int32 × (Nat → Int32) × Int64} {z2 : Int32 × Int32 × Int32 × Int32 × (Nat → Int32)} (h1 : C_widen n R F i11 i12 Rc l23 i2 i3 i4 z1) (h2 : A_widen n R F i9 i10 i2 i3 i4 z2) (e1 : i11 = i9) (e2 : i12 = i10) (hR : same Rc R) : CMP z1.1 z1.2.2.2.2 z2.2.2.2.1 z2.1.toInt64 ∧ z1.2.1 = z2.2.1 ∧ z1.2.2.1 = z2.2.2.1 ∧ same z1.2.2.2.1 z2.2.2.2.2 := by
  subst e1
  subst e2
  rcases h1 with ⟨a, b⟩ | ⟨a, b, c⟩ | ⟨a, b, c, d⟩ | ⟨a, b, c, d1, d2, d3, d4, v, d5, d6⟩ <;> rcases h2 with ⟨a', b'⟩ | ⟨a', b', c'⟩ | ⟨a', b', c', d'⟩ | ⟨a', b', c', x1, x2, x3, x4, x5⟩ <;> first
    | exact absurd a' a
    | exact absurd a a'
    | exact absurd b' b
    | exact absurd b b'
    | exact absurd c' c
    | exact absurd c c'
    | skip
  · subst b
    subst b'
    exact ⟨⟨rfl, fun q => absurd q one_ne⟩, rfl, rfl, hR⟩
  · subst c
    subst c'
    exact ⟨⟨rfl, fun q => absurd q two_ne⟩, rfl, rfl, hR⟩
  · subst d
    subst d'
    exact ⟨⟨rfl, fun _ => rfl⟩, rfl, rfl, hR⟩
  · exact ⟨⟨by rw [x4, d1], fun _ => by rw [d5]; exact i64eq d6 x1⟩, by rw [d2, x2], by rw [d3, x3], isput_same d4 x5⟩
theorem sim_circle {n : Nat} {R F Rc : Nat → Int32} {i11 i12 i9 i10 i2 : Int32} {l21 : Int64} {z1 : Int32 × Int32 × Int32 × (Nat → Int32) × Int64} {z2 : Int32 × Int32 × Int32 × Int32 × (Nat → Int32)} (h1 : C_circle n R F i11 i12 Rc l21 i2 z1) (h2 : A_circle n R F i9 i10 i2 z2) (e1 : i11 = i9) (e2 : i12 = i10) (hR : same Rc R) : CMP z1.1 z1.2.2.2.2 z2.2.2.2.1 z2.1.toInt64 ∧ z1.2.1 = z2.2.1 ∧ z1.2.2.1 = z2.2.2.1 ∧ same z1.2.2.2.1 z2.2.2.2.2 := by
  subst e1
  subst e2
  rcases h1 with ⟨a, b⟩ | ⟨a, b, c⟩ | ⟨a, b, d1, d2, d3, d4, v, d5, d6⟩ <;> rcases h2 with ⟨a', b'⟩ | ⟨a', b', c'⟩ | ⟨a', b', x1, x2, x3, x4, x5⟩ <;> first
    | exact absurd a' a
    | exact absurd a a'
    | exact absurd b' b
    | exact absurd b b'
    | skip
  · subst b
    subst b'
    exact ⟨⟨rfl, fun q => absurd q one_ne⟩, rfl, rfl, hR⟩
  · subst c
    subst c'
    exact ⟨⟨rfl, fun _ => rfl⟩, rfl, rfl, hR⟩
  · exact ⟨⟨by rw [x4, d1], fun _ => by rw [d5]; exact i64eq d6 x1⟩, by rw [d2, x2], by rw [d3, x3], circ_same d4 x5⟩
theorem sumR_same {n : Nat} {A B : Nat → Int32} (hn : n ≤ 9) (h : same A B) : sumN n (outF n A) = sumN n (outF n B) := sumN_eq n (fun x hx => outF_same h hn hx)
theorem sim_strew {n : Nat} {R F Rc Fc : Nat → Int32} {i9 i8 i2 : Int32} {l21 : Int64} {z1 : Int32 × Int32 × (Nat → Int32) × (Nat → Int32) × Int64} {z2 : Int32 × Int32 × Int32 × (Nat → Int32) × (Nat → Int32)} (hn : n ≤ 9) (h1 : C_strew n R i9 Rc Fc l21 i2 z1) (h2 : A_strew n R F i8 i2 z2) (e1 : i9 = i8) (hR : same Rc R) (hF : same Fc F) : CMP z1.1 z1.2.2.2.2 z2.2.2.1 z2.1.toInt64 ∧ z1.2.1 = z2.2.1 ∧ same z1.2.2.1 z2.2.2.2.1 ∧ same z1.2.2.2.1 z2.2.2.2.2 := by
  subst e1
  rcases h1 with ⟨a, b⟩ | ⟨a, d1, d2, d3, d4, v, d5, d6⟩ <;> rcases h2 with ⟨a', b'⟩ | ⟨a', x1, x2, x3, x4, x5⟩ <;> first
    | exact absurd a' a
    | exact absurd a a'
    | skip
  · subst b
    subst b'
    exact ⟨⟨rfl, fun q => absurd q one_ne⟩, rfl, hR, hF⟩
  · have hs := strewn_same d3 x4
    exact ⟨⟨by rw [x3, d1], fun _ => by rw [d5]; exact i64eq d6 (by rw [x1, sumR_same hn hs])⟩, by rw [d2, x2], hs, zero_same d4 x5⟩
theorem sim_turn {n s : Nat} {R F : Nat → Int32} {i7 i8 : Int32} {z1 z2 : Int32 × Int32 × (Nat → Int32) × (Nat → Int32)} (h1 : C_turn n s R F i7 z1) (h2 : A_turn n s R F i8 z2) (e1 : i7 = i8) : z1.1 = z2.1 ∧ z1.2.1 = z2.2.1 ∧ same z1.2.2.1 z2.2.2.1 ∧ same z1.2.2.2 z2.2.2.2 := by
  subst e1
  exact ⟨Int32.toInt_inj.mp (h1.1.trans h2.1.symm), by rw [h1.2.1, h2.2.1], turned_same h1.2.2.1 h2.2.2.1, turned_same h1.2.2.2 h2.2.2.2⟩
theorem sim_swap {n s g : Nat} {R F Rc Fc : Nat → Int32} {i10 i14 i15 i7 i8 i9 i2 i3 : Int32} {l22 : Int64} {z1 : Int32 × Int32 × Int32 × Int32 × (Nat → Int32) × (Nat → Int32) × Int64} {z2 : Int32 × Int32 × Int32 × Int32 × Int32 × (Nat → Int32) × (Nat → Int32)} (h1 : C_swap n s g R F i10 i14 i15 Rc Fc l22 i2 i3 z1) (h2 : A_swap n s g R F i7 i8 i9 i2 i3 z2) (e1 : i10 = i9) (e2 : i14 = i7) (e3 : i15 = i8) (hR : same Rc R) (hF : same Fc F) : CMP z1.1 z1.2.2.2.2.2.2 z2.2.2.2.2.1 z2.1.toInt64 ∧ z1.2.1 = z2.2.2.2.1 ∧ z1.2.2.1 = z2.2.1 ∧ z1.2.2.2.1 = z2.2.2.1 ∧ same z1.2.2.2.2.1 z2.2.2.2.2.2.1 ∧ same z1.2.2.2.2.2.1 z2.2.2.2.2.2.2 := by
  subst e1
  subst e2
  subst e3
  rcases h1 with ⟨a, b⟩ | ⟨a, d1, d2, d3, d4, d5, d6, d7⟩ <;> rcases h2 with ⟨a', b'⟩ | ⟨a', x1, x2, x3, x4, x5, x6, x7⟩ <;> first
    | exact absurd a' a
    | exact absurd a a'
    | skip
  · subst b
    subst b'
    exact ⟨⟨rfl, fun q => absurd q one_ne⟩, rfl, rfl, rfl, hR, hF⟩
  · have eg : z1.2.2.2.1 = z2.2.2.1 := Int32.toInt_inj.mp (d4.trans x3.symm)
    exact ⟨⟨by rw [x5, d1], fun _ => by rw [d7, x1, eg]⟩, by rw [d2, x4], Int32.toInt_inj.mp (d3.trans x2.symm), eg, swapt_same d5 x6, swapt_same d6 x7⟩
theorem sim_step {n s g : Nat} {R F Fc : Nat → Int32} {i9 i8 i2 : Int32} {l28 : Int64} {z1 : Int32 × Int32 × (Nat → Int32) × Int32 × Int32 × (Nat → Int32) × (Nat → Int32) × Int64} {z2 : Int32 × Int32 × Int32 × (Nat → Int32)} (h1 : C_step n s g R F i9 Fc l28 i2 z1) (h2 : A_step n s g R F i8 i2 z2) (e1 : i9 = i8) (hF : same Fc F) : CMP z1.1 z1.2.2.2.2.2.2.2 z2.2.2.1 z2.1.toInt64 ∧ z1.2.1 = z2.2.1 ∧ same z1.2.2.1 z2.2.2.2 := by
  subst e1
  rcases h1 with ⟨a, b1, b2, b3, b4⟩ | ⟨a, b1, b2, v, b3, b4⟩ <;> rcases h2 with ⟨a', b'⟩ | ⟨a', b'⟩ <;> first
    | exact absurd a' a
    | exact absurd a a'
    | skip
  · subst b'
    exact ⟨⟨b1.symm, fun q => absurd (b1.symm.trans q) one_ne⟩, b2, by rw [b3]; exact hF⟩
  · rcases b4 with ⟨c1, c2, c3⟩ | c <;> rcases b' with ⟨d1, d2⟩ | ⟨d, d3, d4⟩
    · subst d2
      exact ⟨⟨b1.symm, fun _ => by rw [b3]; exact i64eq c3 rfl⟩, b2, c2⟩
    · exact absurd d.track c1
    · exact absurd c.track d1
    · obtain ⟨u1, u2⟩ := stepped_uni a c d
      exact ⟨⟨by rw [d4, b1], fun _ => by rw [b3]; exact i64eq u1 rfl⟩, by rw [b2, d3], u2⟩
theorem sim_fill {n s g : Nat} {R F Fc : Nat → Int32} {i9 i8 i2 : Int32} {l28 : Int64} {z1 : Int32 × Int32 × (Nat → Int32) × Int32 × Int32 × (Nat → Int32) × (Nat → Int32) × Int64} {z2 : Int32 × Int32 × Int32 × (Nat → Int32)} (hn : n ≤ 9) (h1 : C_fill n s g R F i9 Fc l28 i2 z1) (h2 : A_fill n s g R F i8 i2 z2) (e1 : i9 = i8) (hF : same Fc F) : CMP z1.1 z1.2.2.2.2.2.2.2 z2.2.2.1 z2.1.toInt64 ∧ z1.2.1 = z2.2.1 ∧ same z1.2.2.1 z2.2.2.2 := by
  subst e1
  rcases h1 with ⟨a, b1, b2, b3, b4⟩ | ⟨a, b1, b2, v, j, F0, b3, b4, b5, b6⟩ <;> rcases h2 with ⟨a', b'⟩ | ⟨a', j', d1, d2, d3, d4, d5⟩ <;> first
    | exact absurd a' a
    | exact absurd a a'
    | skip
  · subst b'
    exact ⟨⟨b1.symm, fun q => absurd (b1.symm.trans q) one_ne⟩, b2, by rw [b3]; exact hF⟩
  · obtain ⟨u1, u2⟩ := filled_uni a hn j j' b5 b6 d1
    exact ⟨⟨by rw [d4, b1], fun _ => by rw [b3]; exact i64eq b4 (by rw [d2, u1])⟩, by rw [b2, d3], u2⟩
theorem sim_send {n s g : Nat} {R F Fc : Nat → Int32} {i10 i11 i8 i9 i2 i3 : Int32} {l22 : Int64} {z1 : Int32 × Int32 × Int32 × (Nat → Int32) × Int64} {z2 : Int32 × Int32 × Int32 × Int32 × (Nat → Int32)} (hn : n ≤ 9) (hs : s < n) (h1 : C_send n s g R F i10 i11 Fc l22 i2 i3 z1) (h2 : A_send n s g R F i8 i9 i2 i3 z2) (e1 : i10 = i8) (e2 : i11 = i9) (hF : same Fc F) : CMP z1.1 z1.2.2.2.2 z2.2.2.2.1 z2.1.toInt64 ∧ z1.2.1 = z2.2.1 ∧ z1.2.2.1 = z2.2.2.1 ∧ same z1.2.2.2.1 z2.2.2.2.2 := by
  subst e1
  subst e2
  rcases h1 with ⟨a, b⟩ | ⟨a, b, c⟩ | ⟨a, b, c, d⟩ | ⟨a, b, c, d1, d2, d3, d4, v, d5, d6⟩ <;> rcases h2 with ⟨a', b'⟩ | ⟨a', b', c'⟩ | ⟨a', b', c', d'⟩ | ⟨a', b', c', x1, x2, x3, x4, x5⟩ <;> first
    | exact absurd a' a
    | exact absurd a a'
    | exact absurd b' b
    | exact absurd b b'
    | exact absurd c' c
    | exact absurd c c'
    | skip
  · subst b
    subst b'
    exact ⟨⟨rfl, fun q => absurd q one_ne⟩, rfl, rfl, hF⟩
  · subst c
    subst c'
    exact ⟨⟨rfl, fun q => absurd q two_ne⟩, rfl, rfl, hF⟩
  · subst d
    subst d'
    exact ⟨⟨rfl, fun _ => rfl⟩, rfl, rfl, hF⟩
  · have hs2 := carried_same2 d4 x5
    exact ⟨⟨by rw [x4, d1], fun _ => by rw [d5]; exact i64eq d6 (by rw [x1, outF_same hs2 hn hs])⟩, by rw [d2, x2], by rw [d3, x3], hs2⟩
theorem cpos_same {n : Nat} {A B : Nat → Int32} (hn : n ≤ 9) (h : same A B) : cpos n A = cpos n B := by
  unfold cpos
  refine sumN_eq n (fun a ha => ?_)
  exact sumN_eq n (fun b hb => by rw [h a b (by omega) (by omega)])
theorem sim_round {n : Nat} {R F Fc : Nat → Int32} {i10 i11 i8 i9 i2 i3 i4 i5 : Int32} {l22 : Int64} {z1 : Int32 × Int32 × Int32 × (Nat → Int32) × Int64} {z2 : Int32 × Int32 × Int32 × Int32 × (Nat → Int32)} (hn : n ≤ 9) (h1 : C_round n R F i10 i11 Fc l22 i2 i3 i4 i5 z1) (h2 : A_round n R F i8 i9 i2 i3 i4 i5 z2) (e1 : i10 = i8) (e2 : i11 = i9) (hF : same Fc F) : CMP z1.1 z1.2.2.2.2 z2.2.2.2.1 z2.1.toInt64 ∧ z1.2.1 = z2.2.1 ∧ z1.2.2.1 = z2.2.2.1 ∧ same z1.2.2.2.1 z2.2.2.2.2 := by
  subst e1
  subst e2
  rcases h1 with ⟨a, b⟩ | ⟨a, b, c⟩ | ⟨a, b, c, d⟩ | ⟨a, b, c, d1, d2, d3, d4, v, d5, d6⟩ <;> rcases h2 with ⟨a', b'⟩ | ⟨a', b', c'⟩ | ⟨a', b', c', d'⟩ | ⟨a', b', c', x1, x2, x3, x4, x5⟩ <;> first
    | exact absurd a' a
    | exact absurd a a'
    | exact absurd b' b
    | exact absurd b b'
    | exact absurd c' c
    | exact absurd c c'
    | skip
  · subst b
    subst b'
    exact ⟨⟨rfl, fun q => absurd q one_ne⟩, rfl, rfl, hF⟩
  · subst c
    subst c'
    exact ⟨⟨rfl, fun q => absurd q two_ne⟩, rfl, rfl, hF⟩
  · subst d
    subst d'
    exact ⟨⟨rfl, fun _ => rfl⟩, rfl, rfl, hF⟩
  · have hs2 := carried_same2 d4 x5
    exact ⟨⟨by rw [x4, d1], fun _ => by rw [d5]; exact i64eq d6 (by rw [x1, cpos_same hn hs2])⟩, by rw [d2, x2], by rw [d3, x3], hs2⟩
theorem sim_peel {n s g : Nat} {F : Nat → Int32} {i7 i8 : Int32} {z1 : Int32 × Int32 × (Nat → Int32) × Int32 × Int32 × Int32 × (Nat → Int32)} {z2 : Int32 × Int32 × (Nat → Int32)} (hs : s < n) (h1 : C_peel n s g F i7 z1) (h2 : A_peel n s g F i8 z2) (e1 : i7 = i8) : z1.1 = z2.1 ∧ z1.2.1 = z2.2.1 ∧ same z1.2.2.1 z2.2.2 := by
  subst e1
  refine ⟨?_, by rw [h1.1, h2.1], ?_⟩ <;> rcases h1.2 with ⟨a, b, c⟩ | ⟨way, a⟩ <;> rcases h2.2 with ⟨a', b', c'⟩ | ⟨way', a'⟩
  · rw [b, b']
  · exact absurd a' (fun q => empt_taken hs a q)
  · exact absurd a (fun q => empt_taken hs a' q)
  · exact Int32.toInt_inj.mp (taken_uni a a').2.1
  · rw [c']; exact c
  · exact absurd a' (fun q => empt_taken hs a q)
  · exact absurd a (fun q => empt_taken hs a' q)
  · exact (taken_uni a a').2.2
theorem sim_empty {n s : Nat} {F : Nat → Int32} {i7 i8 : Int32} {z1 z2 : Int32 × Int32 × (Nat → Int32)} (h1 : C_empty n s F i7 z1) (h2 : A_empty n s F i8 z2) (e1 : i7 = i8) : z1.1 = z2.1 ∧ z1.2.1 = z2.2.1 ∧ same z1.2.2 z2.2.2 := by
  subst e1
  exact ⟨Int32.toInt_inj.mp (h1.1.trans h2.1.symm), by rw [h1.2.1, h2.2.1], zero_same h1.2.2 h2.2.2⟩
theorem cinit_iv : Ok fX6_init (fun z => z.1 = 5 ∧ zero z.2.1 ∧ zero z.2.2) := by
  unfold fX6_init
  refine Ok_bind ok_X2_init (fun _ _ => Ok_bind ok_X2_init (fun _ _ => Ok_bind ok_X5_init (fun _ _ => Ok_bind ok_X3_init (fun _ _ => Ok_bind ini_iv (fun _ _ => Ok_bind (R := fun z => z.1 = 5 ∧ zero z.2.1 ∧ zero z.2.2) ?_ (fun z hz => Ok_some hz))))))
  unfold fX2_begin
  exact Ok_bind (clear_iv _) (fun z12 h12 => Ok_bind (clear_iv _) (fun z13 h13 => Ok_some ⟨(by decide : (6 : Int32) - 1 = 5), h12, h13⟩))
