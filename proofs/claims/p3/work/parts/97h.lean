/-! between, would, about, apart -/
theorem cbetween_iv {n s g : Nat} {R F Rc Fc f28 f30 f36 f37 : Nat → Int32} {i13 i22 i23 i24 i33 i35 i2 i3 : Int32} {l38 : Int64} (hI : FI n s g R F) (hR : same Rc R) (h13 : i13.toInt = n) (h33 : 0 ≤ i33.toInt ∧ i33.toInt ≤ 9) (h35 : 0 ≤ i35.toInt ∧ i35.toInt ≤ 10) : Ok (fL_between i13 Rc Fc i22 i23 i24 f28 f30 i33 i35 f36 f37 l38 i2 i3) (fun z => CQ (pl n i2 ∧ pl n i3) (¬ i2 = i3) (fun v => v = least n (tn i2) (tn i3) R) z.1 z.2.2.2.2.2.2.2.2.2.2 ∧ (0 ≤ z.2.2.2.2.2.2.1.toInt ∧ z.2.2.2.2.2.2.1.toInt ≤ 9) ∧ (0 ≤ z.2.2.2.2.2.2.2.1.toInt ∧ z.2.2.2.2.2.2.2.1.toInt ≤ 10)) := by
  have t0 : (0 : Int32).toInt = 0 := rfl
  unfold fL_between
  refine xc_of ?_
  unfold fX6_between
  refine xb_pair h13 (fun q => ?_) (fun q p => ?_) (fun q p => ?_)
  · show Ok (if _ then _ else _) _
    rw [if_pos rfl]
    exact ⟨_, rfl, Or.inl ⟨q, rfl⟩, h33, h35⟩
  · show Ok (if _ then _ else _) _
    rw [if_neg (by decide), if_pos rfl]
    exact ⟨_, rfl, Or.inr (Or.inl ⟨q, p, rfl⟩), h33, h35⟩
  · obtain ⟨a2, l2⟩ := q.1.eq
    obtain ⟨a3, l3⟩ := q.2.eq
    refine Ok_bind (become2_iv f28 f30 Rc Fc) (fun z37 h37 => ?_)
    have e := h37.1.trans hR
    refine Ok_bind (mostTrial_iv (hI.rm.ofsame e) hI.1 l2 l3 (fun w => p (Int32.toInt_inj.mp (by omega))) h13 a2 a3 (by omega)) (fun z hz => ?_)
    exact ⟨_, rfl, ⟨_, rfl, Or.inr (Or.inr ⟨q, p, rfl, z.1, rfl, by rw [hz.1]; exact least_same hI.1.2 e⟩), hz.2.1, hz.2.2⟩⟩
theorem leastQ_iv {n s g : Nat} {R : Nat → Int32} {i5 i3 i4 : Int32} (n9 : n ≤ 9) (hs : s < n) (hg : g < n) (hsm : sm R) (h5 : i5.toInt = n) (h3 : i3.toInt = s) (h4 : i4.toInt = g) : Ok (fX8_least i5 R i3 i4) (fun z => z.toInt = least n s g R) := by
  obtain ⟨z, e, h⟩ := leastNow_iv n9 hs hg hsm h5 h3 h4
  unfold fX8_leastNow at e
  cases q : fX8_least i5 R i3 i4 with
  | none => rw [q] at e; exact absurd e (by simp)
  | some y =>
    rw [q] at e
    have e : some y = some z := e
    exact ⟨y, rfl, by rw [Option.some.inj e]; exact h⟩
theorem between_iv {n s g : Nat} {R F : Nat → Int32} {i4 i2 i3 : Int32} (hI : FI n s g R F) (h4 : i4.toInt = n) : Ok (fX8_between i4 R i2 i3) (fun z => RQ (pl n i2 ∧ pl n i3) (¬ i2 = i3) (fun v => v = least n (tn i2) (tn i3) R) z.2 z.1) := by
  unfold fX8_between
  refine fl_pp h4 (fun i hi => Ok_jn (fun k21 w21 => ?_))
  have go : ∀ j, flag (¬ i2 = i3) j → Ok (k21 j) (fun z => RQ (pl n i2 ∧ pl n i3) (¬ i2 = i3) (fun v => v = least n (tn i2) (tn i3) R) z.2 z.1) := by
    intro j hj
    rw [w21]
    refine thrown2 hi hj (fun q => ⟨_, rfl, Or.inl ⟨q, rfl⟩⟩) (fun q p => ⟨_, rfl, Or.inr (Or.inl ⟨q, p, rfl⟩)⟩) (fun q p => Ok_if (fun _ => ?_) (fun h => absurd rfl h))
    obtain ⟨a2, l2⟩ := q.1.eq
    obtain ⟨a3, l3⟩ := q.2.eq
    exact Ok_bind (leastQ_iv hI.1.2 l2 l3 hI.smR h4 a2 a3) (fun z hz => Ok_some (Or.inr (Or.inr ⟨q, p, rfl, hz⟩)))
  exact Ok_if (fun e => go 1 (Or.inr ⟨fun q => q e, rfl⟩)) (fun e => go 0 (Or.inl ⟨e, rfl⟩))
def by1 (x : Int32) : Prop := -1 ≤ x.toInt ∧ x.toInt ≤ 1
def A_would (n s g : Nat) (R : Nat → Int32) (a b : Nat) (d v : Int) : Prop := (0 ≤ G R a b + d ∧ ∃ R', isput R R' a b (G R a b + d) ∧ v = least n s g R') ∨ (¬ (0 ≤ G R a b + d) ∧ v = -9)
theorem would_only {n s g a b : Nat} {R : Nat → Int32} {d : Int} (hn : n ≤ 9) : only1 (A_would n s g R a b d) := by
  intro x y hx hy
  rcases hx with ⟨p, R1, q, e⟩ | ⟨p, e⟩ <;> rcases hy with ⟨p', R2, q', e'⟩ | ⟨p', e'⟩
  · rw [e, e']; exact least_same hn (isput_same q q')
  · exact absurd p p'
  · exact absurd p' p
  · rw [e, e']
theorem RM.put {n a b : Nat} {R R' : Nat → Int32} {v : Int} (h : ∀ a b, a < 9 → b < 9 → (0 ≤ G R a b ∧ G R a b ≤ 50) ∧ (a = b ∨ n ≤ a ∨ n ≤ b → G R a b = 0)) (hp : isput R R' a b v) (hv : 0 ≤ v ∧ v ≤ 51) (ha : a < n) (hb : b < n) (hab : a ≠ b) : RM n R' := fun x y hx hy => by
  have q := h x y hx hy
  rw [hp x y hx hy]
  by_cases c : x = a ∧ y = b
  · rw [if_pos c]
    exact ⟨hv, fun w => by omega⟩
  · rw [if_neg c]
    exact ⟨by omega, q.2⟩
theorem cwould_iv {n s g : Nat} {R F Rc Fc f29 f31 f37 f38 : Nat → Int32} {i14 i15 i16 i23 i24 i25 i34 i36 i2 i3 i4 : Int32} {l39 : Int64} (hI : FI n s g R F) (hR : same Rc R) (h14 : i14.toInt = n) (h15 : i15.toInt = s) (h16 : i16.toInt = g) (h34 : 0 ≤ i34.toInt ∧ i34.toInt ≤ 9) (h36 : 0 ≤ i36.toInt ∧ i36.toInt ≤ 10) : Ok (fL_would i14 i15 i16 Rc Fc i23 i24 i25 f29 f31 i34 i36 f37 f38 l39 i2 i3 i4) (fun z => CQ (pl n i2 ∧ pl n i3) (¬ i2 = i3 ∧ by1 i4) (A_would n s g R (tn i2) (tn i3) i4.toInt) z.1 z.2.2.2.2.2.2.2.2.2.2 ∧ (0 ≤ z.2.2.2.2.2.2.1.toInt ∧ z.2.2.2.2.2.2.1.toInt ≤ 9) ∧ (0 ≤ z.2.2.2.2.2.2.2.1.toInt ∧ z.2.2.2.2.2.2.2.1.toInt ≤ 10)) := by
  have n9 := hI.1
  have se := hI.2.1
  have t0 : (0 : Int32).toInt = 0 := rfl
  unfold fL_would
  refine xc_of ?_
  unfold fX6_would
  refine xb_pair h14 (fun q => ?_) (fun q p => ?_) (fun q p => xb_need (needWithin_iv (lo := -1) (hi := 1) rfl rfl) (fun p2 => ?_) (fun p2 => ?_))
  · show Ok (if _ then _ else _) _
    rw [if_pos rfl]
    exact ⟨_, rfl, Or.inl ⟨q, rfl⟩, h34, h36⟩
  · show Ok (if _ then _ else _) _
    rw [if_neg (by decide), if_pos rfl]
    exact ⟨_, rfl, Or.inr (Or.inl ⟨q, fun c => p c.1, rfl⟩), h34, h36⟩
  · show Ok (if _ then _ else _) _
    rw [if_neg (by decide), if_pos rfl]
    exact ⟨_, rfl, Or.inr (Or.inl ⟨q, fun c => p2 c.2, rfl⟩), h34, h36⟩
  · obtain ⟨a2, l2⟩ := q.1.eq
    obtain ⟨a3, l3⟩ := q.2.eq
    have rb := (hI.2.2.1 (tn i2) (tn i3) (by omega) (by omega)).1
    have hne : tn i2 ≠ tn i3 := fun w => p (Int32.toInt_inj.mp (by omega))
    refine Ok_bind (at_iv a2 a3 (by omega) (by omega)) (fun z40 h40 => Ok_nm (fun y wy => ?_))
    rw [hR _ _ (by omega) (by omega)] at h40
    have ey : y.toInt = G R (tn i2) (tn i3) + i4.toInt := by rw [wy, add_iv (by omega) (by omega), h40]
    clear wy
    refine Ok_if (fun h => ?_) (fun h => ?_)
    · have h := i32le h
      refine Ok_bind (become2_iv f29 f31 Rc Fc) (fun z42 h42 => Ok_bind (put_iv a2 a3 (by omega) (by omega)) (fun z43 h43 => ?_))
      have hp := h43.ofsame (h42.1.trans hR)
      refine Ok_bind (mostTrial_iv (RM.put hI.2.2.1 hp (by omega) l2 l3 hne) n9 se.1 se.2.1 se.2.2 h14 h15 h16 (by omega)) (fun z hz => ?_)
      rw [ey] at hp
      exact ⟨_, rfl, ⟨_, rfl, Or.inr (Or.inr ⟨q, ⟨p, p2⟩, rfl, z.1, rfl, Or.inl ⟨by omega, z43, hp, hz.1⟩⟩), hz.2.1, hz.2.2⟩⟩
    · have h := i32nle h
      exact ⟨_, rfl, ⟨_, rfl, Or.inr (Or.inr ⟨q, ⟨p, p2⟩, rfl, -9, rfl, Or.inr ⟨by omega, rfl⟩⟩), h34, h36⟩⟩
theorem would_iv {n s g : Nat} {R F : Nat → Int32} {i5 i8 i9 i2 i3 i4 : Int32} (hI : FI n s g R F) (h5 : i5.toInt = n) (h8 : i8.toInt = s) (h9 : i9.toInt = g) : Ok (fX8_would i5 i8 i9 R i2 i3 i4) (fun z => RQ (pl n i2 ∧ pl n i3) (¬ i2 = i3 ∧ by1 i4) (A_would n s g R (tn i2) (tn i3) i4.toInt) z.2.1 z.1 ∧ same z.2.2 R) := by
  unfold fX8_would
  have n9 := hI.1
  have se := hI.2.1
  have r0 : same R R := fun _ _ _ _ => rfl
  refine fl_pp h5 (fun i hi => Ok_jn (fun k22 w22 => ?_))
  have go : ∀ j, flag (¬ i2 = i3 ∧ by1 i4) j → Ok (k22 j) (fun z => RQ (pl n i2 ∧ pl n i3) (¬ i2 = i3 ∧ by1 i4) (A_would n s g R (tn i2) (tn i3) i4.toInt) z.2.1 z.1 ∧ same z.2.2 R) := by
    intro j hj
    rw [w22]
    refine thrown2 hi hj (fun q => ⟨_, rfl, Or.inl ⟨q, rfl⟩, r0⟩) (fun q p => ⟨_, rfl, Or.inr (Or.inl ⟨q, p, rfl⟩), r0⟩) (fun q p => Ok_if (fun _ => ?_) (fun h => absurd rfl h))
    obtain ⟨g1, g2, gR, -⟩ := cell_iv (F := R) q.1 q.2 n9.2
    obtain ⟨a2, l2⟩ := q.1.eq
    obtain ⟨a3, l3⟩ := q.2.eq
    have rb := (hI.2.2.1 (tn i2) (tn i3) (by omega) (by omega)).1
    have hb := p.2
    unfold by1 at hb
    have t0 : (0 : Int32).toInt = 0 := rfl
    have hne : tn i2 ≠ tn i3 := fun w => p.1 (Int32.toInt_inj.mp (by omega))
    refine Ok_bind gR (fun z28 h28 => ?_)
    have es : (z28 + i4).toInt = G R (tn i2) (tn i3) + i4.toInt := by rw [add_iv (by omega) (by omega), h28]
    refine Ok_if (fun h => ?_) (fun h => ?_)
    · have h := i32le h
      rw [g2]
      have hp : isput R (upd R (tn i2 * 9 + tn i3) (R (tn i2 * 9 + tn i3) + i4)) (tn i2) (tn i3) (G R (tn i2) (tn i3) + i4.toInt) := by
        have := isput_upd (F := R) (a := tn i2) (b := tn i3) (x := R (tn i2 * 9 + tn i3) + i4) (by omega)
        rw [add_iv (by show -2147483648 ≤ G R (tn i2) (tn i3) + i4.toInt; omega) (by show G R (tn i2) (tn i3) + i4.toInt < 2147483648; omega)] at this
        exact this
      have hm := RM.put hI.2.2.1 hp (by omega) l2 l3 hne
      refine Ok_inB g1 (Ok_inB g1 (Ok_bind (leastNow_iv n9.2 se.1 se.2.1 (fun a b ha hb => by have := (hm a b ha hb).1; omega) h5 h8 h9) (fun z29 h29 => Ok_inB g1 (Ok_inB g1 (Ok_some ⟨Or.inr (Or.inr ⟨q, p, rfl, Or.inl ⟨by omega, _, hp, h29⟩⟩), fun a b ha hb => ?_⟩)))))
      show (upd (upd R (tn i2 * 9 + tn i3) (R (tn i2 * 9 + tn i3) + i4)) (tn i2 * 9 + tn i3) (upd R (tn i2 * 9 + tn i3) (R (tn i2 * 9 + tn i3) + i4) (tn i2 * 9 + tn i3) - i4) (a * 9 + b)).toInt = (R (a * 9 + b)).toInt
      unfold upd
      by_cases c : a * 9 + b = tn i2 * 9 + tn i3
      · rw [if_pos c, if_pos rfl, c, Int32.add_sub_cancel]
      · rw [if_neg c, if_neg c]
    · have h := i32nle h
      exact Ok_some ⟨Or.inr (Or.inr ⟨q, p, rfl, Or.inr ⟨by omega, rfl⟩⟩), r0⟩
  refine Ok_jn (fun k24 w24 => ?_)
  rw [w24]
  have t1 : (1 : Int32).toInt = 1 := rfl
  have tm : (-1 : Int32).toInt = -1 := rfl
  unfold by1 at go
  unfold by1
  refine Ok_if (fun e => go 1 (Or.inr ⟨fun q => q.1 e, rfl⟩)) (fun e => Ok_if (fun h => ?_) (fun h => Ok_if (fun h2 => ?_) (fun h2 => ?_)))
  · have h := i32lt h
    exact go 1 (Or.inr ⟨fun c => by have := c.2.1; omega, rfl⟩)
  · have h := i32nlt h
    have h2 := i32le h2
    exact go 0 (Or.inl ⟨⟨e, by omega, by omega⟩, rfl⟩)
  · have h2 := i32nle h2
    exact go 1 (Or.inr ⟨fun c => by have := c.2.2; omega, rfl⟩)
/-! about: all ways turned round, the ends exchanged -/
theorem sumN_swap {f : Nat → Nat → Int} (m : Nat) : ∀ n, sumN n (fun a => sumN m (f a)) = sumN m (fun b => sumN n (fun a => f a b))
  | 0 => (sumN_zero m).symm
  | n + 1 => by
    have h := sumN_swap (f := f) m n
    have e := sumN_add (f := fun b => sumN n (fun a => f a b)) (g := f n) m
    show sumN n (fun a => sumN m (f a)) + sumN m (f n) = sumN m (fun b => sumN n (fun a => f a b) + f n b)
    rw [h, e]
theorem cap_flat {n : Nat} {R : Nat → Int32} {v : Int32} : cap n R v = sumN n (fun a => sumN n (fun b => if has v a = true ∧ ¬ has v b = true then G R a b else 0)) := by
  refine sumN_eq n (fun a ha => ?_)
  unfold capf
  by_cases w : has v a = true
  · rw [if_pos w]
    refine sumN_eq n (fun b hb => ?_)
    show (if has v b = true then 0 else G R a b) = _
    by_cases u : has v b = true
    · rw [if_pos u, if_neg (fun c => c.2 u)]
    · rw [if_neg u, if_pos ⟨w, u⟩]
  · rw [if_neg w, sumN_eq n (fun b _ => if_neg (fun c => w c.1)), sumN_zero]
theorem cap_turn {n : Nat} {R R' : Nat → Int32} {v v' : Int32} (hn : n ≤ 9) (ht : turned n R R') (hv : ∀ x, x < n → (has v' x = true ↔ ¬ has v x = true)) : cap n R' v' = cap n R v := by
  rw [cap_flat, cap_flat, sumN_swap]
  refine sumN_eq n (fun b hb => sumN_eq n (fun a ha => ?_))
  show (if has v' a = true ∧ ¬ has v' b = true then G R' a b else 0) = (if has v b = true ∧ ¬ has v a = true then G R b a else 0)
  have te : G R' a b = G R b a := by rw [ht a b (by omega) (by omega)]; exact if_pos ⟨ha, hb⟩
  rw [te]
  have x := hv a ha
  have y := hv b hb
  by_cases w : has v b = true ∧ ¬ has v a = true
  · rw [if_pos w, if_pos ⟨x.mpr w.2, fun q => (y.mp q) w.1⟩]
  · rw [if_neg w, if_neg (fun q => w ⟨Classical.byContradiction (fun z => q.2 (y.mpr z)), x.mp q.1⟩)]
theorem cut_ex {n s g : Nat} (hn : n ≤ 9) (hs : s < n) (hg : g < n) (hsg : s ≠ g) : ∃ k, k < 2 ^ n ∧ ctb s g (Int32.ofNat k) = true := by
  obtain ⟨k, k1, k2⟩ := mask hn (fun x => x = s)
  refine ⟨k, k1, ctb_iff.mpr ⟨(k2 s hs).mpr rfl, ?_⟩⟩
  cases q : has (Int32.ofNat k) g
  · rfl
  · exact absurd ((k2 g hg).mp q).symm hsg
theorem least_at {n s g : Nat} {R : Nat → Int32} (hn : n ≤ 9) (hs : s < n) (hg : g < n) (hsg : s ≠ g) (hsm : sm R) : ∃ k, k < 2 ^ n ∧ ctb s g (Int32.ofNat k) = true ∧ cap n R (Int32.ofNat k) = least n s g R := by
  have go : ∀ N, lsN n s g R N = 2147483647 ∨ ∃ k, k < N ∧ ctb s g (Int32.ofNat k) = true ∧ cap n R (Int32.ofNat k) = lsN n s g R N := by
    intro N
    induction N with
    | zero => exact Or.inl rfl
    | succ N ih =>
      rw [lsN_s]
      by_cases c : ctb s g (Int32.ofNat N) = true
      · rw [if_pos c]
        by_cases d : cap n R (Int32.ofNat N) < lsN n s g R N
        · rw [if_pos d]
          exact Or.inr ⟨N, by omega, c, rfl⟩
        · rw [if_neg d]
          rcases ih with ih | ⟨k, k1, k2, k3⟩
          · exact Or.inl ih
          · exact Or.inr ⟨k, by omega, k2, k3⟩
      · rw [if_neg c]
        rcases ih with ih | ⟨k, k1, k2, k3⟩
        · exact Or.inl ih
        · exact Or.inr ⟨k, by omega, k2, k3⟩
  rcases go (2 ^ n) with h | h
  · obtain ⟨k, k1, k2⟩ := cut_ex hn hs hg hsg
    have a := lsN_le (n := n) (s := s) (g := g) (R := R) (2 ^ n) k k1 k2
    have b := capk_b hsm hn (v := Int32.ofNat k) n hn
    have c : cap n R (Int32.ofNat k) = sumN n (capf n R (Int32.ofNat k)) := rfl
    omega
  · exact h
theorem least_turn {n s g : Nat} {R R' : Nat → Int32} (hn : n ≤ 9) (hs : s < n) (hg : g < n) (hsg : s ≠ g) (hsm : sm R) (ht : turned n R R') : least n g s R' = least n s g R := by
  have flip : ∀ k : Nat, ∃ k', k' < 2 ^ n ∧ ∀ x, x < n → (has (Int32.ofNat k') x = true ↔ ¬ has (Int32.ofNat k) x = true) := fun k => mask hn (fun x => ¬ has (Int32.ofNat k) x = true)
  obtain ⟨k, k1, k2, k3⟩ := least_at hn hs hg hsg hsm
  have lb : least n s g R ≤ 2147483647 := by
    have b := capk_b hsm hn (v := Int32.ofNat k) n hn
    have c : cap n R (Int32.ofNat k) = sumN n (capf n R (Int32.ofNat k)) := rfl
    omega
  have cb : ∀ (p q : Nat) (v v' : Int32), p < n → q < n → (∀ x, x < n → (has v' x = true ↔ ¬ has v x = true)) → ctb p q v = true → ctb q p v' = true := by
    intro p q v v' hp hq hv hc
    obtain ⟨c1, c2⟩ := ctb_iff.mp hc
    refine ctb_iff.mpr ⟨(hv q hq).mpr (by rw [c2]; decide), ?_⟩
    cases w : has v' p
    · rfl
    · exact absurd c1 ((hv p hp).mp w)
  refine least_is lb (fun j hj hc => ?_) ?_
  · obtain ⟨j', j1, j2⟩ := flip j
    have e : cap n R' (Int32.ofNat j) = cap n R (Int32.ofNat j') := cap_turn hn ht (fun x hx => ⟨fun a b => (j2 x hx).mp b a, fun a => Classical.byContradiction (fun b => a ((j2 x hx).mpr b))⟩)
    rw [e]
    exact lsN_le (2 ^ n) j' j1 (cb g s _ _ hg hs j2 hc)
  · obtain ⟨k', k4, k5⟩ := flip k
    exact ⟨k', k4, cb s g _ _ hs hg k5 k2, by rw [cap_turn hn ht k5]; exact k3⟩
theorem RM.turn {n : Nat} {R R' : Nat → Int32} (h : RM n R) (ht : turned n R R') : RM n R' := fun x y hx hy => by
  rw [ht x y hx hy]
  by_cases c : x < n ∧ y < n
  · rw [if_pos c]
    have := h y x hy hx
    exact ⟨this.1, fun w => this.2 (by omega)⟩
  · rw [if_neg c]
    exact h x y hx hy
theorem turned.ofsame2 {n : Nat} {R R' Z : Nat → Int32} (hn : n ≤ 9) (h : same R R') (ht : turned n R Z) : turned n R' Z := fun x y hx hy => by rw [ht x y hx hy, h x y hx hy, h y x hy hx]
theorem cabout_iv {n s g : Nat} {R F Rc Fc f25 f27 f33 f34 : Nat → Int32} {i10 i11 i12 i30 i32 : Int32} (hI : FI n s g R F) (hR : same Rc R) (h10 : i10.toInt = n) (h11 : i11.toInt = s) (h12 : i12.toInt = g) : Ok (fX6_about i10 i11 i12 Rc Fc f25 f27 i30 i32 f33 f34) (fun z => z.1.toInt = least n s g R ∧ (0 ≤ z.2.2.2.1.toInt ∧ z.2.2.2.1.toInt ≤ 9) ∧ (0 ≤ z.2.2.2.2.1.toInt ∧ z.2.2.2.2.1.toInt ≤ 10)) := by
  have n9 := hI.1
  have se := hI.2.1
  have t0 : (0 : Int32).toInt = 0 := rfl
  unfold fX6_about
  refine Ok_bind (become2_iv f25 f27 Rc Fc) (fun z35 h35 => ?_)
  unfold fX2_turn
  refine Ok_bind (R := fun z => turned n R z.1) (Ok_bind (cturn_iv h10 n9.2) (fun z11 h11' => Ok_bind (cturn_iv h10 n9.2) (fun z12 _ => Ok_some (h11'.ofsame2 n9.2 (h35.1.trans hR))))) (fun z36 h36 => ?_)
  refine Ok_bind (mostTrial_iv (hI.rm.turn h36) n9 se.2.1 se.1 (fun w => se.2.2 w.symm) h10 h12 h11 (by omega)) (fun z hz => Ok_some ⟨?_, hz.2.1, hz.2.2⟩)
  rw [← least_turn n9.2 se.1 se.2.1 se.2.2 hI.smR h36]
  exact hz.1
theorem about_iv {n s g : Nat} {R F : Nat → Int32} {i2 i5 i6 : Int32} (hI : FI n s g R F) (h2 : i2.toInt = n) (h5 : i5.toInt = s) (h6 : i6.toInt = g) : Ok (fX8_about i2 i5 i6 R) (fun z => z.toInt = least n s g R) := by
  unfold fX8_about
  exact Ok_bind (leastNow_iv hI.1.2 hI.2.1.1 hI.2.1.2.1 hI.smR h2 h5 h6) (fun z hz => Ok_some hz)
/-! apart: every room above 0 made 1 -/
def oneOf (v : Int) : Int := if 0 < v then 1 else 0
def ones (R R' : Nat → Int32) : Prop := ∀ a b, a < 9 → b < 9 → G R' a b = oneOf (G R a b)
theorem ones_same {R A B : Nat → Int32} (h : ones R A) (h' : ones R B) : same A B := fun a b ha hb => by rw [h a b ha hb, h' a b ha hb]
theorem RM.toOnes {n : Nat} {R R' : Nat → Int32} (h : RM n R) (ho : ones R R') : RM n R' := fun a b ha hb => by
  have q := h a b ha hb
  rw [ho a b ha hb]
  unfold oneOf
  exact ⟨by split <;> omega, fun w => by rw [if_neg (by have := q.2 w; omega)]⟩
theorem nar_L12 {n a : Nat} {R : Nat → Int32} {i2 i33 : Int32} {f0 : Nat → Int32} {P : (Nat → Int32) → Prop} {k1 : (Nat → Int32) → Option (Nat → Int32)} (h2 : i2.toInt = n) (hn : n ≤ 9) (h33 : i33.toInt = a) (ha : a < n) (hR : RM n R) (h0 : ∀ x y, x < 9 → y < 9 → G f0 x y = if x < a then oneOf (G R x y) else G R x y) (hk : ∀ f, (∀ x y, x < 9 → y < 9 → G f x y = if x < a + 1 then oneOf (G R x y) else G R x y) → Ok (k1 f) P) : Ok (LX2_narrowToOne_L12 i2 i33 12 0 f0 k1) P := by
  refine lpQ (L := fun c f i => LX2_narrowToOne_L12 i2 i33 c i f k1) (n := n) (Q := fun k f => ∀ x y, x < 9 → y < 9 → G f x y = if x < a ∨ (x = a ∧ y < k) then oneOf (G R x y) else G R x y) (fun c f i hi hf => ?_) (fun c f i k hk' hi hf rec => ?_) (by omega) (fun x y hx hy => ?_)
  · show Ok (BX2_narrowToOne_L12 i2 i33 i f (fun p q => LX2_narrowToOne_L12 i2 i33 c p q k1) k1) _
    unfold BX2_narrowToOne_L12
    refine Ok_if (fun _ => hk f (fun x y hx hy => ?_)) (fun h => ?_)
    · rw [hf x y hx hy]
      by_cases w : x < a + 1
      · rw [if_pos w]
        by_cases u : x < a ∨ (x = a ∧ y < n)
        · rw [if_pos u]
        · rw [if_neg u]
          have z := (hR x y hx hy).2 (by omega)
          rw [z]
          rfl
      · rw [if_neg w, if_neg (by omega)]
    · have h := i32nle h
      omega
  · show Ok (BX2_narrowToOne_L12 i2 i33 i f (fun p q => LX2_narrowToOne_L12 i2 i33 c p q k1) k1) _
    unfold BX2_narrowToOne_L12
    have ei := inc_iv (x := i) (by omega)
    have t1 : (1 : Int32).toInt = 1 := rfl
    have rb := (hR a k (by omega) (by omega)).1
    refine Ok_if (fun h => ?_) (fun _ => Ok_bind (at_iv h33 hi (by omega) (by omega)) (fun z hz => Ok_bind (put_iv h33 hi (by omega) (by omega)) (fun w hw => rec w _ (fun x y hx hy => ?_) (by omega))))
    · have h := i32le h
      omega
    · rw [hf a k (by omega) (by omega), if_neg (by omega)] at hz
      rw [hw x y hx hy]
      by_cases c : x = a ∧ y = k
      · rw [if_pos c, min_iv, hz, t1, c.1, c.2, if_pos (Or.inr ⟨rfl, Nat.lt_succ_self k⟩)]
        unfold oneOf
        split <;> split <;> omega
      · rw [if_neg c, hf x y hx hy]
        by_cases d : x < a ∨ (x = a ∧ y < k)
        · rw [if_pos d, if_pos (by omega)]
        · rw [if_neg d, if_neg (by omega)]
  · rw [h0 x y hx hy]
    by_cases d : x < a
    · rw [if_pos d, if_pos (Or.inl d)]
    · rw [if_neg d, if_neg (by omega)]
theorem narrow_iv {n : Nat} {R Rc : Nat → Int32} {i2 : Int32} (h2 : i2.toInt = n) (hn : n ≤ 9) (hR : RM n R) (hs : same Rc R) : Ok (fX2_narrowToOne i2 Rc) (ones R) := by
  unfold fX2_narrowToOne
  refine lpQ (L := fun c f i => LX2_narrowToOne_L2 i2 c i f) (n := n) (Q := fun k f => ∀ x y, x < 9 → y < 9 → G f x y = if x < k then oneOf (G R x y) else G R x y) (fun c f i hi hf => ?_) (fun c f i k hk' hi hf rec => ?_) (by omega) (fun x y hx hy => by rw [if_neg (by omega)]; exact hs x y hx hy)
  · show Ok (BX2_narrowToOne_L2 i2 i f (fun p q => LX2_narrowToOne_L2 i2 c p q)) _
    unfold BX2_narrowToOne_L2
    refine Ok_if (fun _ => Ok_some (fun x y hx hy => ?_)) (fun h => ?_)
    · rw [hf x y hx hy]
      by_cases w : x < n
      · rw [if_pos w]
      · rw [if_neg w]
        have z := (hR x y hx hy).2 (by omega)
        rw [z]
        rfl
    · have h := i32nle h
      omega
  · show Ok (BX2_narrowToOne_L2 i2 i f (fun p q => LX2_narrowToOne_L2 i2 c p q)) _
    unfold BX2_narrowToOne_L2
    have ei := inc_iv (x := i) (by omega)
    refine Ok_if (fun h => ?_) (fun _ => ?_)
    · have h := i32le h
      omega
    · exact nar_L12 h2 hn hi hk' hR hf (fun w hw => rec w _ hw (by omega))
theorem capart_iv {n s g : Nat} {R F Rc Fc f27 f29 f35 f36 Z : Nat → Int32} {i12 i13 i14 i21 i22 i23 i32 i34 i2 : Int32} {l37 : Int64} (hI : FI n s g R F) (hR : same Rc R) (hZ : ones R Z) (h12 : i12.toInt = n) (h13 : i13.toInt = s) (h14 : i14.toInt = g) (h32 : 0 ≤ i32.toInt ∧ i32.toInt ≤ 9) (h34 : 0 ≤ i34.toInt ∧ i34.toInt ≤ 10) : Ok (fL_apart i12 i13 i14 Rc Fc i21 i22 i23 f27 f29 i32 i34 f35 f36 l37 i2) (fun z => CQ (0 ≤ i2.toInt ∧ i2.toInt ≤ 1) True (fun v => v = least n s g Z) z.1 z.2.2.2.2.2.2.2.2.2.2 ∧ (0 ≤ z.2.2.2.2.2.2.1.toInt ∧ z.2.2.2.2.2.2.1.toInt ≤ 9) ∧ (0 ≤ z.2.2.2.2.2.2.2.1.toInt ∧ z.2.2.2.2.2.2.2.1.toInt ≤ 10)) := by
  have n9 := hI.1
  have se := hI.2.1
  have t0 : (0 : Int32).toInt = 0 := rfl
  unfold fL_apart
  refine xc_of ?_
  unfold fX6_apart
  refine xb_need (needWithin_iv (lo := 0) (hi := 1) rfl rfl) (fun q => ?_) (fun q => ?_)
  · show Ok (if _ then _ else _) _
    rw [if_pos rfl]
    exact ⟨_, rfl, Or.inl ⟨q, rfl⟩, h32, h34⟩
  · refine Ok_bind (become2_iv f27 f29 Rc Fc) (fun z37 h37 => Ok_bind (narrow_iv h12 n9.2 hI.rm (h37.1.trans hR)) (fun z38 h38 => ?_))
    have e := ones_same h38 hZ
    have hm := hI.rm.toOnes h38
    refine Ok_if (fun _ => ?_) (fun _ => ?_)
    · refine Ok_bind (mostTrial_iv hm n9 se.1 se.2.1 se.2.2 h12 h13 h14 (by omega)) (fun z hz => ?_)
      exact ⟨_, rfl, ⟨_, rfl, Or.inr (Or.inr ⟨q, trivial, rfl, z.1, rfl, by rw [hz.1]; exact least_same n9.2 e⟩), hz.2.1, hz.2.2⟩⟩
    · refine Ok_bind (cleastRoom_iv n9.2 se.1 se.2.1 e (fun a b ha hb => by rw [← e a b ha hb]; have := (hm a b ha hb).1; omega) h12 h13 h14) (fun z hz => ?_)
      exact ⟨_, rfl, ⟨_, rfl, Or.inr (Or.inr ⟨q, trivial, rfl, z, rfl, hz⟩), h32, h34⟩⟩
theorem apartNow_iv {n s g : Nat} {R F Z : Nat → Int32} {i2 i5 i6 : Int32} (hI : FI n s g R F) (hZ : ones R Z) (h2 : i2.toInt = n) (h5 : i5.toInt = s) (h6 : i6.toInt = g) : Ok (fX8_apartNow i2 i5 i6 R) (fun z => z.toInt = least n s g Z) := by
  have n9 := hI.1
  have se := hI.2.1
  have t81 : (81 : Int32).toInt = 81 := rfl
  have t0 : (0 : Int32).toInt = 0 := rfl
  unfold fX8_apartNow
  refine lpQ (L := fun c f i => LX8_apartNow_L10 R c i f (fun (f34 : Nat → Int32) => (fX8_least i2 f34 i5 i6).bind (fun z35 => some z35))) (n := 81) (Q := fun k f => ∀ j, j < k → (f j).toInt = oneOf (R j).toInt) (fun c f i hi hf => ?_) (fun c f i k hk' hi hf rec => ?_) (by omega) (fun j hj => absurd hj (by omega))
  · show Ok (BX8_apartNow_L10 R i f (fun p q => LX8_apartNow_L10 R c p q (fun (f34 : Nat → Int32) => (fX8_least i2 f34 i5 i6).bind (fun z35 => some z35))) (fun (f34 : Nat → Int32) => (fX8_least i2 f34 i5 i6).bind (fun z35 => some z35))) _
    unfold BX8_apartNow_L10
    refine Ok_if (fun _ => ?_) (fun h => ?_)
    · have ho : ones R f := fun a b ha hb => hf (a * 9 + b) (by omega)
      have hm := hI.rm.toOnes ho
      refine Ok_bind (leastQ_iv n9.2 se.1 se.2.1 (fun a b ha hb => by have := (hm a b ha hb).1; omega) h2 h5 h6) (fun z hz => Ok_some ?_)
      rw [hz]
      exact least_same n9.2 (ones_same ho hZ)
    · have h := i32nle h
      omega
  · show Ok (BX8_apartNow_L10 R i f (fun p q => LX8_apartNow_L10 R c p q (fun (f34 : Nat → Int32) => (fX8_least i2 f34 i5 i6).bind (fun z35 => some z35))) (fun (f34 : Nat → Int32) => (fX8_least i2 f34 i5 i6).bind (fun z35 => some z35))) _
    unfold BX8_apartNow_L10
    have ei := inc_iv (x := i) (by omega)
    have en : i.toNatClampNeg = k := toNat_iv hi
    have vi : vp_in i 81 := vp_of (by omega) (by omega)
    have go : ∀ v : Int32, v.toInt = oneOf (R k).toInt → ∀ j, j < k + 1 → (upd f k v j).toInt = oneOf (R j).toInt := by
      intro v hv j hj
      unfold upd
      by_cases c : j = k
      · rw [if_pos c, c]; exact hv
      · rw [if_neg c]; exact hf j (by omega)
    refine Ok_if (fun h => ?_) (fun _ => Ok_inB vi (Ok_jn (fun kk wk => ?_)))
    · have h := i32le h
      omega
    · rw [wk, en]
      refine Ok_if (fun h => Ok_inB vi (rec _ _ (go 0 ?_) (by omega))) (fun h => Ok_inB vi (rec _ _ (go 1 ?_) (by omega)))
      · have h := i32le h
        unfold oneOf
        rw [if_neg (by omega)]
        rfl
      · have h := i32nle h
        unfold oneOf
        rw [if_pos (by omega)]
        rfl
theorem apart_iv {n s g : Nat} {R F Z : Nat → Int32} {i3 i6 i7 i2 : Int32} (hI : FI n s g R F) (hZ : ones R Z) (h3 : i3.toInt = n) (h6 : i6.toInt = s) (h7 : i7.toInt = g) : Ok (fX8_apart i3 i6 i7 R i2) (fun z => RQ (0 ≤ i2.toInt ∧ i2.toInt ≤ 1) True (fun v => v = least n s g Z) z.2 z.1) := by
  unfold fX8_apart
  refine fl_within (lo := 0) (hi := 1) rfl rfl (fun i hi => ?_)
  refine thrown1 hi (fun q => ⟨_, rfl, Or.inl ⟨q, rfl⟩⟩) (fun q => Ok_if (fun _ => ?_) (fun h => absurd rfl h))
  exact Ok_bind (apartNow_iv hI hZ h3 h6 h7) (fun z hz => Ok_some (Or.inr (Or.inr ⟨q, trivial, rfl, hz⟩)))
def onesOf (R : Nat → Int32) : Nat → Int32 := fun j => if 0 < (R j).toInt then 1 else 0
theorem ones_of (R : Nat → Int32) : ones R (onesOf R) := fun a b ha hb => by
  show (if 0 < (R (a * 9 + b)).toInt then (1 : Int32) else 0).toInt = if 0 < (R (a * 9 + b)).toInt then 1 else 0
  split <;> rfl
