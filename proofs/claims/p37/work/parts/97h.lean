/-! between, would, about, apart -/
/-! about: all ways turned round, the ends exchanged -/
theorem sumN_swap {f : Nat → Nat → Int} (m : Nat) : ∀ n, sumN n (fun a => sumN m (f a)) = sumN m (fun b => sumN n (fun a => f a b))
  | 0 => (sumN_zero m).symm
  | n + 1 => by
    have h := sumN_swap (f := f) m n
    have e := sumN_add (f := fun b => sumN n (fun a => f a b)) (g := f n) m
    show sumN n (fun a => sumN m (f a)) + sumN m (f n) = sumN m (fun b => sumN n (fun a => f a b) + f n b)
    rw [h, e]
theorem cap_flat {n : Nat} {R : Nat → Int32} {v : Int32} : cap n R v = sumN n (fun a => sumN n (fun b => if has v a = true ∧ ¬ has v b = true then G R a b else 0)) := by
  refine sumN_eq n (fun a ha => ?_)
  unfold capf
  by_cases w : has v a = true
  · rw [if_pos w]
    refine sumN_eq n (fun b hb => ?_)
    show (if has v b = true then 0 else G R a b) = _
    by_cases u : has v b = true
    · rw [if_pos u, if_neg (fun c => c.2 u)]
    · rw [if_neg u, if_pos ⟨w, u⟩]
  · rw [if_neg w, sumN_eq n (fun b _ => if_neg (fun c => w c.1)), sumN_zero]
theorem cap_turn {n : Nat} {R R' : Nat → Int32} {v v' : Int32} (hn : n ≤ 9) (ht : turned n R R') (hv : ∀ x, x < n → (has v' x = true ↔ ¬ has v x = true)) : cap n R' v' = cap n R v := by
  rw [cap_flat, cap_flat, sumN_swap]
  refine sumN_eq n (fun b hb => sumN_eq n (fun a ha => ?_))
  show (if has v' a = true ∧ ¬ has v' b = true then G R' a b else 0) = (if has v b = true ∧ ¬ has v a = true then G R b a else 0)
  have te : G R' a b = G R b a := by rw [ht a b (by omega) (by omega)]; exact if_pos ⟨ha, hb⟩
  rw [te]
  have x := hv a ha
  have y := hv b hb
  by_cases w : has v b = true ∧ ¬ has v a = true
  · rw [if_pos w, if_pos ⟨x.mpr w.2, fun q => (y.mp q) w.1⟩]
  · rw [if_neg w, if_neg (fun q => w ⟨Classical.byContradiction (fun z => q.2 (y.mpr z)), x.mp q.1⟩)]
theorem cut_ex {n s g : Nat} (hn : n ≤ 9) (hs : s < n) (hg : g < n) (hsg : s ≠ g) : ∃ k, k < 2 ^ n ∧ ctb s g (Int32.ofNat k) = true := by
  obtain ⟨k, k1, k2⟩ := mask hn (fun x => x = s)
  refine ⟨k, k1, ctb_iff.mpr ⟨(k2 s hs).mpr rfl, ?_⟩⟩
  cases q : has (Int32.ofNat k) g
  · rfl
  · exact absurd ((k2 g hg).mp q).symm hsg
theorem least_at {n s g : Nat} {R : Nat → Int32} (hn : n ≤ 9) (hs : s < n) (hg : g < n) (hsg : s ≠ g) (hsm : sm R) : ∃ k, k < 2 ^ n ∧ ctb s g (Int32.ofNat k) = true ∧ cap n R (Int32.ofNat k) = least n s g R := by
  have go : ∀ N, lsN n s g R N = 2147483647 ∨ ∃ k, k < N ∧ ctb s g (Int32.ofNat k) = true ∧ cap n R (Int32.ofNat k) = lsN n s g R N := by
    intro N
    induction N with
    | zero => exact Or.inl rfl
    | succ N ih =>
      rw [lsN_s]
      by_cases c : ctb s g (Int32.ofNat N) = true
      · rw [if_pos c]
        by_cases d : cap n R (Int32.ofNat N) < lsN n s g R N
        · rw [if_pos d]
          exact Or.inr ⟨N, by omega, c, rfl⟩
        · rw [if_neg d]
          rcases ih with ih | ⟨k, k1, k2, k3⟩
          · exact Or.inl ih
          · exact Or.inr ⟨k, by omega, k2, k3⟩
      · rw [if_neg c]
        rcases ih with ih | ⟨k, k1, k2, k3⟩
        · exact Or.inl ih
        · exact Or.inr ⟨k, by omega, k2, k3⟩
  rcases go (2 ^ n) with h | h
  · obtain ⟨k, k1, k2⟩ := cut_ex hn hs hg hsg
    have a := lsN_le (n := n) (s := s) (g := g) (R := R) (2 ^ n) k k1 k2
    have b := capk_b hsm hn (v := Int32.ofNat k) n hn
    have c : cap n R (Int32.ofNat k) = sumN n (capf n R (Int32.ofNat k)) := rfl
    omega
  · exact h
theorem least_turn {n s g : Nat} {R R' : Nat → Int32} (hn : n ≤ 9) (hs : s < n) (hg : g < n) (hsg : s ≠ g) (hsm : sm R) (ht : turned n R R') : least n g s R' = least n s g R := by
  have flip : ∀ k : Nat, ∃ k', k' < 2 ^ n ∧ ∀ x, x < n → (has (Int32.ofNat k') x = true ↔ ¬ has (Int32.ofNat k) x = true) := fun k => mask hn (fun x => ¬ has (Int32.ofNat k) x = true)
  obtain ⟨k, k1, k2, k3⟩ := least_at hn hs hg hsg hsm
  have lb : least n s g R ≤ 2147483647 := by
    have b := capk_b hsm hn (v := Int32.ofNat k) n hn
    have c : cap n R (Int32.ofNat k) = sumN n (capf n R (Int32.ofNat k)) := rfl
    omega
  have cb : ∀ (p q : Nat) (v v' : Int32), p < n → q < n → (∀ x, x < n → (has v' x = true ↔ ¬ has v x = true)) → ctb p q v = true → ctb q p v' = true := by
    intro p q v v' hp hq hv hc
    obtain ⟨c1, c2⟩ := ctb_iff.mp hc
    refine ctb_iff.mpr ⟨(hv q hq).mpr (by rw [c2]; decide), ?_⟩
    cases w : has v' p
    · rfl
    · exact absurd c1 ((hv p hp).mp w)
  refine least_is lb (fun j hj hc => ?_) ?_
  · obtain ⟨j', j1, j2⟩ := flip j
    have e : cap n R' (Int32.ofNat j) = cap n R (Int32.ofNat j') := cap_turn hn ht (fun x hx => ⟨fun a b => (j2 x hx).mp b a, fun a => Classical.byContradiction (fun b => a ((j2 x hx).mpr b))⟩)
    rw [e]
    exact lsN_le (2 ^ n) j' j1 (cb g s _ _ hg hs j2 hc)
  · obtain ⟨k', k4, k5⟩ := flip k
    exact ⟨k', k4, cb s g _ _ hs hg k5 k2, by rw [cap_turn hn ht k5]; exact k3⟩
theorem RM.turn {n : Nat} {R R' : Nat → Int32} (h : RM n R) (ht : turned n R R') : RM n R' := fun x y hx hy => by
  rw [ht x y hx hy]
  by_cases c : x < n ∧ y < n
  · rw [if_pos c]
    have := h y x hy hx
    exact ⟨this.1, fun w => this.2 (by omega)⟩
  · rw [if_neg c]
    exact h x y hx hy
theorem turned.ofsame2 {n : Nat} {R R' Z : Nat → Int32} (hn : n ≤ 9) (h : same R R') (ht : turned n R Z) : turned n R' Z := fun x y hx hy => by rw [ht x y hx hy, h x y hx hy, h y x hy hx]
theorem cabout_iv {n s g : Nat} {R F Rc Fc f25 f27 f33 f34 : Nat → Int32} {i10 i11 i12 i30 i32 : Int32} (hI : FI n s g R F) (hR : same Rc R) (h10 : i10.toInt = n) (h11 : i11.toInt = s) (h12 : i12.toInt = g) : Ok (fX6_about i10 i11 i12 Rc Fc f25 f27 i30 i32 f33 f34) (fun z => z.1.toInt = least n s g R ∧ (0 ≤ z.2.2.2.1.toInt ∧ z.2.2.2.1.toInt ≤ 9) ∧ (0 ≤ z.2.2.2.2.1.toInt ∧ z.2.2.2.2.1.toInt ≤ 10)) := by
  have n9 := hI.1
  have se := hI.2.1
  have t0 : (0 : Int32).toInt = 0 := rfl
  unfold fX6_about
  refine Ok_bind (become2_iv f25 f27 Rc Fc) (fun z35 h35 => ?_)
  unfold fX2_turn
  refine Ok_bind (R := fun z => turned n R z.1) (Ok_bind (cturn_iv h10 n9.2) (fun z11 h11' => Ok_bind (cturn_iv h10 n9.2) (fun z12 _ => Ok_some (h11'.ofsame2 n9.2 (h35.1.trans hR))))) (fun z36 h36 => ?_)
  refine Ok_bind (mostTrial_iv (hI.rm.turn h36) n9 se.2.1 se.1 (fun w => se.2.2 w.symm) h10 h12 h11 (by omega)) (fun z hz => Ok_some ⟨?_, hz.2.1, hz.2.2⟩)
  rw [← least_turn n9.2 se.1 se.2.1 se.2.2 hI.smR h36]
  exact hz.1
theorem about_iv {n s g : Nat} {R F : Nat → Int32} {i2 i5 i6 : Int32} (hI : FI n s g R F) (h2 : i2.toInt = n) (h5 : i5.toInt = s) (h6 : i6.toInt = g) : Ok (fX8_about i2 i5 i6 R) (fun z => z.toInt = least n s g R) := by
  unfold fX8_about
  exact Ok_bind (leastNow_iv hI.1.2 hI.2.1.1 hI.2.1.2.1 hI.smR h2 h5 h6) (fun z hz => Ok_some hz)
/-! apart: every room above 0 made 1 -/