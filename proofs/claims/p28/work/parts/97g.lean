/-! WHAT CAN FLOW AT THE MOST: cuts and flows -/
theorem sumN_le {f g : Nat → Int} : ∀ k, (∀ b, b < k → f b ≤ g b) → sumN k f ≤ sumN k g
  | 0, _ => Int.le_refl _
  | k + 1, h => by
    have h1 := sumN_le k (fun b hb => h b (by omega))
    have h2 := h k (by omega)
    show sumN k f + f k ≤ sumN k g + g k
    omega
def WF (n s g : Nat) (R F : Nat → Int32) : Prop := n ≤ 9 ∧ (s < n ∧ g < n ∧ s ≠ g) ∧ (∀ a b, a < 9 → b < 9 → G F a b = -G F b a ∧ G F a b ≤ G R a b) ∧ (∀ a, a < n → a ≠ s → a ≠ g → outF n F a = 0)
theorem FI.wf {n s g : Nat} {R F : Nat → Int32} (h : FI n s g R F) : WF n s g R F := ⟨h.1.2, h.2.1, h.2.2.2.1, h.2.2.2.2.1⟩
theorem FJ.wf {n s g : Nat} {R F : Nat → Int32} (h : FJ n s g R F) : WF n s g R F := ⟨h.1.2, h.2.1, h.2.2.2.1, h.2.2.2.2.1⟩
theorem ctb_iff {s g : Nat} {v : Int32} : ctb s g v = true ↔ (has v s = true ∧ has v g = false) := by
  unfold ctb
  cases has v s <;> cases has v g <;> decide
theorem cap_flow {n s g : Nat} {R F : Nat → Int32} {v : Int32} (h : WF n s g R F) (hc : ctb s g v = true) : cap n F v = outF n F s := by
  obtain ⟨c1, c2⟩ := ctb_iff.mp hc
  have n9 := h.1
  have e1 : sumN n (fun a => if has v a = true then outF n F a else 0) = outF n F s := by
    have t := sumN_one (f := fun _ => 0) (g := fun a => if has v a = true then outF n F a else 0) (c := s) (d := outF n F s) n (fun a ha => by
      show (if has v a = true then outF n F a else 0) = 0 + (if a = s then outF n F s else 0)
      by_cases q : a = s
      · subst q
        rw [if_pos c1, if_pos rfl]
        omega
      · rw [if_neg q]
        by_cases w : has v a = true
        · rw [if_pos w]
          by_cases u : a = g
          · subst u
            rw [c2] at w
            exact absurd w (by decide)
          · have := h.2.2.2 a ha q u
            omega
        · rw [if_neg w]
          rfl)
    rw [t, sumN_zero, if_pos h.2.1.1]
    omega
  have e2 : sumN n (fun a => sumN n (fun b => if has v a = true then (if has v b = true then G F a b else 0) else 0)) = 0 := sum_anti (f := fun a b => if has v a = true then (if has v b = true then G F a b else 0) else 0) n (fun a b ha hb => by
    show (if has v a = true then (if has v b = true then G F a b else 0) else 0) = -(if has v b = true then (if has v a = true then G F b a else 0) else 0)
    have x := (h.2.2.1 a b (by omega) (by omega)).1
    by_cases w : has v a = true
    · by_cases u : has v b = true
      · rw [if_pos w, if_pos u, if_pos u, if_pos w]; exact x
      · rw [if_pos w, if_neg u, if_neg u]; rfl
    · by_cases u : has v b = true
      · rw [if_neg w, if_pos u, if_neg w]; rfl
      · rw [if_neg w, if_neg u]; rfl)
  have e3 : sumN n (fun a => if has v a = true then outF n F a else 0) = cap n F v + sumN n (fun a => sumN n (fun b => if has v a = true then (if has v b = true then G F a b else 0) else 0)) := by
    refine (sumN_eq n (fun a ha => ?_)).trans (sumN_add (f := capf n F v) (g := fun a => sumN n (fun b => if has v a = true then (if has v b = true then G F a b else 0) else 0)) n)
    show (if has v a = true then outF n F a else 0) = (if has v a = true then rowc n F v a else 0) + sumN n (fun b => if has v a = true then (if has v b = true then G F a b else 0) else 0)
    by_cases w : has v a = true
    · rw [if_pos w, if_pos w]
      refine (sumN_eq n (fun b hb => ?_)).trans (sumN_add (f := fun b => if has v b = true then 0 else G F a b) (g := fun b => if has v a = true then (if has v b = true then G F a b else 0) else 0) n)
      show G F a b = (if has v b = true then 0 else G F a b) + (if has v a = true then (if has v b = true then G F a b else 0) else 0)
      rw [if_pos w]
      split <;> omega
    · rw [if_neg w, if_neg w, sumN_eq n (fun b _ => if_neg w), sumN_zero]
      rfl
  omega
theorem cap_mono {n s g : Nat} {R F : Nat → Int32} (h : WF n s g R F) (v : Int32) : cap n F v ≤ cap n R v := by
  have n9 := h.1
  refine sumN_le n (fun a ha => ?_)
  unfold capf
  split
  · refine sumN_le n (fun b hb => ?_)
    show (if has v b = true then 0 else G F a b) ≤ (if has v b = true then 0 else G R a b)
    split
    · omega
    · exact (h.2.2.1 a b (by omega) (by omega)).2
  · omega
theorem cap_full {n s g : Nat} {R F : Nat → Int32} {v : Int32} (h : WF n s g R F) (hno : ∀ a b, a < n → b < n → has v a = true → ¬ has v b = true → ¬ ed R F a b) : cap n F v = cap n R v := by
  have n9 := h.1
  refine sumN_eq n (fun a ha => ?_)
  unfold capf
  by_cases w : has v a = true
  · rw [if_pos w, if_pos w]
    refine sumN_eq n (fun b hb => ?_)
    show (if has v b = true then 0 else G F a b) = (if has v b = true then 0 else G R a b)
    by_cases u : has v b = true
    · rw [if_pos u, if_pos u]
    · rw [if_neg u, if_neg u]
      have x := (h.2.2.1 a b (by omega) (by omega)).2
      have y : ¬ 0 < G R a b - G F a b := hno a b ha hb w u
      omega
  · rw [if_neg w, if_neg w]
theorem has_nat {k x : Nat} (hx : x < 32) : has (Int32.ofNat k) x = k.testBit x := by
  show (BitVec.ofNat 32 k).getLsbD x = _
  rw [BitVec.getLsbD_ofNat, decide_eq_true hx, Bool.true_and]
theorem mask_ex (S : Nat → Prop) : ∀ n, ∃ k : Nat, k < 2 ^ n ∧ ∀ x, k.testBit x = true ↔ (x < n ∧ S x)
  | 0 => ⟨0, by decide, fun x => by rw [Nat.zero_testBit]; exact ⟨fun h => absurd h (by decide), fun h => absurd h.1 (by omega)⟩⟩
  | n + 1 => by
    obtain ⟨k, k1, k2⟩ := mask_ex S n
    by_cases c : S n
    · refine ⟨k ||| 2 ^ n, Nat.or_lt_two_pow (Nat.lt_of_lt_of_le k1 (Nat.pow_le_pow_right (by omega) (by omega))) (Nat.pow_lt_pow_right (by omega) (by omega)), fun x => ?_⟩
      rw [Nat.testBit_or, Bool.or_eq_true, k2, Nat.testBit_two_pow, decide_eq_true_iff]
      refine ⟨fun q => ?_, fun q => ?_⟩
      · rcases q with q | q
        · exact ⟨by omega, q.2⟩
        · subst q
          exact ⟨by omega, c⟩
      · by_cases w : n = x
        · exact Or.inr w
        · exact Or.inl ⟨by omega, q.2⟩
    · refine ⟨k, Nat.lt_of_lt_of_le k1 (Nat.pow_le_pow_right (by omega) (by omega)), fun x => ?_⟩
      rw [k2]
      refine ⟨fun q => ⟨by omega, q.2⟩, fun q => ⟨?_, q.2⟩⟩
      by_cases w : n = x
      · subst w
        exact absurd q.2 c
      · omega
theorem mask {n : Nat} (hn : n ≤ 9) (S : Nat → Prop) : ∃ k : Nat, k < 2 ^ n ∧ ∀ x, x < n → (has (Int32.ofNat k) x = true ↔ S x) := by
  obtain ⟨k, k1, k2⟩ := mask_ex S n
  exact ⟨k, k1, fun x hx => by rw [has_nat (by omega), k2]; exact ⟨fun q => q.2, fun q => ⟨hx, q⟩⟩⟩
theorem lsN_le {n s g : Nat} {R : Nat → Int32} : ∀ N k, k < N → ctb s g (Int32.ofNat k) = true → lsN n s g R N ≤ cap n R (Int32.ofNat k)
  | 0, _, h, _ => absurd h (by omega)
  | N + 1, k, h, hc => by
    rw [lsN_s]
    by_cases w : k = N
    · subst w
      rw [if_pos hc]
      split <;> omega
    · have ih := lsN_le (n := n) (s := s) (g := g) (R := R) N k (by omega) hc
      split
      · split <;> omega
      · exact ih
theorem lsN_ge {n s g : Nat} {R : Nat → Int32} {V : Int} (hV : V ≤ 2147483647) : ∀ N, (∀ k, k < N → ctb s g (Int32.ofNat k) = true → V ≤ cap n R (Int32.ofNat k)) → V ≤ lsN n s g R N
  | 0, _ => hV
  | N + 1, h => by
    rw [lsN_s]
    have ih := lsN_ge (n := n) (s := s) (g := g) (R := R) hV N (fun k hk => h k (by omega))
    by_cases c : ctb s g (Int32.ofNat N) = true
    · rw [if_pos c]
      have := h N (by omega) c
      split <;> omega
    · rw [if_neg c]
      exact ih
theorem least_is {n s g : Nat} {R : Nat → Int32} {V : Int} (hV : V ≤ 2147483647) (h1 : ∀ k, k < 2 ^ n → ctb s g (Int32.ofNat k) = true → V ≤ cap n R (Int32.ofNat k)) (h2 : ∃ k, k < 2 ^ n ∧ ctb s g (Int32.ofNat k) = true ∧ cap n R (Int32.ofNat k) = V) : least n s g R = V := by
  obtain ⟨k, k1, k2, k3⟩ := h2
  have a := lsN_le (n := n) (s := s) (g := g) (R := R) (2 ^ n) k k1 k2
  have b := lsN_ge (n := n) (s := s) (g := g) (R := R) hV (2 ^ n) h1
  unfold least
  omega
def reach (n : Nat) (R F : Nat → Int32) (s x : Nat) : Prop := ∃ k, Cm n (ed R F) nowhere x k s
theorem mfmc {n s g : Nat} {R F : Nat → Int32} (h : WF n s g R F) (hV : outF n F s ≤ 2147483647) (hno : ¬ tracks n s g R F) : least n s g R = outF n F s := by
  have n9 := h.1
  refine least_is hV (fun k _ hc => ?_) ?_
  · have a := cap_flow h hc
    have b := cap_mono h (Int32.ofNat k)
    omega
  · obtain ⟨k, k1, k2⟩ := mask n9 (reach n R F s)
    have hs : has (Int32.ofNat k) s = true := (k2 s h.2.1.1).mpr ⟨0, rfl⟩
    have hg : has (Int32.ofNat k) g = false := by
      cases q : has (Int32.ofNat k) g
      · rfl
      · exact absurd ((k2 g h.2.1.2.1).mp q) hno
    have hc : ctb s g (Int32.ofNat k) = true := ctb_iff.mpr ⟨hs, hg⟩
    refine ⟨k, k1, hc, ?_⟩
    rw [← cap_full h (fun a b ha hb q1 q2 q3 => ?_), cap_flow h hc]
    obtain ⟨d, hd⟩ := (k2 a ha).mp q1
    exact q2 ((k2 b hb).mpr ⟨d + 1, Cm.snoc hb ha q3 d s hd⟩)
theorem filled_end {n s g : Nat} {R : Nat → Int32} {rule : Int} : ∀ (c : Nat) (F F' : Nat → Int32), FJ n s g R F → filled n s g R rule c F F' → FJ n s g R F' ∧ ¬ tracks n s g R F'
  | 0, F, F', h, hf => by
    obtain ⟨e, q⟩ := hf
    subst e
    exact ⟨h, q⟩
  | c + 1, F, F', h, hf => by
    obtain ⟨F1, m, h1, h2⟩ := hf
    exact filled_end c F1 F' (h.ofstep h1).1 h2
def RM (n : Nat) (R : Nat → Int32) : Prop := ∀ a b, a < 9 → b < 9 → (0 ≤ G R a b ∧ G R a b ≤ 51) ∧ (a = b ∨ n ≤ a ∨ n ≤ b → G R a b = 0)
theorem FI.rm {n s g : Nat} {R F : Nat → Int32} (h : FI n s g R F) : RM n R := fun a b ha hb => by
  have := h.2.2.1 a b ha hb
  exact ⟨by omega, this.2⟩
theorem RM.ofsame {n : Nat} {R R' : Nat → Int32} (h : RM n R) (hR : same R' R) : RM n R' := fun a b ha hb => by rw [hR a b ha hb]; exact h a b ha hb
theorem RM.still {n s g : Nat} {R F : Nat → Int32} (h : RM n R) (hn : 2 ≤ n ∧ n ≤ 9) (hs : s < n) (hg : g < n) (hsg : s ≠ g) (hF : zero F) : FJ n s g R F :=
  ⟨hn, ⟨hs, hg, hsg⟩, h, fun a b ha hb => by rw [hF a b ha hb, hF b a hb ha]; have := (h a b ha hb).1; omega, fun a ha _ _ => outF_zero hF hn.2 ha, by rw [outF_zero hF hn.2 hs]; omega⟩
theorem mostTrial_iv {n s g : Nat} {R f19 f25 f26 : Nat → Int32} {i11 i12 i13 i22 i24 i2 : Int32} (hR : RM n R) (hn : 2 ≤ n ∧ n ≤ 9) (hs : s < n) (hg : g < n) (hsg : s ≠ g) (h11 : i11.toInt = n) (h12 : i12.toInt = s) (h13 : i13.toInt = g) (h2 : 0 ≤ i2.toInt ∧ i2.toInt ≤ 2) : Ok (fX6_mostOfTrial i11 i12 i13 R f19 i22 i24 f25 f26 i2) (fun z => z.1.toInt = least n s g R ∧ (0 ≤ z.2.2.1.toInt ∧ z.2.2.1.toInt ≤ 9) ∧ (0 ≤ z.2.2.2.1.toInt ∧ z.2.2.2.1.toInt ≤ 10)) := by
  unfold fX6_mostOfTrial
  refine Ok_bind (clear_iv f19) (fun z27 h27 => ?_)
  have hJ := hR.still hn hs hg hsg h27
  refine Ok_bind (jfill_iv hJ h11 h12 h13 h2) (fun z28 h28 => ?_)
  obtain ⟨a1, a2, j, a3, -⟩ := h28
  obtain ⟨b1, b2⟩ := filled_end j z27 _ hJ a3
  refine Ok_bind (cvalue_iv h11 h12 hn.2 (by omega) b1.smF) (fun z29 h29 => Ok_some ⟨?_, a1, a2⟩)
  rw [mfmc b1.wf (by have := b1.value; omega) b2]
  exact h29
theorem capf_same {n : Nat} {R R' : Nat → Int32} (hn : n ≤ 9) (h : same R R') (v : Int32) : cap n R v = cap n R' v := by
  refine sumN_eq n (fun a ha => ?_)
  unfold capf
  split
  · refine sumN_eq n (fun b hb => ?_)
    show (if has v b = true then 0 else G R a b) = (if has v b = true then 0 else G R' a b)
    rw [h a b (by omega) (by omega)]
  · rfl
theorem lsN_same {n s g : Nat} {R R' : Nat → Int32} (hn : n ≤ 9) (h : same R R') : ∀ N, lsN n s g R N = lsN n s g R' N
  | 0 => rfl
  | N + 1 => by rw [lsN_s, lsN_s, lsN_same hn h N, capf_same hn h]
theorem least_same {n s g : Nat} {R R' : Nat → Int32} (hn : n ≤ 9) (h : same R R') : least n s g R = least n s g R' := lsN_same hn h _
/-! most, isMost -/
theorem cmost_iv {n s g : Nat} {R F Rc Fc f27 f29 f35 f36 : Nat → Int32} {i12 i13 i14 i32 i34 i2 : Int32} (hI : FI n s g R F) (hR : same Rc R) (h12 : i12.toInt = n) (h13 : i13.toInt = s) (h14 : i14.toInt = g) : Ok (fX6_most i12 i13 i14 Rc Fc f27 f29 i32 i34 f35 f36 i2) (fun z => (¬ (0 ≤ i2.toInt ∧ i2.toInt ≤ 2) ∧ z = .inl IAE) ∨ ((0 ≤ i2.toInt ∧ i2.toInt ≤ 2) ∧ ∃ y, z = .inr y ∧ y.1.toInt = least n s g R ∧ (0 ≤ y.2.2.2.1.toInt ∧ y.2.2.2.1.toInt ≤ 9) ∧ (0 ≤ y.2.2.2.2.1.toInt ∧ y.2.2.2.2.1.toInt ≤ 10))) := by
  unfold fX6_most
  refine xb_need (needWithin_iv (lo := 0) (hi := 2) rfl rfl) (fun q => Or.inl ⟨q, rfl⟩) (fun q => Ok_bind (become2_iv f27 f29 Rc Fc) (fun z37 h37 => ?_))
  have e := h37.1.trans hR
  refine Ok_bind (mostTrial_iv (hI.rm.ofsame e) hI.1 hI.2.1.1 hI.2.1.2.1 hI.2.1.2.2 h12 h13 h14 q) (fun z hz => Ok_some (Or.inr ⟨q, _, rfl, ?_, hz.2.1, hz.2.2⟩))
  rw [hz.1]
  exact least_same hI.1.2 e
theorem cisMost_iv {n s g : Nat} {R F Rc Fc f27 f29 f35 f36 : Nat → Int32} {i12 i13 i14 i32 i34 : Int32} (hI : FI n s g R F) (hR : same Rc R) (hF : same Fc F) (h12 : i12.toInt = n) (h13 : i13.toInt = s) (h14 : i14.toInt = g) : Ok (fX6_isMost i12 i13 i14 Rc Fc f27 f29 i32 i34 f35 f36) (fun z => z.1 = (if outF n F s = least n s g R then 1 else 0) ∧ (0 ≤ z.2.2.2.1.toInt ∧ z.2.2.2.1.toInt ≤ 9) ∧ (0 ≤ z.2.2.2.2.1.toInt ∧ z.2.2.2.2.1.toInt ≤ 10)) := by
  have n9 := hI.1
  have se := hI.2.1
  have hIc : FI n s g R Fc := hI.ofsame (same_refl R) hF
  have t0 : (0 : Int32).toInt = 0 := rfl
  unfold fX6_isMost
  refine Ok_bind (cvalue_iv h12 h13 n9.2 (by omega) hIc.smF) (fun z35 h35 => ?_)
  rw [outF_same hF n9.2 se.1] at h35
  obtain ⟨z, e, hz⟩ := cmost_iv (i2 := 0) (Fc := Fc) (f27 := f27) (f29 := f29) (i32 := i32) (i34 := i34) (f35 := f35) (f36 := f36) hI hR h12 h13 h14
  rw [e]
  rcases hz with ⟨q, rfl⟩ | ⟨q, y, rfl, y1, y2, y3⟩
  · exact absurd ⟨by omega, by omega⟩ q
  · show Ok (if _ then _ else _) _
    refine Ok_if (fun d => ?_) (fun d => ?_)
    · exact ⟨_, rfl, by rw [if_pos (by rw [← h35, d, y1])], y2, y3⟩
    · exact ⟨_, rfl, by rw [if_neg (fun w => d (Int32.toInt_inj.mp (by rw [h35, w, y1])))], y2, y3⟩
theorem isMost_iv {n s g : Nat} {R F : Nat → Int32} {i2 i5 i6 : Int32} (hI : FI n s g R F) (h2 : i2.toInt = n) (h5 : i5.toInt = s) (h6 : i6.toInt = g) : Ok (fX8_isMost i2 i5 i6 R F) (fun z => z = if outF n F s = least n s g R then 1 else 0) := by
  unfold fX8_isMost
  refine Ok_bind (hI.valueNow h2 h5 hI.2.1.1) (fun z13 h13 => Ok_bind (leastNow_iv hI.1.2 hI.2.1.1 hI.2.1.2.1 hI.smR h2 h5 h6) (fun z14 h14 => Ok_if (fun d => ?_) (fun d => ?_)))
  · exact Ok_some (by rw [if_pos (by rw [← h13, d, h14])])
  · exact Ok_some (by rw [if_neg (fun w => d (Int32.toInt_inj.mp (by rw [h13, w, h14])))])
