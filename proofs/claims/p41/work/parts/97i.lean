/-! IS SOUND: always -/
theorem cisLet_iv {n s g : Nat} {R F Rc Fc : Nat → Int32} {i2 : Int32} (hI : FI n s g R F) (hR : same Rc R) (hF : same Fc F) (h2 : i2.toInt = n) : Ok (fX2_isFlowLet i2 Rc Fc) (fun z => z = 1) := by
  have n9 := hI.1
  have hIc : FI n s g Rc Fc := hI.ofsame hR hF
  have t0 : (0 : Int32).toInt = 0 := rfl
  unfold fX2_isFlowLet
  refine lpQ (L := fun c (_ : Unit) i => LX2_isFlowLet_L2 i2 Rc Fc c i) (n := n) (Q := fun _ _ => True) (a0 := ()) (fun c a i hi _ => ?_) (fun c a i k hk hi _ rec => ?_) (by omega) trivial
  · show Ok (BX2_isFlowLet_L2 i2 Rc Fc i (fun p => LX2_isFlowLet_L2 i2 Rc Fc c p)) _
    unfold BX2_isFlowLet_L2
    refine Ok_if (fun _ => Ok_some rfl) (fun h => ?_)
    have h := i32nle h
    omega
  · show Ok (BX2_isFlowLet_L2 i2 Rc Fc i (fun p => LX2_isFlowLet_L2 i2 Rc Fc c p)) _
    unfold BX2_isFlowLet_L2
    have ei := inc_iv (x := i) (by omega)
    refine Ok_if (fun h => ?_) (fun _ => ?_)
    · have h := i32le h
      omega
    · refine lpQ (L := fun d (_ : Unit) j => LX2_isFlowLet_L12 i2 Rc Fc i d j (fun (_ : Unit) => LX2_isFlowLet_L2 i2 Rc Fc c (i + (1 : Int32)))) (n := n) (Q := fun _ _ => True) (a0 := ()) (fun d a j hj _ => ?_) (fun d a j m hm hj _ rec2 => ?_) (by omega) trivial
      · show Ok (BX2_isFlowLet_L12 i2 Rc Fc i j (fun p => LX2_isFlowLet_L12 i2 Rc Fc i d p (fun (_ : Unit) => LX2_isFlowLet_L2 i2 Rc Fc c (i + (1 : Int32)))) (fun (_ : Unit) => LX2_isFlowLet_L2 i2 Rc Fc c (i + (1 : Int32)))) _
        unfold BX2_isFlowLet_L12
        refine Ok_if (fun _ => rec () _ trivial (by omega)) (fun h => ?_)
        have h := i32nle h
        omega
      · show Ok (BX2_isFlowLet_L12 i2 Rc Fc i j (fun p => LX2_isFlowLet_L12 i2 Rc Fc i d p (fun (_ : Unit) => LX2_isFlowLet_L2 i2 Rc Fc c (i + (1 : Int32)))) (fun (_ : Unit) => LX2_isFlowLet_L2 i2 Rc Fc c (i + (1 : Int32)))) _
        unfold BX2_isFlowLet_L12
        have ej := inc_iv (x := j) (by omega)
        have fl := hIc.2.2.2.1 k m (by omega) (by omega)
        have fb := (hIc.flow (a := m) (b := k) (by omega) (by omega)).1
        refine Ok_if (fun h => ?_) (fun _ => Ok_bind (cleft_iv hi hj (by omega) (by omega) hIc.smR hIc.smF) (fun z hz => Ok_if (fun h => ?_) (fun _ => Ok_bind (at_iv hi hj (by omega) (by omega)) (fun y hy => Ok_bind (at_iv hj hi (by omega) (by omega)) (fun x hx => Ok_if (fun _ => rec2 () _ trivial (by omega)) (fun q => absurd (Int32.toInt_inj.mp ?_) q))))))
        · have h := i32le h
          omega
        · have h := i32lt h
          unfold lf at hz
          omega
        · rw [neg_iv (by omega)]
          omega
theorem cisKept_iv {n s g : Nat} {R F Fc : Nat → Int32} {i2 i3 i4 : Int32} (hI : FI n s g R F) (hF : same Fc F) (h2 : i2.toInt = n) (h3 : i3.toInt = s) (h4 : i4.toInt = g) : Ok (fX2_isKept i2 i3 i4 Fc) (fun z => z = 1) := by
  have n9 := hI.1
  have hIc : FI n s g R Fc := hI.ofsame (same_refl R) hF
  have t0 : (0 : Int32).toInt = 0 := rfl
  unfold fX2_isKept
  refine lpQ (L := fun c (_ : Unit) i => LX2_isKept_L2 i2 i3 i4 Fc c i) (n := n) (Q := fun _ _ => True) (a0 := ()) (fun c a i hi _ => ?_) (fun c a i k hk hi _ rec => ?_) (by omega) trivial
  · show Ok (BX2_isKept_L2 i2 i3 i4 Fc i (fun p => LX2_isKept_L2 i2 i3 i4 Fc c p)) _
    unfold BX2_isKept_L2
    refine Ok_if (fun _ => Ok_some rfl) (fun h => ?_)
    have h := i32nle h
    omega
  · show Ok (BX2_isKept_L2 i2 i3 i4 Fc i (fun p => LX2_isKept_L2 i2 i3 i4 Fc c p)) _
    unfold BX2_isKept_L2
    have ei := inc_iv (x := i) (by omega)
    have go := rec () (i + (1 : Int32)) trivial (by omega)
    refine Ok_if (fun h => ?_) (fun _ => Ok_jn (fun kk wk => ?_))
    · have h := i32le h
      omega
    · rw [wk]
      refine Ok_if (fun _ => go) (fun e1 => Ok_if (fun _ => go) (fun e2 => Ok_bind (sumFrom_iv h2 hi n9.2 (by omega) hIc.smF) (fun z hz => Ok_if (fun _ => go) (fun q => absurd (Int32.toInt_inj.mp ?_) q))))
      have := hIc.2.2.2.2.1 k hk (fun w => e1 (Int32.toInt_inj.mp (by omega))) (fun w => e2 (Int32.toInt_inj.mp (by omega)))
      omega
theorem cletEach_iv {n s g : Nat} {R F Fc : Nat → Int32} {i3 i4 i5 i2 : Int32} (hI : FI n s g R F) (hF : same Fc F) (h3 : i3.toInt = n) (h4 : i4.toInt = s) (h5 : i5.toInt = g) (h2 : i2.toInt = outF n F s) : Ok (fX0_letEachThrough i3 i4 i5 Fc i2) (fun z => z = 1) := by
  have n9 := hI.1
  have se := hI.2.1
  have p := (pwN n (by omega)).2
  unfold fX0_letEachThrough
  refine Ok_bind (allP_iv h3 n9.2) (fun z10 hz => ?_)
  have hz := hz.1
  generalize (2 ^ n : Nat) = N at *
  refine lpQ (L := fun c (_ : Unit) i => LX0_letEachThrough_L7 i3 i4 i5 Fc i2 z10 c i) (n := N) (Q := fun _ _ => True) (a0 := ()) (fun c a i hi _ => ?_) (fun c a i k hk hi _ rec => ?_) (by omega) trivial
  · show Ok (BX0_letEachThrough_L7 i3 i4 i5 Fc i2 z10 i (fun p => LX0_letEachThrough_L7 i3 i4 i5 Fc i2 z10 c p)) _
    unfold BX0_letEachThrough_L7
    refine Ok_if (fun _ => Ok_some rfl) (fun h => ?_)
    have h := i32nlt h
    omega
  · show Ok (BX0_letEachThrough_L7 i3 i4 i5 Fc i2 z10 i (fun p => LX0_letEachThrough_L7 i3 i4 i5 Fc i2 z10 c p)) _
    unfold BX0_letEachThrough_L7
    have ei := inc_iv (x := i) (by omega)
    have go := rec () (i + (1 : Int32)) trivial (by omega)
    refine Ok_if (fun h => ?_) (fun _ => Ok_bind (cisCut_iv h4 (by omega) h5 (by omega)) (fun z hz2 => Ok_jn (fun kk wk => ?_)))
    · have h := i32lt h
      omega
    · rw [wk]
      refine Ok_if (fun _ => go) (fun e => Ok_bind (across_iv h3 n9.2 hF hI.smF) (fun y hy => Ok_if (fun _ => go) (fun q => absurd (Int32.toInt_inj.mp ?_) q)))
      rw [hy, h2]
      exact cap_flow hI.wf (bit1 hz2 e)
/-! the least cuts' bits: what lies in all of them, what lies in any of them -/
theorem cap_bits {n : Nat} {R : Nat → Int32} {v w : Int32} (h : ∀ x, x < n → has v x = has w x) : cap n R v = cap n R w := by
  refine sumN_eq n (fun a ha => ?_)
  unfold capf
  rw [h a ha]
  split
  · refine sumN_eq n (fun b hb => ?_)
    show (if has v b = true then 0 else G R a b) = (if has w b = true then 0 else G R a b)
    rw [h b hb]
  · rfl
theorem ctb_bits {n s g : Nat} {v w : Int32} (hs : s < n) (hg : g < n) (h : ∀ x, x < n → has v x = has w x) : ctb s g v = ctb s g w := by
  unfold ctb
  rw [h s hs, h g hg]
theorem least_any {n s g : Nat} {R : Nat → Int32} {v : Int32} (hn : n ≤ 9) (hs : s < n) (hg : g < n) (hc : ctb s g v = true) : least n s g R ≤ cap n R v := by
  obtain ⟨k, k1, k2⟩ := mask hn (fun x => has v x = true)
  have e : ∀ x, x < n → has (Int32.ofNat k) x = has v x := fun x hx => Bool.eq_iff_iff.mpr (k2 x hx)
  rw [← cap_bits e]
  exact lsN_le (2 ^ n) k k1 (by rw [ctb_bits hs hg e]; exact hc)
theorem submod {n : Nat} {R : Nat → Int32} {v w : Int32} (hn : n ≤ 9) (hR : ∀ a b, a < 9 → b < 9 → 0 ≤ G R a b) : cap n R (v &&& w) + cap n R (v ||| w) ≤ cap n R v + cap n R w := by
  rw [cap_flat, cap_flat, cap_flat, cap_flat, ← sumN_add, ← sumN_add]
  refine sumN_le n (fun a ha => ?_)
  rw [← sumN_add, ← sumN_add]
  refine sumN_le n (fun b hb => ?_)
  have q := hR a b (by omega) (by omega)
  show (if has (v &&& w) a = true ∧ ¬ has (v &&& w) b = true then G R a b else 0) + (if has (v ||| w) a = true ∧ ¬ has (v ||| w) b = true then G R a b else 0) ≤ (if has v a = true ∧ ¬ has v b = true then G R a b else 0) + (if has w a = true ∧ ¬ has w b = true then G R a b else 0)
  rw [has_and, has_and, has_or, has_or]
  cases has v a <;> cases has v b <;> cases has w a <;> cases has w b <;> simp <;> omega
theorem isL_iff {n s g : Nat} {R : Nat → Int32} {m : Int} {v : Int32} : isL n s g R m v = true ↔ (ctb s g v = true ∧ cap n R v = m) := by
  unfold isL
  rw [Bool.and_eq_true, decide_eq_true_iff]
theorem isL_meet {n s g : Nat} {R : Nat → Int32} {v w : Int32} (hn : n ≤ 9) (hs : s < n) (hg : g < n) (hR : ∀ a b, a < 9 → b < 9 → 0 ≤ G R a b) (hv : isL n s g R (least n s g R) v = true) (hw : isL n s g R (least n s g R) w = true) : isL n s g R (least n s g R) (v &&& w) = true ∧ isL n s g R (least n s g R) (v ||| w) = true := by
  obtain ⟨v1, v2⟩ := isL_iff.mp hv
  obtain ⟨w1, w2⟩ := isL_iff.mp hw
  have v3 := ctb_iff.mp v1
  have w3 := ctb_iff.mp w1
  have c1 : ctb s g (v &&& w) = true := ctb_iff.mpr ⟨by rw [has_and, v3.1, w3.1]; rfl, by rw [has_and, v3.2]; rfl⟩
  have c2 : ctb s g (v ||| w) = true := ctb_iff.mpr ⟨by rw [has_or, v3.1]; rfl, by rw [has_or, v3.2, w3.2]; rfl⟩
  have a := least_any (R := R) hn hs hg c1
  have b := least_any (R := R) hn hs hg c2
  have c := submod (v := v) (w := w) hn hR
  exact ⟨isL_iff.mpr ⟨c1, by omega⟩, isL_iff.mpr ⟨c2, by omega⟩⟩
theorem isL_bits {n s g : Nat} {R : Nat → Int32} {m : Int} {v w : Int32} (hs : s < n) (hg : g < n) (h : ∀ x, x < n → has v x = has w x) : isL n s g R m v = isL n s g R m w := by
  unfold isL
  rw [ctb_bits hs hg h, cap_bits h]
theorem end_is {n s g : Nat} {R : Nat → Int32} {w : Bool} {a0 : Int32} (hn : n ≤ 9) (hs : s < n) (hg : g < n) (hR : ∀ a b, a < 9 → b < 9 → 0 ≤ G R a b) (h0 : ∀ x, x < n → has a0 x = w) : ∀ N, (∀ x, x < n → has (endN n s g R (least n s g R) w a0 N) x = w) ∧ (∀ k, k < N → ¬ isL n s g R (least n s g R) (Int32.ofNat k) = true) ∨ isL n s g R (least n s g R) (endN n s g R (least n s g R) w a0 N) = true
  | 0 => Or.inl ⟨h0, fun k hk => absurd hk (by omega)⟩
  | N + 1 => by
    rw [endN_s]
    have ih := end_is hn hs hg hR h0 N
    by_cases c : isL n s g R (least n s g R) (Int32.ofNat N) = true
    · rw [if_pos c]
      refine Or.inr ?_
      rcases ih with ⟨h1, -⟩ | h1
      · cases w
        · rw [if_neg (by decide), isL_bits hs hg (w := Int32.ofNat N) (fun x hx => by rw [has_or, h1 x hx]; rfl)]
          exact c
        · rw [if_pos rfl, isL_bits hs hg (w := Int32.ofNat N) (fun x hx => by rw [has_and, h1 x hx]; rfl)]
          exact c
      · have m := isL_meet hn hs hg hR h1 c
        cases w
        · rw [if_neg (by decide)]; exact m.2
        · rw [if_pos rfl]; exact m.1
    · rw [if_neg c]
      rcases ih with ⟨h1, h2⟩ | h1
      · refine Or.inl ⟨h1, fun k hk => ?_⟩
        by_cases d : k = N
        · rw [d]; exact c
        · exact h2 k (by omega)
      · exact Or.inr h1
theorem all_has : ∀ n, n < 10 → ∀ x, x < n → has (((1 : Int32) <<< (Int32.ofNat n &&& 31)) - (1 : Int32)) x = true := by decide +kernel
theorem end_least {n s g : Nat} {R F : Nat → Int32} {i2 : Int32} (hI : FI n s g R F) : isL n s g R (least n s g R) (A_end n s g R i2) = true := by
  have n9 := hI.1
  have se := hI.2.1
  have hR : ∀ a b, a < 9 → b < 9 → 0 ≤ G R a b := fun a b ha hb => (hI.2.2.1 a b ha hb).1.1
  obtain ⟨k, k1, k2, k3⟩ := least_at n9.2 se.1 se.2.1 se.2.2 hI.smR
  have kl : isL n s g R (least n s g R) (Int32.ofNat k) = true := isL_iff.mpr ⟨k2, k3⟩
  unfold A_end
  split
  · rcases end_is (w := true) (a0 := ((1 : Int32) <<< (Int32.ofNat n &&& 31)) - (1 : Int32)) n9.2 se.1 se.2.1 hR (all_has n (by omega)) (2 ^ n) with h | h
    · exact absurd kl (h.2 k k1)
    · exact h
  · rcases end_is (w := false) (a0 := 0) n9.2 se.1 se.2.1 hR (fun x _ => has_0 x) (2 ^ n) with h | h
    · exact absurd kl (h.2 k k1)
    · exact h
theorem cisEnd_iv {n s g : Nat} {R F Rc : Nat → Int32} {i4 i5 i6 i3 v w : Int32} (hI : FI n s g R F) (hR : same Rc R) (h4 : i4.toInt = n) (h5 : i5.toInt = s) (h6 : i6.toInt = g) (h3 : i3.toInt = least n s g R) (hv : v = A_end n s g R w) : Ok (fX0_isLeastCut i4 i5 i6 Rc v i3) (fun z => z = 1) :=
  Ok_mono (cisLeast_iv hI.1.2 hI.2.1.1 hI.2.1.2.1 hR hI.smR h4 h5 h6 h3) (fun z hz => by rw [hz, hv, end_least hI, if_pos rfl])
theorem cnear_iv {n s g : Nat} {R F Rc : Nat → Int32} {i2 i3 i4 : Int32} (hI : FI n s g R F) (hR : same Rc R) (h2 : i2.toInt = n) (h3 : i3.toInt = s) (h4 : i4.toInt = g) : Ok (fX0_nearest i2 i3 i4 Rc) (fun z => z = A_end n s g R 0) := by
  obtain ⟨z, e, h⟩ := cend_iv (i2 := 0) hI hR h2 h3 h4
  unfold fX6_end at e
  rw [if_pos rfl] at e
  cases q : fX0_nearest i2 i3 i4 Rc with
  | none => rw [q] at e; exact absurd e (by simp)
  | some y =>
    rw [q] at e
    have e : some y = some z := e
    exact ⟨y, rfl, by rw [Option.some.inj e]; exact h⟩
theorem cfar_iv {n s g : Nat} {R F Rc : Nat → Int32} {i2 i3 i4 : Int32} (hI : FI n s g R F) (hR : same Rc R) (h2 : i2.toInt = n) (h3 : i3.toInt = s) (h4 : i4.toInt = g) : Ok (fX0_farthest i2 i3 i4 Rc) (fun z => z = A_end n s g R 1) := by
  obtain ⟨z, e, h⟩ := cend_iv (i2 := 1) hI hR h2 h3 h4
  unfold fX6_end at e
  rw [if_neg one_ne] at e
  cases q : fX0_farthest i2 i3 i4 Rc with
  | none => rw [q] at e; exact absurd e (by simp)
  | some y =>
    rw [q] at e
    have e : some y = some z := e
    exact ⟨y, rfl, by rw [Option.some.inj e]; exact h⟩
theorem ccutsSound_iv {n s g : Nat} {R F Rc Fc : Nat → Int32} {i11 i12 i13 i2 : Int32} (hI : FI n s g R F) (hR : same Rc R) (hF : same Fc F) (h11 : i11.toInt = n) (h12 : i12.toInt = s) (h13 : i13.toInt = g) (h2 : i2.toInt = least n s g R) : Ok (fX6_areCutsSound i11 i12 i13 Rc Fc i2) (fun z => z = 1) := by
  have n9 := hI.1
  have se := hI.2.1
  have hIc : FI n s g R Fc := hI.ofsame (same_refl R) hF
  unfold fX6_areCutsSound
  refine Ok_bind (cvalue_iv h11 h12 n9.2 (by omega) hIc.smF) (fun z20 h20 => Ok_bind (cletEach_iv hI hF h11 h12 h13 (by rw [h20]; exact outF_same hF n9.2 se.1)) (fun z21 h21 => ?_))
  subst h21
  refine Ok_if (fun h => absurd h one_ne) (fun _ => Ok_bind (cnear_iv hI hR h11 h12 h13) (fun z22 h22 => Ok_bind (cisEnd_iv hI hR h11 h12 h13 h2 h22) (fun z23 h23 => ?_)))
  subst h23
  refine Ok_if (fun h => absurd h one_ne) (fun _ => Ok_bind (cfar_iv hI hR h11 h12 h13) (fun z24 h24 => Ok_bind (cisEnd_iv hI hR h11 h12 h13 h2 h24) (fun z25 h25 => ?_)))
  subst h25
  exact Ok_if (fun h => absurd h one_ne) (fun _ => Ok_some rfl)
theorem sumN_lt {f g : Nat → Int} {x : Nat} : ∀ k, (∀ b, b < k → f b ≤ g b) → x < k → f x < g x → sumN k f < sumN k g
  | 0, _, h, _ => absurd h (by omega)
  | k + 1, h, hx, hf => by
    have h1 := sumN_le k (fun b hb => h b (by omega))
    have h2 := h k (by omega)
    show sumN k f + f k < sumN k g + g k
    by_cases c : x = k
    · subst c
      omega
    · have := sumN_lt k (fun b hb => h b (by omega)) (by omega) hf
      omega
theorem sum2_lt {f g : Nat → Nat → Int} {n x y : Nat} (h : ∀ a b, a < n → b < n → f a b ≤ g a b) (hx : x < n) (hy : y < n) (hxy : f x y < g x y) : sumN n (fun a => sumN n (f a)) < sumN n (fun a => sumN n (g a)) :=
  sumN_lt n (fun a ha => sumN_le n (fun b hb => h a b ha hb)) hx (sumN_lt n (fun b hb => h x b hx hb) hy hxy)
/-! the value is the most exactly where no track is left -/
theorem value_le {n s g : Nat} {R F : Nat → Int32} (hI : FI n s g R F) : outF n F s ≤ least n s g R := by
  obtain ⟨k, k1, k2, k3⟩ := least_at hI.1.2 hI.2.1.1 hI.2.1.2.1 hI.2.1.2.2 hI.smR
  have a := cap_flow hI.wf k2
  have b := cap_mono hI.wf (Int32.ofNat k)
  omega
theorem value_most {n s g : Nat} {R F : Nat → Int32} (hI : FI n s g R F) : outF n F s = least n s g R ↔ ¬ tracks n s g R F := by
  refine ⟨fun e ht => ?_, fun h => (mfmc hI.wf (by have := hI.value; omega) h).symm⟩
  -- along a track the flow grows, and is a flow again
  obtain ⟨k, hk⟩ := ht
  obtain ⟨k', k1, k2, k3⟩ := least_at hI.1.2 hI.2.1.1 hI.2.1.2.1 hI.2.1.2.2 hI.smR
  have a := cap_flow hI.wf k2
  have n9 := hI.1
  obtain ⟨c1, c2⟩ := ctb_iff.mp k2
  -- no edge leaves a least cut that the flow fills
  have full : ∀ x y, x < n → y < n → has (Int32.ofNat k') x = true → ¬ has (Int32.ofNat k') y = true → ¬ ed R F x y := by
    intro x y hx hy h1 h2 h3
    have lt : cap n F (Int32.ofNat k') < cap n R (Int32.ofNat k') := by
      rw [cap_flat, cap_flat]
      exact sum2_lt (f := fun a b => if has (Int32.ofNat k') a = true ∧ ¬ has (Int32.ofNat k') b = true then G F a b else 0) (g := fun a b => if has (Int32.ofNat k') a = true ∧ ¬ has (Int32.ofNat k') b = true then G R a b else 0) (fun a b ha hb => by
        show (if has (Int32.ofNat k') a = true ∧ ¬ has (Int32.ofNat k') b = true then G F a b else 0) ≤ (if has (Int32.ofNat k') a = true ∧ ¬ has (Int32.ofNat k') b = true then G R a b else 0)
        have := (hI.2.2.2.1 a b (by omega) (by omega)).2
        split <;> omega) hx hy (by
        show (if has (Int32.ofNat k') x = true ∧ ¬ has (Int32.ofNat k') y = true then G F x y else 0) < (if has (Int32.ofNat k') x = true ∧ ¬ has (Int32.ofNat k') y = true then G R x y else 0)
        rw [if_pos ⟨h1, h2⟩, if_pos ⟨h1, h2⟩]
        have h3 : 0 < G R x y - G F x y := h3
        omega)
    omega
  have stay : ∀ j x, Cm n (ed R F) nowhere g j x → x < n → ¬ has (Int32.ofNat k') x = true := by
    intro j
    induction j with
    | zero =>
      intro x hx _
      have hx : x = g := hx
      rw [hx, c2]
      decide
    | succ j ih =>
      intro x hx hxn
      rcases hx with hx | ⟨_, _, y, y1, y2, y3⟩
      · exact ih x hx hxn
      · exact fun q => full x y hxn y1 q (ih y y3 y1) y2
  exact stay k s hk hI.2.1.1 c1
/-! the ways make up the value -/
theorem ways_sum {n s g : Nat} {R : Nat → Int32} : ∀ (l : List (Int × Int × List Nat)) (F : Nat → Int32), FI n s g R F → prts n s g l F → cntP 2 l = outF n F s
  | [], F, _, h => h.1.symm
  | q :: l, F, hI, h => by
    obtain ⟨F1, w, M, b, hP, -, hc, h2⟩ := h
    have k := hP.keeps hI hc
    have ih := ways_sum l F1 k.1 h2
    have hw := hP.way01
    show ptv 2 q.1 q.2.1 + cntP 2 l = _
    unfold ptv
    rw [if_pos rfl, ih, k.2]
    rcases hw with e | e <;> rw [e]
    · rw [if_neg (by decide)]; omega
    · rw [if_pos rfl]; omega
