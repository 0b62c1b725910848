/-! THE REFERENCE'S ACTS, sharply: sent, round, steps, parts -/
theorem sumN_split {f : Nat → Int} (m : Nat) : ∀ k, sumN (m + k) f = sumN m f + sumN k (fun b => f (m + b))
  | 0 => by show sumN m f = sumN m f + 0; omega
  | k + 1 => by
    have h := sumN_split (f := f) m k
    show sumN (m + k) f + f (m + k) = sumN m f + (sumN k (fun b => f (m + b)) + f (m + k))
    omega
theorem sumN_rows {f : Nat → Int} : ∀ a, sumN (a * 9) f = sumN a (fun x => sumN 9 (fun b => f (x * 9 + b)))
  | 0 => rfl
  | a + 1 => by
    have h := sumN_rows (f := f) a
    have e : (a + 1) * 9 = a * 9 + 9 := by omega
    rw [e, sumN_split, h]
    rfl
theorem sumN_tail {f : Nat → Int} {n : Nat} : ∀ k, (∀ b, n ≤ b → b < n + k → f b = 0) → sumN (n + k) f = sumN n f
  | 0, _ => rfl
  | k + 1, h => by
    have a := sumN_tail (f := f) (n := n) k (fun b h1 h2 => h b h1 (by omega))
    have b := h (n + k) (by omega) (by omega)
    show sumN (n + k) f + f (n + k) = sumN n f
    omega
def cpos (n : Nat) (F : Nat → Int32) : Int := sumN n (fun a => sumN n (fun b => if 0 < G F a b then 1 else 0))
theorem cpos_81 {n : Nat} {F : Nat → Int32} (hn : n ≤ 9) (h0 : ∀ a b, a < 9 → b < 9 → (n ≤ a ∨ n ≤ b) → G F a b = 0) : sumN 81 (fun j => if 0 < (F j).toInt then 1 else 0) = cpos n F := by
  have e := sumN_rows (f := fun j => if 0 < (F j).toInt then 1 else 0) 9
  rw [show (9 : Nat) * 9 = 81 from rfl] at e
  rw [e]
  unfold cpos
  have r : ∀ a, a < 9 → sumN 9 (fun b => if 0 < (F (a * 9 + b)).toInt then 1 else 0) = sumN n (fun b => if 0 < G F a b then (1 : Int) else 0) := by
    intro a ha
    have t := sumN_tail (f := fun b => if 0 < G F a b then (1 : Int) else 0) (n := n) (9 - n) (fun b h1 h2 => by rw [if_neg]; rw [h0 a b ha (by omega) (Or.inr h1)]; omega)
    rw [show n + (9 - n) = 9 by omega] at t
    exact t
  rw [sumN_eq 9 (fun a ha => r a ha)]
  have t := sumN_tail (f := fun a => sumN n (fun b => if 0 < G F a b then (1 : Int) else 0)) (n := n) (9 - n) (fun a h1 h2 => by
    rw [sumN_eq n (fun b hb => if_neg (by rw [h0 a b (by omega) (by omega) (Or.inl h1)]; omega))]
    exact sumN_zero n)
  rw [show n + (9 - n) = 9 by omega] at t
  exact t
theorem ind_bd {F : Nat → Int32} : ∀ k, 0 ≤ sumN k (fun j => if 0 < (F j).toInt then (1 : Int) else 0) ∧ sumN k (fun j => if 0 < (F j).toInt then (1 : Int) else 0) ≤ k
  | 0 => ⟨Int.le_refl _, Int.le_refl _⟩
  | k + 1 => by
    have := ind_bd (F := F) k
    have e : sumN (k + 1) (fun j => if 0 < (F j).toInt then (1 : Int) else 0) = sumN k (fun j => if 0 < (F j).toInt then (1 : Int) else 0) + (if 0 < (F k).toInt then 1 else 0) := rfl
    rw [e]
    split <;> omega
theorem flowing_loop {F : Nat → Int32} : ∀ (r c : Nat) (i30 i31 : Int32) (k : Nat), k + r = 81 → r < c → i31.toInt = k → i30.toInt = sumN k (fun j => if 0 < (F j).toInt then 1 else 0) → Ok (LX8_flowing_L13 F c i30 i31) (fun z => z.toInt = sumN 81 (fun j => if 0 < (F j).toInt then 1 else 0)) := by
  intro r
  have t81 : (81 : Int32).toInt = 81 := rfl
  have t0 : (0 : Int32).toInt = 0 := rfl
  induction r with
  | zero =>
    intro c i30 i31 k hk hc h31 h30
    cases c with
    | zero => omega
    | succ c =>
      show Ok (BX8_flowing_L13 F i30 i31 (fun a b => LX8_flowing_L13 F c a b)) _
      unfold BX8_flowing_L13
      have e : k = 81 := by omega
      subst e
      refine Ok_if (fun _ => Ok_some h30) (fun h => ?_)
      have h := i32nle h
      omega
  | succ r ih =>
    intro c i30 i31 k hk hc h31 h30
    cases c with
    | zero => omega
    | succ c =>
      show Ok (BX8_flowing_L13 F i30 i31 (fun a b => LX8_flowing_L13 F c a b)) _
      unfold BX8_flowing_L13
      have ei := inc_iv (x := i31) (by omega)
      have bd := ind_bd (F := F) k
      refine Ok_if (fun h => ?_) (fun _ => Ok_inB (vp_of (by omega) (by omega)) (Ok_nm (fun i32_ w32 => Ok_jn (fun k33 w33 => ?_))))
      · have h := i32le h
        omega
      · rw [toNat_iv h31] at w32
        have go : ∀ i35 : Int32, i35.toInt = (if 0 < (F k).toInt then 1 else 0) → Ok (k33 i35) (fun z => z.toInt = sumN 81 (fun j => if 0 < (F j).toInt then 1 else 0)) := by
          intro i35 h35
          have b35 : 0 ≤ i35.toInt ∧ i35.toInt ≤ 1 := by
            rw [h35]
            split <;> omega
          rw [w33]
          refine Ok_nm (fun i36 w36 => ih c i36 (i31 + 1) (k + 1) (by omega) (by omega) (by omega) ?_)
          rw [w36, add_iv (by omega) (by omega), h30, h35]
          rfl
        rw [w32]
        refine Ok_if (fun h => ?_) (fun h => ?_)
        · have h := i32le h
          exact go 0 (by rw [if_neg (by omega)]; rfl)
        · have h := i32nle h
          exact go 1 (by rw [if_pos (by omega)]; rfl)
theorem FI.out0 {n s g : Nat} {R F : Nat → Int32} (h : FI n s g R F) : ∀ a b, a < 9 → b < 9 → (n ≤ a ∨ n ≤ b) → G F a b = 0 := fun a b ha hb q => (h.flow ha hb).2 (Or.inr q)
theorem FI.outR {n s g : Nat} {R F : Nat → Int32} (h : FI n s g R F) : ∀ a b, a < 9 → b < 9 → (n ≤ a ∨ n ≤ b) → G R a b = 0 := fun a b ha hb q => (h.2.2.1 a b ha hb).2 (Or.inr q)
theorem flowing_iv {n s g : Nat} {R F : Nat → Int32} (hI : FI n s g R F) : Ok (fX8_flowing F) (fun z => z.toInt = cpos n F) := by
  unfold fX8_flowing
  exact Ok_mono (flowing_loop 81 600 0 0 0 (by omega) (by omega) rfl rfl) (fun z hz => by rw [hz, cpos_81 hI.1.2 hI.out0])
theorem flowOn_more {F0 F : Nat → Int32} {t : Nat → Nat} {m : Int} {k K : Nat} {i2 i3 i4 : Int32} (hC : carried F0 F t m k) (hd : dis t K) (hk : k < K) (h2 : i2.toInt = t k) (h3 : i3.toInt = t (k + 1)) (h4 : i4.toInt = m) (ha : t k < 9) (hb : t (k + 1) < 9) (hm : 0 ≤ m ∧ m ≤ 200) (hF : ∀ a b, a < 9 → b < 9 → -100 ≤ G F0 a b ∧ G F0 a b ≤ 100) : Ok (fX8_flowOn F i2 i3 i4) (fun z => carried F0 z t m (k + 1)) := by
  have hne : t k ≠ t (k + 1) := fun e => (hd k k hk hk).2 ⟨e, e.symm⟩
  refine Ok_mono (flowOn_iv h2 h3 h4 ha hb hne (by omega) (fun x y hx hy => ?_)) (fun z hz x y hx hy => ?_)
  · have k1 := hF x y hx hy
    have k2 := hC x y hx hy
    rcases mvs3 hd m x y k (by omega) with ⟨i, -, -, -, i4⟩ | ⟨i, -, -, -, i4⟩ | ⟨i4, -⟩ <;> omega
  · rw [hz.1 x y hx hy, hC x y hx hy]
    show _ = G F0 x y + (mvs t m x y k + (if x = t k ∧ y = t (k + 1) then m else 0) - (if x = t (k + 1) ∧ y = t k then m else 0))
    omega
theorem carried0 (F : Nat → Int32) (t : Nat → Nat) (m : Int) : carried F F t m 0 := fun x y _ _ => (Int.add_zero _).symm
theorem FI.f100 {n s g : Nat} {R F : Nat → Int32} (h : FI n s g R F) : ∀ a b, a < 9 → b < 9 → -100 ≤ G F a b ∧ G F a b ≤ 100 := fun a b ha hb => by have := (h.flow ha hb).1; omega
/-! send -/
def sendT (s g o : Nat) : Nat → Nat := fun i => if i = 0 then s else if i = 1 then (if o = s ∨ o = g then g else o) else g
def sendK (s g o : Nat) : Nat := if o = s ∨ o = g then 1 else 2
def lets (R F : Nat → Int32) (t : Nat → Nat) (K : Nat) (m : Int) : Prop := ∀ i, i < K → m ≤ lf R F (t i) (t (i + 1))
theorem sendT_dis {s g o : Nat} (h : s ≠ g) : dis (sendT s g o) (sendK s g o) := by
  intro i j hi hj
  unfold sendK at hi hj
  unfold sendT
  by_cases c : o = s ∨ o = g
  · rw [if_pos c] at hi hj
    have e1 : i = 0 := by omega
    have e2 : j = 0 := by omega
    subst e1
    subst e2
    exact ⟨fun _ => rfl, fun q => h (by have := q.1; simpa [c] using this)⟩
  · rw [if_neg c] at hi hj
    have c1 : o ≠ s := fun q => c (Or.inl q)
    have c2 : o ≠ g := fun q => c (Or.inr q)
    rcases (show i = 0 ∨ i = 1 by omega) with e1 | e1 <;> rcases (show j = 0 ∨ j = 1 by omega) with e2 | e2 <;> subst e1 <;> subst e2 <;> simp only [if_neg c] <;> refine ⟨fun q => ?_, fun q => ?_⟩ <;> simp at q ⊢ <;> omega
theorem sendT_lt {n s g o : Nat} (hs : s < n) (hg : g < n) (ho : o < n) (i : Nat) : sendT s g o i < n := by
  unfold sendT
  split
  · exact hs
  · split
    · split
      · exact hg
      · exact ho
    · exact hg
theorem sendT_K (s g o : Nat) : sendT s g o (sendK s g o) = g := by
  unfold sendT sendK
  by_cases c : o = s ∨ o = g
  · rw [if_pos c, if_neg (by omega), if_pos rfl, if_pos c]
  · rw [if_neg c, if_neg (by omega), if_neg (by omega)]
def A_send (n s g : Nat) (R F : Nat → Int32) (i9 i10 i2 i3 : Int32) (z : Int32 × Int32 × Int32 × Int32 × (Nat → Int32)) : Prop :=
  (¬ pl n i2 ∧ z = (0, i9, i10, 1, F)) ∨ (pl n i2 ∧ ¬ rm i3 ∧ z = (0, i9, i10, 2, F)) ∨
  (pl n i2 ∧ rm i3 ∧ ¬ lets R F (sendT s g (tn i2)) (sendK s g (tn i2)) i3.toInt ∧ z = (-9, i9, i10 + 1, 0, F)) ∨
  (pl n i2 ∧ rm i3 ∧ lets R F (sendT s g (tn i2)) (sendK s g (tn i2)) i3.toInt ∧ z.1.toInt = outF n z.2.2.2.2 s ∧ z.2.1 = i9 + 1 ∧ z.2.2.1 = i10 ∧ z.2.2.2.1 = 0 ∧ carried F z.2.2.2.2 (sendT s g (tn i2)) i3.toInt (sendK s g (tn i2)))
theorem FI.ofsend {n s g o : Nat} {R F F' : Nat → Int32} {m : Int} (h : FI n s g R F) (ho : o < n) (hm : 0 ≤ m) (hl : lets R F (sendT s g o) (sendK s g o) m) (hc : carried F F' (sendT s g o) m (sendK s g o)) : FI n s g R F' := (h.way hc (sendT_dis h.2.1.2.2) (fun i _ => sendT_lt h.2.1.1 h.2.1.2.1 ho i) rfl (sendT_K s g o) (by have := h.2.2.2.2.2; omega) (Or.inl ⟨hm, hl⟩)).1
theorem send_iv {n s g : Nat} {R F : Nat → Int32} {i4 i7 i8 i9 i10 i2 i3 : Int32} (hI : FI n s g R F) (h4 : i4.toInt = n) (h7 : i7.toInt = s) (h8 : i8.toInt = g) : Ok (fX8_send i4 i7 i8 i9 i10 R F i2 i3) (A_send n s g R F i9 i10 i2 i3) := by
  unfold fX8_send
  have n9 := hI.1
  have se := hI.2.1
  refine fl_of (pl_iv h4) (fun i hi => fl_of rm_iv (fun j hj => thrown2 hi hj (fun q => ⟨_, rfl, Or.inl ⟨q, rfl⟩⟩) (fun q p => ⟨_, rfl, Or.inr (Or.inl ⟨q, p, rfl⟩)⟩) (fun q p => Ok_if (fun _ => ?_) (fun h => absurd rfl h))))
  obtain ⟨e2, l2⟩ := q.eq
  have p1 := p.1
  have p2 := p.2
  have hd := sendT_dis (s := s) (g := g) (o := tn i2) se.2.2
  have hlt := sendT_lt (n := n) (o := tn i2) se.1 se.2.1 l2
  refine Ok_jn (fun k24 w24 => ?_)
  have fin : ∀ (k29 : Unit → Option (Int32 × Int32 × Int32 × Int32 × (Nat → Int32))), (k29 = fun (_ : Unit) => (fX8_no i10).bind (fun z44 => some ((-9 : Int32), i9, z44, (0 : Int32), F))) → ¬ lets R F (sendT s g (tn i2)) (sendK s g (tn i2)) i3.toInt → Ok (k29 ()) (A_send n s g R F i9 i10 i2 i3) := by
    intro k29 w29 h
    rw [w29]
    exact ⟨_, rfl, Or.inr (Or.inr (Or.inl ⟨q, p, h, rfl⟩))⟩
  have endd : ∀ f41 : Nat → Int32, lets R F (sendT s g (tn i2)) (sendK s g (tn i2)) i3.toInt → carried F f41 (sendT s g (tn i2)) i3.toInt (sendK s g (tn i2)) → Ok ((fX8_valueNow i4 i7 f41).bind (fun z42 => (fX8_did i9 z42).bind (fun z43 => some (z43.1, z43.2, i10, (0 : Int32), f41)))) (A_send n s g R F i9 i10 i2 i3) := by
    intro f41 hl hc
    have I2 := hI.ofsend l2 p1 hl hc
    refine Ok_bind (I2.valueNow h4 h7 se.1) (fun z42 h42 => ?_)
    exact ⟨_, rfl, Or.inr (Or.inr (Or.inr ⟨q, p, hl, h42, rfl, rfl, rfl, hc⟩))⟩
  have t0 : (0 : Int32).toInt = 0 := rfl
  have once : (tn i2 = s ∨ tn i2 = g) → Ok (k24 1) (A_send n s g R F i9 i10 i2 i3) := by
    intro c
    have eK : sendK s g (tn i2) = 1 := by unfold sendK; rw [if_pos c]
    have e1 : sendT s g (tn i2) 1 = g := by unfold sendT; rw [if_neg (by omega), if_pos rfl, if_pos c]
    rw [w24]
    refine Ok_jn (fun k29 w29 => Ok_jn (fun k31 w31 => Ok_if (fun h => absurd h one_ne) (fun _ => ?_)))
    refine Ok_bind (left_iv h7 h8 (by omega) (by omega) hI.smR hI.smF) (fun z35 h35 => Ok_if (fun h => ?_) (fun h => ?_))
    · have h := i32le h
      have hl : lets R F (sendT s g (tn i2)) (sendK s g (tn i2)) i3.toInt := by
        rw [eK]
        intro i hi
        have : i = 0 := by omega
        subst this
        show i3.toInt ≤ lf R F s (sendT s g (tn i2) 1)
        rw [e1]; omega
      rw [w31]
      refine Ok_jn (fun k36 w36 => Ok_if (fun h => absurd h one_ne) (fun _ => ?_))
      refine Ok_bind (flowOn_more (k := 0) (carried0 F (sendT s g (tn i2)) i3.toInt) hd (by rw [eK]; omega) h7 (by rw [show (0 : Nat) + 1 = 1 from rfl, e1]; exact h8) rfl (by have := hlt 0; omega) (by have := hlt (0 + 1); omega) (by omega) hI.f100) (fun z40 h40 => ?_)
      rw [w36]
      exact endd z40 hl (by rw [eK]; exact h40)
    · have h := i32nle h
      refine fin k29 w29 (fun hl => ?_)
      have := hl 0 (by rw [eK]; omega)
      have this : i3.toInt ≤ lf R F s (sendT s g (tn i2) 1) := this
      rw [e1] at this
      omega
  refine Ok_jn (fun k26 w26 => ?_)
  have one : (tn i2 = s ∨ tn i2 = g) → Ok (k26 ()) (A_send n s g R F i9 i10 i2 i3) := fun c => by rw [w26]; exact once c
  refine Ok_if (fun h => one (Or.inl (by have := i32eq h; omega))) (fun hns => Ok_if (fun h => one (Or.inr (by have := i32eq h; omega))) (fun hng => ?_))
  have c1 : tn i2 ≠ s := fun e => hns (Int32.toInt_inj.mp (by omega))
  have c2 : tn i2 ≠ g := fun e => hng (Int32.toInt_inj.mp (by omega))
  have c : ¬ (tn i2 = s ∨ tn i2 = g) := fun e => e.elim c1 c2
  have eK : sendK s g (tn i2) = 2 := by unfold sendK; rw [if_neg c]
  have e1 : sendT s g (tn i2) 1 = tn i2 := by unfold sendT; rw [if_neg (by omega), if_pos rfl, if_neg c]
  have e22 : sendT s g (tn i2) 2 = g := by unfold sendT; rw [if_neg (by omega), if_neg (by omega)]
  rw [w24]
  refine Ok_jn (fun k29 w29 => Ok_jn (fun k31 w31 => Ok_if (fun _ => ?_) (fun h => absurd rfl h)))
  refine Ok_bind (left_iv h7 e2 (by omega) (by omega) hI.smR hI.smF) (fun z33 h33 => Ok_if (fun h => ?_) (fun h => ?_))
  · have h := i32lt h
    refine fin k29 w29 (fun hl => ?_)
    have := hl 0 (by rw [eK]; omega)
    have this : i3.toInt ≤ lf R F s (sendT s g (tn i2) 1) := this
    rw [e1] at this
    omega
  · have h := i32nlt h
    refine Ok_bind (left_iv e2 h8 (by omega) (by omega) hI.smR hI.smF) (fun z34 h34 => Ok_if (fun h' => ?_) (fun h' => ?_))
    · have h' := i32le h'
      have hl : lets R F (sendT s g (tn i2)) (sendK s g (tn i2)) i3.toInt := by
        rw [eK]
        intro i hi
        rcases (show i = 0 ∨ i = 1 by omega) with e | e
        · subst e
          show i3.toInt ≤ lf R F s (sendT s g (tn i2) 1)
          rw [e1]; omega
        · subst e
          show i3.toInt ≤ lf R F (sendT s g (tn i2) 1) (sendT s g (tn i2) 2)
          rw [e1, e22]; omega
      rw [w31]
      refine Ok_jn (fun k36 w36 => Ok_if (fun _ => ?_) (fun h => absurd rfl h))
      refine Ok_bind (flowOn_more (k := 0) (carried0 F (sendT s g (tn i2)) i3.toInt) hd (by rw [eK]; omega) h7 (by rw [show (0 : Nat) + 1 = 1 from rfl, e1]; exact e2) rfl (by have := hlt 0; omega) (by have := hlt (0 + 1); omega) (by omega) hI.f100) (fun z38 h38 => ?_)
      refine Ok_bind (flowOn_more (k := 0 + 1) h38 hd (by rw [eK]; omega) (by rw [show (0 : Nat) + 1 = 1 from rfl, e1]; exact e2) (by rw [show (0 : Nat) + 1 + 1 = 2 from rfl, e22]; exact h8) rfl (by have := hlt (0 + 1); omega) (by have := hlt (0 + 1 + 1); omega) (by omega) hI.f100) (fun z39 h39 => ?_)
      rw [w36]
      exact endd z39 hl (by rw [eK]; exact h39)
    · have h' := i32nle h'
      refine fin k29 w29 (fun hl => ?_)
      have := hl 1 (by rw [eK]; omega)
      have this : i3.toInt ≤ lf R F (sendT s g (tn i2) 1) (sendT s g (tn i2) 2) := this
      rw [e1, e22] at this
      omega
/-! round -/
def ringT (a b c : Nat) : Nat → Nat := fun i => if i = 1 then b else if i = 2 then c else a
theorem ringT_dis {a b c : Nat} (h1 : a ≠ b) (h2 : a ≠ c) (h3 : b ≠ c) : dis (ringT a b c) 3 := by
  intro i j hi hj
  unfold ringT
  rcases (show i = 0 ∨ i = 1 ∨ i = 2 by omega) with e1 | e1 | e1 <;> rcases (show j = 0 ∨ j = 1 ∨ j = 2 by omega) with e2 | e2 | e2 <;> subst e1 <;> subst e2 <;> refine ⟨fun q => ?_, fun q => ?_⟩ <;> simp at q ⊢ <;> omega
def rcond (i2 i3 i4 i5 : Int32) : Prop := ¬ i2 = i3 ∧ ¬ i2 = i4 ∧ ¬ i3 = i4 ∧ rm i5
def A_round (n : Nat) (R F : Nat → Int32) (i11 i12 i2 i3 i4 i5 : Int32) (z : Int32 × Int32 × Int32 × Int32 × (Nat → Int32)) : Prop :=
  (¬ (pl n i2 ∧ pl n i3 ∧ pl n i4) ∧ z = (0, i11, i12, 1, F)) ∨ ((pl n i2 ∧ pl n i3 ∧ pl n i4) ∧ ¬ rcond i2 i3 i4 i5 ∧ z = (0, i11, i12, 2, F)) ∨
  ((pl n i2 ∧ pl n i3 ∧ pl n i4) ∧ rcond i2 i3 i4 i5 ∧ ¬ lets R F (ringT (tn i2) (tn i3) (tn i4)) 3 i5.toInt ∧ z = (-9, i11, i12 + 1, 0, F)) ∨
  ((pl n i2 ∧ pl n i3 ∧ pl n i4) ∧ rcond i2 i3 i4 i5 ∧ lets R F (ringT (tn i2) (tn i3) (tn i4)) 3 i5.toInt ∧ z.1.toInt = cpos n z.2.2.2.2 ∧ z.2.1 = i11 + 1 ∧ z.2.2.1 = i12 ∧ z.2.2.2.1 = 0 ∧ carried F z.2.2.2.2 (ringT (tn i2) (tn i3) (tn i4)) i5.toInt 3)
theorem FI.ofring {n s g a b c : Nat} {R F F' : Nat → Int32} {m : Int} (h : FI n s g R F) (ha : a < n) (hb : b < n) (hc : c < n) (h1 : a ≠ b) (h2 : a ≠ c) (h3 : b ≠ c) (hm : 0 ≤ m) (hl : lets R F (ringT a b c) 3 m) (hC : carried F F' (ringT a b c) m 3) : FI n s g R F' := (h.ring hC (ringT_dis h1 h2 h3) (fun i _ => by
  unfold ringT
  split
  · exact hb
  · split
    · exact hc
    · exact ha) rfl (Or.inl ⟨hm, hl⟩)).1
theorem round_iv {n s g : Nat} {R F : Nat → Int32} {i6 i11 i12 i2 i3 i4 i5 : Int32} (hI : FI n s g R F) (h6 : i6.toInt = n) : Ok (fX8_round i6 i11 i12 R F i2 i3 i4 i5) (A_round n R F i11 i12 i2 i3 i4 i5) := by
  unfold fX8_round
  have n9 := hI.1
  refine fl_ppp h6 (fun i hi => Ok_jn (fun k25 w25 => ?_))
  have go : ∀ j, flag (rcond i2 i3 i4 i5) j → Ok (k25 j) (A_round n R F i11 i12 i2 i3 i4 i5) := by
    intro j hj
    rw [w25]
    refine thrown2 hi hj (fun q => ⟨_, rfl, Or.inl ⟨q, rfl⟩⟩) (fun q p => ⟨_, rfl, Or.inr (Or.inl ⟨q, p, rfl⟩)⟩) (fun q p => Ok_if (fun _ => ?_) (fun h => absurd rfl h))
    obtain ⟨e2, l2⟩ := q.1.eq
    obtain ⟨e3, l3⟩ := q.2.1.eq
    obtain ⟨e4, l4⟩ := q.2.2.eq
    have a1 : tn i2 ≠ tn i3 := fun e => p.1 (Int32.toInt_inj.mp (by omega))
    have a2 : tn i2 ≠ tn i4 := fun e => p.2.1 (Int32.toInt_inj.mp (by omega))
    have a3 : tn i3 ≠ tn i4 := fun e => p.2.2.1 (Int32.toInt_inj.mp (by omega))
    have p1 := p.2.2.2.1
    have p2 := p.2.2.2.2
    have hd := ringT_dis a1 a2 a3
    refine Ok_bind (left_iv e2 e3 (by omega) (by omega) hI.smR hI.smF) (fun z32 h32 => Ok_jn (fun k33 w33 => ?_))
    have no : ¬ lets R F (ringT (tn i2) (tn i3) (tn i4)) 3 i5.toInt → Ok (k33 ()) (A_round n R F i11 i12 i2 i3 i4 i5) := fun h => by
      rw [w33]
      exact ⟨_, rfl, Or.inr (Or.inr (Or.inl ⟨q, p, h, rfl⟩))⟩
    refine Ok_if (fun h => ?_) (fun h => Ok_bind (left_iv e3 e4 (by omega) (by omega) hI.smR hI.smF) (fun z35 h35 => Ok_if (fun h' => ?_) (fun h' => Ok_bind (left_iv e4 e2 (by omega) (by omega) hI.smR hI.smF) (fun z36 h36 => Ok_if (fun h2 => ?_) (fun h2 => ?_)))))
    · have h := i32lt h
      exact no (fun hl => by have : i5.toInt ≤ lf R F (tn i2) (tn i3) := hl 0 (by omega); omega)
    · have h' := i32lt h'
      exact no (fun hl => by have : i5.toInt ≤ lf R F (tn i3) (tn i4) := hl 1 (by omega); omega)
    · have h := i32nlt h
      have h' := i32nlt h'
      have h2 := i32le h2
      have hl : lets R F (ringT (tn i2) (tn i3) (tn i4)) 3 i5.toInt := fun i hi => by
        rcases (show i = 0 ∨ i = 1 ∨ i = 2 by omega) with e | e | e <;> subst e
        · show i5.toInt ≤ lf R F (tn i2) (tn i3); omega
        · show i5.toInt ≤ lf R F (tn i3) (tn i4); omega
        · show i5.toInt ≤ lf R F (tn i4) (tn i2); omega
      refine Ok_bind (flowOn_more (k := 0) (carried0 F (ringT (tn i2) (tn i3) (tn i4)) i5.toInt) hd (by omega) e2 e3 rfl (show tn i2 < 9 by omega) (show tn i3 < 9 by omega) (by omega) hI.f100) (fun z37 h37 => ?_)
      refine Ok_bind (flowOn_more (k := 0 + 1) h37 hd (by omega) e3 e4 rfl (show tn i3 < 9 by omega) (show tn i4 < 9 by omega) (by omega) hI.f100) (fun z38 h38 => ?_)
      refine Ok_bind (flowOn_more (k := 0 + 1 + 1) h38 hd (by omega) e4 e2 rfl (show tn i4 < 9 by omega) (show tn i2 < 9 by omega) (by omega) hI.f100) (fun z39 h39 => ?_)
      have I2 := hI.ofring l2 l3 l4 a1 a2 a3 p1 hl h39
      refine Ok_bind (flowing_iv I2) (fun z40 h40 => ?_)
      exact ⟨_, rfl, Or.inr (Or.inr (Or.inr ⟨q, p, hl, h40, rfl, rfl, rfl, h39⟩))⟩
    · have h2 := i32nle h2
      exact no (fun hl => by have : i5.toInt ≤ lf R F (tn i4) (tn i2) := hl 2 (by omega); omega)
  refine Ok_jn (fun k27 w27 => ?_)
  rw [w27]
  refine Ok_if (fun e => go 1 (Or.inr ⟨fun q => q.1 e, rfl⟩)) (fun e1 => Ok_if (fun e => go 1 (Or.inr ⟨fun q => q.2.1 e, rfl⟩)) (fun e2 => Ok_if (fun e => go 1 (Or.inr ⟨fun q => q.2.2.1 e, rfl⟩)) (fun e3 => Ok_bind rm_iv (fun z hz => ?_))))
  rcases hz with ⟨q, d⟩ | ⟨q, d⟩
  · subst d
    exact Ok_if (fun h => absurd h one_ne) (fun _ => go 0 (Or.inl ⟨⟨e1, e2, e3, q⟩, rfl⟩))
  · subst d
    exact Ok_if (fun _ => go 1 (Or.inr ⟨fun c => q c.2.2.2, rfl⟩)) (fun h => absurd rfl h)
/-! step, fill, peel, empty -/
def A_step (n s g : Nat) (R F : Nat → Int32) (i8 i2 : Int32) (z : Int32 × Int32 × Int32 × (Nat → Int32)) : Prop :=
  (¬ rl i2 ∧ z = (0, i8, 1, F)) ∨ (rl i2 ∧ ((¬ tracks n s g R F ∧ z = (0, i8 + 1, 0, F)) ∨ (stepped n s g R i2.toInt F z.2.2.2 z.1.toInt ∧ z.2.1 = i8 + 1 ∧ z.2.2.1 = 0)))
theorem step_iv {n s g : Nat} {R F : Nat → Int32} {i3 i6 i7 i8 i9 i10 i2 : Int32} (hI : FI n s g R F) (h3 : i3.toInt = n) (h6 : i6.toInt = s) (h7 : i7.toInt = g) : Ok (fX8_step i3 i6 i7 i8 i9 i10 R F i2) (A_step n s g R F i8 i2) := by
  unfold fX8_step
  refine fl_of rl_iv (fun i hi => thrown1 hi (fun q => ⟨_, rfl, Or.inl ⟨q, rfl⟩⟩) (fun q => Ok_if (fun _ => ?_) (fun h => absurd rfl h)))
  refine Ok_bind (stepNow_iv h3 h6 h7 hI q) (fun z19 h19 => ?_)
  rcases h19 with ⟨e, h19⟩ | h19
  · subst e
    exact ⟨_, rfl, Or.inr ⟨q, Or.inl ⟨h19, rfl⟩⟩⟩
  · exact ⟨_, rfl, Or.inr ⟨q, Or.inr ⟨h19, rfl, rfl⟩⟩⟩
def A_fill (n s g : Nat) (R F : Nat → Int32) (i8 i2 : Int32) (z : Int32 × Int32 × Int32 × (Nat → Int32)) : Prop :=
  (¬ rl i2 ∧ z = (0, i8, 1, F)) ∨ (rl i2 ∧ ∃ j : Nat, filled n s g R i2.toInt j F z.2.2.2 ∧ z.1.toInt = j ∧ z.2.1 = i8 + 1 ∧ z.2.2.1 = 0 ∧ FI n s g R z.2.2.2)
theorem fill_iv {n s g : Nat} {R F : Nat → Int32} {i3 i6 i7 i8 i9 i10 i2 : Int32} (hI : FI n s g R F) (h3 : i3.toInt = n) (h6 : i6.toInt = s) (h7 : i7.toInt = g) : Ok (fX8_fill i3 i6 i7 i8 i9 i10 R F i2) (A_fill n s g R F i8 i2) := by
  unfold fX8_fill
  refine fl_of rl_iv (fun i hi => thrown1 hi (fun q => ⟨_, rfl, Or.inl ⟨q, rfl⟩⟩) (fun q => Ok_if (fun _ => ?_) (fun h => absurd rfl h)))
  have v := hI.value400
  have t0 : (0 : Int32).toInt = 0 := rfl
  refine fill_loop h3 h6 h7 q 420 0 F hI (by omega) (by omega) (fun j i F' hj hF hf => ?_)
  exact ⟨_, rfl, Or.inr ⟨q, j, hf, by show i.toInt = (j : Int); omega, rfl, rfl, hF⟩⟩
def taken (n s g : Nat) (F F' : Nat → Int32) (way m : Int) : Prop := ∃ w M b, PRT n s g F w M b way m ∧ carried F F' (fun i => w (b + i)) (-m) (M - b)
def A_peel (n s g : Nat) (F : Nat → Int32) (i7 : Int32) (z : Int32 × Int32 × (Nat → Int32)) : Prop := z.2.1 = i7 + 1 ∧ ((empt n s F ∧ z.1 = 0 ∧ z.2.2 = F) ∨ ∃ way, taken n s g F z.2.2 way z.1.toInt)
theorem FI.oftaken {n s g : Nat} {R F F' : Nat → Int32} {way m : Int} (h : FI n s g R F) (ht : taken n s g F F' way m) : FI n s g R F' := by
  obtain ⟨w, M, b, hP, hc⟩ := ht
  exact (hP.keeps h hc).1
theorem peel_iv {n s g : Nat} {R F : Nat → Int32} {i2 i5 i6 i7 : Int32} (hI : FI n s g R F) (h2 : i2.toInt = n) (h5 : i5.toInt = s) (h6 : i6.toInt = g) : Ok (fX8_peel i2 i5 i6 i7 F) (A_peel n s g F i7) := by
  unfold fX8_peel
  refine Ok_bind (nextPart_iv h2 h5 h6 hI) (fun z hz => Ok_oc (fun e => ?_) (fun k f e => ?_))
  · rcases hz with ⟨e2, q⟩ | ⟨w, M, b, way, m, made, e2, -⟩
    · subst e2
      exact ⟨_, rfl, rfl, Or.inl ⟨q, rfl, rfl⟩⟩
    · rw [e] at e2; cases e2
  · rcases hz with ⟨e2, q⟩ | ⟨w, M, b, way, m, made, e2, hP, hc, m0, m1, -⟩
    · rw [e2] at e; cases e
    · rw [e] at e2
      cases e2
      have t1 : (1 : Int32).toInt = 1 := rfl
      refine Ok_inB (vp_of (by omega) (by omega)) ?_
      exact ⟨_, rfl, rfl, Or.inr ⟨way, w, M, b, by show PRT n s g F w M b way (f 1).toInt; rw [m1]; exact hP, by show carried F z.1 _ (-(f 1).toInt) _; rw [m1]; exact hc⟩⟩
def A_empty (n s : Nat) (F : Nat → Int32) (i7 : Int32) (z : Int32 × Int32 × (Nat → Int32)) : Prop := z.1.toInt = outF n F s ∧ z.2.1 = i7 + 1 ∧ zero z.2.2
theorem empty_iv {n s g : Nat} {R F : Nat → Int32} {i2 i5 i7 : Int32} (hI : FI n s g R F) (h2 : i2.toInt = n) (h5 : i5.toInt = s) : Ok (fX8_empty i2 i5 i7 F) (A_empty n s F i7) := by
  unfold fX8_empty
  refine Ok_bind (hI.valueNow h2 h5 hI.2.1.1) (fun z12 h12 => Ok_bind (still_iv F) (fun z13 h13 => ?_))
  exact ⟨_, rfl, h12, rfl, h13⟩
