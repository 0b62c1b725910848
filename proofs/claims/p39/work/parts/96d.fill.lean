/-! THE CLASS'S FILLING OF TRACKS -/
theorem cleast_loop {n K : Nat} {R F f8 : Nat → Int32} {t : Nat → Nat} {i7 : Int32} (hn : n ≤ 9) (h7 : i7.toInt = (K : Int) + 1) (hK : K < n) (ht : ∀ i, i ≤ K → t i < n) (hf : ∀ i, i ≤ K → (f8 i).toInt = t i) (hR : sm R) (hF : sm F) : ∀ (r c : Nat) (i39 i40 : Int32) (j : Nat), j + r = K → r < c → i40.toInt = (j : Int) + 1 → i39.toInt = mnL (lf R F) t j → Ok (LX5_leastLeft_L5 i7 f8 R F c i39 i40) (fun z => z.toInt = mnL (lf R F) t K) := by
  intro r
  induction r with
  | zero =>
    intro c i39 i40 j hj hc h40 h39
    cases c with
    | zero => omega
    | succ c =>
      show Ok (BX5_leastLeft_L5 i7 f8 R F i39 i40 (fun a b => LX5_leastLeft_L5 i7 f8 R F c a b)) _
      unfold BX5_leastLeft_L5
      refine Ok_if (fun _ => Ok_some (by rw [h39, show j = K by omega])) (fun h => ?_)
      have h := i32nle h
      omega
  | succ r ih =>
    intro c i39 i40 j hj hc h40 h39
    cases c with
    | zero => omega
    | succ c =>
      show Ok (BX5_leastLeft_L5 i7 f8 R F i39 i40 (fun a b => LX5_leastLeft_L5 i7 f8 R F c a b)) _
      unfold BX5_leastLeft_L5
      refine Ok_if (fun h => ?_) (fun _ => ?_)
      · have h := i32le h
        omega
      · have ei := inc_iv (x := i40) (by omega)
        have t1 : (1 : Int32).toInt = 1 := rfl
        have es : (i40 - (1 : Int32)).toInt = (j : Int) := by rw [sub_iv (by omega) (by omega)]; omega
        have h40b : i40.toInt = ((j + 1 : Nat) : Int) := by omega
        refine Ok_bind (rat_iv es (by omega)) (fun z41 h41 => Ok_bind (rat_iv h40b (by omega)) (fun z42 h42 => ?_))
        have a := ht j (by omega)
        have b := ht (j + 1) (by omega)
        have e41 : z41.toInt = t j := by rw [h41]; exact hf j (by omega)
        have e42 : z42.toInt = t (j + 1) := by rw [h42]; exact hf (j + 1) (by omega)
        refine Ok_bind (cleft_iv e41 e42 (by omega) (by omega) hR hF) (fun z hz => Ok_nm (fun x wx => ?_))
        refine ih c x (i40 + 1) (j + 1) (by omega) (by omega) (by omega) ?_
        rw [wx]
        show (if z < i39 then z else i39).toInt = (if lf R F (t j) (t (j + 1)) < mnL (lf R F) t j then lf R F (t j) (t (j + 1)) else mnL (lf R F) t j)
        by_cases q : z < i39
        · have q2 := i32lt q
          rw [if_pos q, if_pos (by omega)]; exact hz
        · have q2 := i32nlt q
          rw [if_neg q, if_neg (by omega)]; exact h39
theorem cleast_iv {n K : Nat} {R F f8 : Nat → Int32} {t : Nat → Nat} {i7 : Int32} (hn : n ≤ 9) (h7 : i7.toInt = (K : Int) + 1) (hK : K < n) (ht : ∀ i, i ≤ K → t i < n) (hf : ∀ i, i ≤ K → (f8 i).toInt = t i) (hR : sm R) (hF : sm F) : Ok (fX5_leastLeft i7 f8 R F) (fun z => z.toInt = mnL (lf R F) t K) := by
  unfold fX5_leastLeft
  exact cleast_loop hn h7 hK ht hf hR hF K 12 _ 1 0 (by omega) (by omega) rfl rfl
theorem cturn1 {α : Type} {n s g : Nat} {R F f46 f47 : Nat → Int32} {i12 i13 i14 i3 : Int32} {P : α → Prop} {Kn : Int32 × (Nat → Int32) × (Nat → Int32) → Option α} {Ks : Int32 × (Nat → Int32) × (Nat → Int32) → (Nat → Int32) → Option α} (hI : FI n s g R F) (h12 : i12.toInt = n) (h13 : i13.toInt = s) (h14 : i14.toInt = g) (h3 : 0 ≤ i3.toInt ∧ i3.toInt ≤ 2) (hkn : ∀ z, z.1 = 0 → ¬ tracks n s g R F → Ok (Kn z) P) (hks : ∀ z F' m, (0 ≤ z.1.toInt ∧ z.1.toInt ≤ 10) → stepped n s g R i3.toInt F F' m → Ok (Ks z F') P) : Ok ((fX5_find f46 f47 i12 i13 i14 R F i3).bind (fun z49 => if z49.1 = (0 : Int32) then Kn z49 else ((fX5_leastLeft z49.1 z49.2.1 R F).bind (fun z50 => (fX2_carryAlong F z49.1 z49.2.1 z50).bind (fun z51 => Ks z49 z51))))) P := by
  have n9 := hI.1
  refine Ok_bind (cfind_iv h12 n9.2 h13 hI.2.1.1 h14 hI.2.1.2.1 hI.2.1.2.2 h3) (fun z49 h49 => ?_)
  have t0 : (0 : Int32).toInt = 0 := rfl
  rcases h49 with ⟨e, q⟩ | ⟨t, K, hT, e, hf⟩
  · exact Ok_if (fun _ => hkn z49 e q) (fun h => absurd e h)
  · refine Ok_if (fun h => ?_) (fun _ => ?_)
    · have h := i32eq h
      omega
    · have hT0 := hT.1
      refine Ok_bind (cleast_iv n9.2 e hT0.2.2.2 hT.2.1 hf hI.smR hI.smF) (fun z50 h50 => ?_)
      have k1 : 1 ≤ mnL (lf R F) t K := mnL_ge (by omega) K (fun i hi => by have : 0 < lf R F (t i) (t (i + 1)) := hT.2.2.2.1 i hi; omega)
      have k2 : mnL (lf R F) t K ≤ 100 := by
        have b := mnL_le (v := lf R F) (t := t) K 0 hT0.2.2.1
        have c := (hI.lf_le (a := t 0) (b := t (0 + 1)) (by have := hT.2.1 0 (by omega); omega) (by have := hT.2.1 (0 + 1) hT0.2.2.1; omega)).2
        omega
      refine Ok_bind (along_iv n9.2 e (by omega) hT.2.1 hT.dis hf (by omega) hI.f100) (fun z51 h51 => ?_)
      exact hks z49 z51 (mnL (lf R F) t K) (by omega) ⟨t, K, hT, rfl, by rw [← h50]; exact h51⟩
theorem cfill_loop {n s g : Nat} {R : Nat → Int32} {i12 i13 i14 i3 i4 : Int32} (h12 : i12.toInt = n) (h13 : i13.toInt = s) (h14 : i14.toInt = g) (h3 : 0 ≤ i3.toInt ∧ i3.toInt ≤ 2) (h4 : i4.toInt = 1000) : ∀ (c : Nat) (i43 i44 i45 : Int32) (f46 f47 F : Nat → Int32), FI n s g R F → 400 - outF n F s < c → (0 ≤ i43.toInt ∧ i43.toInt ≤ outF n F s) → Ok (LX5_fillTimes_L3 i12 i13 i14 R i3 i4 c i43 i44 i45 f46 f47 F) (fun z => (0 ≤ z.2.1.toInt ∧ z.2.1.toInt ≤ 9) ∧ (0 ≤ z.2.2.1.toInt ∧ z.2.2.1.toInt ≤ 10) ∧ ∃ j : Nat, filled n s g R i3.toInt j F z.2.2.2.2.2 ∧ z.1.toInt = i43.toInt + j) := by
  intro c
  induction c with
  | zero =>
    intro i43 i44 i45 f46 f47 F hI hc h43
    have := hI.value400
    omega
  | succ c ih =>
    intro i43 i44 i45 f46 f47 F hI hc h43
    show Ok (BX5_fillTimes_L3 i12 i13 i14 R i3 i4 i43 i44 i45 f46 f47 F (fun a b d x y w => LX5_fillTimes_L3 i12 i13 i14 R i3 i4 c a b d x y w)) _
    unfold BX5_fillTimes_L3
    have hv := hI.value400
    have n9 := hI.1
    refine Ok_if (fun h => ?_) (fun _ => ?_)
    · have h := i32le h
      omega
    · refine cturn1 hI h12 h13 h14 h3 (fun z e q => Ok_some ⟨by show 0 ≤ i12.toInt ∧ i12.toInt ≤ 9; omega, by show 0 ≤ z.1.toInt ∧ z.1.toInt ≤ 10; rw [e]; decide, 0, ⟨rfl, q⟩, by show i43.toInt = i43.toInt + (0 : Nat); omega⟩) (fun z F' m hz hs => ?_)
      obtain ⟨a1, a2, a3, a4⟩ := hI.ofstep hs
      have ei := inc_iv (x := i43) (by omega)
      refine Ok_mono (ih (i43 + 1) i12 z.1 z.2.1 z.2.2 F' a1 (by omega) (by omega)) (fun y hy => ?_)
      obtain ⟨y1, y2, j, y3, y4⟩ := hy
      exact ⟨y1, y2, j + 1, ⟨F', m, hs, y3⟩, by omega⟩
theorem cfill_iv {n s g : Nat} {R F f10 f11 : Nat → Int32} {i7 i9 i12 i13 i14 i3 : Int32} (hI : FI n s g R F) (h12 : i12.toInt = n) (h13 : i13.toInt = s) (h14 : i14.toInt = g) (h3 : 0 ≤ i3.toInt ∧ i3.toInt ≤ 2) : Ok (fX5_fillTimes i7 i9 f10 f11 i12 i13 i14 R F i3 1000) (fun z => (0 ≤ z.2.1.toInt ∧ z.2.1.toInt ≤ 9) ∧ (0 ≤ z.2.2.1.toInt ∧ z.2.2.1.toInt ≤ 10) ∧ ∃ j : Nat, filled n s g R i3.toInt j F z.2.2.2.2.2 ∧ z.1.toInt = j) := by
  unfold fX5_fillTimes
  have hv := hI.value400
  have t0 : (0 : Int32).toInt = 0 := rfl
  refine Ok_mono (cfill_loop h12 h13 h14 h3 rfl 1002 0 i7 i9 f10 f11 F hI (by omega) (by omega)) (fun z hz => ?_)
  obtain ⟨z1, z2, j, z3, z4⟩ := hz
  exact ⟨z1, z2, j, z3, by omega⟩
theorem cone_iv {n s g : Nat} {R F f10 f11 : Nat → Int32} {i7 i9 i12 i13 i14 i3 : Int32} (hI : FI n s g R F) (h12 : i12.toInt = n) (h13 : i13.toInt = s) (h14 : i14.toInt = g) (h3 : 0 ≤ i3.toInt ∧ i3.toInt ≤ 2) : Ok (fX5_fillTimes i7 i9 f10 f11 i12 i13 i14 R F i3 1) (fun z => (0 ≤ z.2.1.toInt ∧ z.2.1.toInt ≤ 9) ∧ (0 ≤ z.2.2.1.toInt ∧ z.2.2.1.toInt ≤ 10) ∧ ((¬ tracks n s g R F ∧ z.2.2.2.2.2 = F) ∨ ∃ m, stepped n s g R i3.toInt F z.2.2.2.2.2 m)) := by
  unfold fX5_fillTimes
  have n9 := hI.1
  show Ok (BX5_fillTimes_L3 i12 i13 i14 R i3 1 0 i7 i9 f10 f11 F (fun a b d x y w => LX5_fillTimes_L3 i12 i13 i14 R i3 1 1001 a b d x y w)) _
  unfold BX5_fillTimes_L3
  refine Ok_if (fun h => absurd h (by decide)) (fun _ => ?_)
  refine cturn1 hI h12 h13 h14 h3 (fun z e q => Ok_some ⟨by show 0 ≤ i12.toInt ∧ i12.toInt ≤ 9; omega, by show 0 ≤ z.1.toInt ∧ z.1.toInt ≤ 10; rw [e]; decide, Or.inl ⟨q, rfl⟩⟩) (fun z F' m hz hs => ?_)
  show Ok (BX5_fillTimes_L3 i12 i13 i14 R i3 1 (0 + 1) i12 z.1 z.2.1 z.2.2 F' (fun a b d x y w => LX5_fillTimes_L3 i12 i13 i14 R i3 1 1000 a b d x y w)) _
  unfold BX5_fillTimes_L3
  exact Ok_if (fun _ => Ok_some ⟨by show 0 ≤ i12.toInt ∧ i12.toInt ≤ 9; omega, hz, Or.inr ⟨m, hs⟩⟩) (fun h => absurd (by decide) h)
/-! THE CLASS'S FINDER OF PARTS -/
theorem cnxt_loop {n a : Nat} {F : Nat → Int32} {i3 i2 : Int32} (h3 : i3.toInt = n) (hn : n ≤ 9) (h2 : i2.toInt = a) (ha : a < 9) : ∀ (r c : Nat) (i20 : Int32) (k : Nat), k + r = n → r < c → i20.toInt = k → (∀ x, x < k → G F a x ≤ 0) → Ok (LX3_next_L2 i3 F i2 c i20) (fun z => (z = -1 ∧ ∀ x, x < n → G F a x ≤ 0) ∨ ∃ y : Nat, z.toInt = y ∧ nxt n F a y) := by
  intro r
  induction r with
  | zero =>
    intro c i20 k hk hc h20 hno
    cases c with
    | zero => omega
    | succ c =>
      show Ok (BX3_next_L2 i3 F i2 i20 (fun x => LX3_next_L2 i3 F i2 c x)) _
      unfold BX3_next_L2
      refine Ok_if (fun _ => Ok_some (Or.inl ⟨rfl, fun x hx => hno x (by omega)⟩)) (fun h => ?_)
      have h := i32nle h
      omega
  | succ r ih =>
    intro c i20 k hk hc h20 hno
    cases c with
    | zero => omega
    | succ c =>
      show Ok (BX3_next_L2 i3 F i2 i20 (fun x => LX3_next_L2 i3 F i2 c x)) _
      unfold BX3_next_L2
      have ei := inc_iv (x := i20) (by omega)
      have t0 : (0 : Int32).toInt = 0 := rfl
      refine Ok_if (fun h => ?_) (fun _ => Ok_bind (at_iv h2 h20 ha (by omega)) (fun z21 h21 => Ok_if (fun h => ?_) (fun h => ?_)))
      · have h := i32le h
        omega
      · have h := i32le h
        refine ih c (i20 + 1) (k + 1) (by omega) (by omega) (by omega) (fun x hx => ?_)
        by_cases e : x = k
        · rw [e]; omega
        · exact hno x (by omega)
      · have h := i32nle h
        exact Ok_some (Or.inr ⟨k, h20, by omega, by omega, hno⟩)
theorem cnxt_iv {n a : Nat} {F : Nat → Int32} {i3 i2 : Int32} (h3 : i3.toInt = n) (hn : n ≤ 9) (h2 : i2.toInt = a) (ha : a < 9) : Ok (fX3_next i3 F i2) (fun z => (z = -1 ∧ ∀ x, x < n → G F a x ≤ 0) ∨ ∃ y : Nat, z.toInt = y ∧ nxt n F a y) := by
  unfold fX3_next
  exact cnxt_loop h3 hn h2 ha n 12 0 0 (by omega) (by omega) rfl (fun x hx => by omega)
theorem cflow_loop {n K : Nat} {F f8 : Nat → Int32} {t : Nat → Nat} {i7 : Int32} (hn : n ≤ 9) (h7 : i7.toInt = (K : Int) + 1) (hK : K ≤ 9) (ht : ∀ i, i ≤ K → t i < n) (hf : ∀ i, i ≤ K → (f8 i).toInt = t i) : ∀ (r c : Nat) (i35 i36 : Int32) (j : Nat), j + r = K → r < c → i36.toInt = (j : Int) + 1 → i35.toInt = mnL (G F) t j → Ok (LX3_leastFlow_L5 i7 f8 F c i35 i36) (fun z => z.toInt = mnL (G F) t K) := by
  intro r
  induction r with
  | zero =>
    intro c i35 i36 j hj hc h36 h35
    cases c with
    | zero => omega
    | succ c =>
      show Ok (BX3_leastFlow_L5 i7 f8 F i35 i36 (fun a b => LX3_leastFlow_L5 i7 f8 F c a b)) _
      unfold BX3_leastFlow_L5
      refine Ok_if (fun _ => Ok_some (by rw [h35, show j = K by omega])) (fun h => ?_)
      have h := i32nle h
      omega
  | succ r ih =>
    intro c i35 i36 j hj hc h36 h35
    cases c with
    | zero => omega
    | succ c =>
      show Ok (BX3_leastFlow_L5 i7 f8 F i35 i36 (fun a b => LX3_leastFlow_L5 i7 f8 F c a b)) _
      unfold BX3_leastFlow_L5
      refine Ok_if (fun h => ?_) (fun _ => ?_)
      · have h := i32le h
        omega
      · have ei := inc_iv (x := i36) (by omega)
        have t1 : (1 : Int32).toInt = 1 := rfl
        have es : (i36 - (1 : Int32)).toInt = (j : Int) := by rw [sub_iv (by omega) (by omega)]; omega
        have h36b : i36.toInt = ((j + 1 : Nat) : Int) := by omega
        refine Ok_bind (rat_iv es (by omega)) (fun z37 h37 => Ok_bind (rat_iv h36b (by omega)) (fun z38 h38 => ?_))
        have a := ht j (by omega)
        have b := ht (j + 1) (by omega)
        have e37 : z37.toInt = t j := by rw [h37]; exact hf j (by omega)
        have e38 : z38.toInt = t (j + 1) := by rw [h38]; exact hf (j + 1) (by omega)
        refine Ok_bind (at_iv e37 e38 (by omega) (by omega)) (fun z hz => Ok_nm (fun x wx => ?_))
        refine ih c x (i36 + 1) (j + 1) (by omega) (by omega) (by omega) ?_
        rw [wx]
        show (if z < i35 then z else i35).toInt = (if G F (t j) (t (j + 1)) < mnL (G F) t j then G F (t j) (t (j + 1)) else mnL (G F) t j)
        by_cases q : z < i35
        · have q2 := i32lt q
          rw [if_pos q, if_pos (by omega)]; exact hz
        · have q2 := i32nlt q
          rw [if_neg q, if_neg (by omega)]; exact h35
theorem cflow_iv {n K : Nat} {F f8 : Nat → Int32} {t : Nat → Nat} {i7 : Int32} (hn : n ≤ 9) (h7 : i7.toInt = (K : Int) + 1) (hK : K ≤ 9) (ht : ∀ i, i ≤ K → t i < n) (hf : ∀ i, i ≤ K → (f8 i).toInt = t i) : Ok (fX3_leastFlow i7 f8 F) (fun z => z.toInt = mnL (G F) t K) := by
  unfold fX3_leastFlow
  exact cflow_loop hn h7 hK ht hf K 12 _ 1 0 (by omega) (by omega) rfl rfl
theorem start_L2 {M b : Nat} {w : Nat → Nat} {f5 : Nat → Int32} {i2 i4 : Int32} {P : Int32 × (Nat → Int32) → Prop} {k1 : Int32 → Option (Int32 × (Nat → Int32))} (hM : M ≤ 9) (h4 : i4.toInt = (M : Int) + 1) (h2 : i2.toInt = w b) (hb : b < M) (hf : ∀ i, i ≤ M → (f5 i).toInt = w i) (hne : ∀ j, j < b → w j ≠ w b) (hk : ∀ i : Int32, i.toInt = b → Ok (k1 i) P) : ∀ (r c : Nat) (i12 : Int32) (k : Nat), k + r = b → r < c → i12.toInt = k → Ok (LX4_startAt_L2 i2 i4 f5 c i12 k1) P := by
  intro r
  induction r with
  | zero =>
    intro c i12 k hk2 hc h12
    cases c with
    | zero => omega
    | succ c =>
      show Ok (BX4_startAt_L2 i2 i4 f5 i12 (fun a => LX4_startAt_L2 i2 i4 f5 c a k1) k1) P
      unfold BX4_startAt_L2
      have e : k = b := by omega
      subst e
      refine Ok_if (fun h => ?_) (fun _ => Ok_bind (rat_iv h12 (by omega)) (fun z13 h13 => ?_))
      · have h := i32le h
        omega
      · have := hf k (by omega)
        exact Ok_if (fun _ => hk _ h12) (fun h => absurd (Int32.toInt_inj.mp (by rw [h13, this, h2])) h)
  | succ r ih =>
    intro c i12 k hk2 hc h12
    cases c with
    | zero => omega
    | succ c =>
      show Ok (BX4_startAt_L2 i2 i4 f5 i12 (fun a => LX4_startAt_L2 i2 i4 f5 c a k1) k1) P
      unfold BX4_startAt_L2
      have ei := inc_iv (x := i12) (by omega)
      refine Ok_if (fun h => ?_) (fun _ => Ok_bind (rat_iv h12 (by omega)) (fun z13 h13 => Ok_if (fun h => ?_) (fun _ => ih c (i12 + 1) (k + 1) (by omega) (by omega) (by omega))))
      · have h := i32le h
        omega
      · have := hf k (by omega)
        have h := i32eq h
        exact absurd (by rw [h13] at h; omega) (hne k (by omega))
theorem start_L37 {M b : Nat} {w : Nat → Nat} {i4 : Int32} (hM : M ≤ 9) (h4 : i4.toInt = (M : Int) + 1) (hb : b ≤ M) : ∀ (r c : Nat) (i23 i24 : Int32) (f25 : Nat → Int32) (k : Nat), b + k + r = M + 1 → r < c → i23.toInt = (b : Int) + k → i24.toInt = k → (∀ i, i < k → (f25 i).toInt = w (b + i)) → (∀ i, k ≤ i → b + i ≤ M → (f25 (b + i)).toInt = w (b + i)) → Ok (LX4_startAt_L37 i4 c i23 i24 f25) (fun z => z.1.toInt = (M - b : Nat) + 1 ∧ ∀ i, i ≤ M - b → (z.2 i).toInt = w (b + i)) := by
  intro r
  induction r with
  | zero =>
    intro c i23 i24 f25 k hk hc h23 h24 h1 h2
    cases c with
    | zero => omega
    | succ c =>
      show Ok (BX4_startAt_L37 i4 i23 i24 f25 (fun x y z => LX4_startAt_L37 i4 c x y z)) _
      unfold BX4_startAt_L37
      refine Ok_if (fun _ => Ok_some ⟨by show i24.toInt = _; omega, fun i hi => h1 i (by omega)⟩) (fun h => ?_)
      have h := i32nle h
      omega
  | succ r ih =>
    intro c i23 i24 f25 k hk hc h23 h24 h1 h2
    cases c with
    | zero => omega
    | succ c =>
      show Ok (BX4_startAt_L37 i4 i23 i24 f25 (fun x y z => LX4_startAt_L37 i4 c x y z)) _
      unfold BX4_startAt_L37
      have ei := inc_iv (x := i23) (by omega)
      have h23b : i23.toInt = ((b + k : Nat) : Int) := by omega
      refine Ok_if (fun h => ?_) (fun _ => Ok_bind (rat_iv h23b (by omega)) (fun z26 h26 => Ok_bind (add_row h24 (by omega)) (fun z27 h27 => ?_)))
      · have h := i32le h
        omega
      · refine ih c (i23 + 1) z27.1 z27.2 (k + 1) (by omega) (by omega) (by omega) (by rw [h27.1]; omega) (fun i hi => ?_) (fun i hi hi2 => ?_)
        · rw [h27.2]
          unfold upd
          by_cases e : i = k
          · rw [if_pos e, e, h26]; exact h2 k (Nat.le_refl _) (by omega)
          · rw [if_neg e]; exact h1 i (by omega)
        · rw [h27.2]
          unfold upd
          rw [if_neg (by omega)]
          exact h2 i (by omega) hi2
theorem start_iv {M b : Nat} {w : Nat → Nat} {f5 : Nat → Int32} {i2 i4 : Int32} (hM : M ≤ 9) (h4 : i4.toInt = (M : Int) + 1) (h2 : i2.toInt = w b) (hb : b < M) (hf : ∀ i, i ≤ M → (f5 i).toInt = w i) (hne : ∀ j, j < b → w j ≠ w b) : Ok (fX4_startAt i4 f5 i2) (fun z => z.1.toInt = (M - b : Nat) + 1 ∧ ∀ i, i ≤ M - b → (z.2 i).toInt = w (b + i)) := by
  unfold fX4_startAt
  refine start_L2 hM h4 h2 hb hf hne (fun i hi => ?_) b 12 0 0 (by omega) (by omega) rfl
  refine Ok_bind (R := fun _ => True) ⟨_, rfl, trivial⟩ (fun _ _ => ?_)
  exact start_L37 (w := w) hM h4 (by omega) (M + 1 - b) 12 i 0 f5 0 (by omega) (by omega) (by omega) rfl (fun i hi => by omega) (fun i _ hi => hf (b + i) hi)
def CW (n s g : Nat) (F : Nat → Int32) (z : Int32 × Int32 × Int32 × Int32 × (Nat → Int32)) : Prop :=
  z.1 = 1 ∧ ∃ (w : Nat → Nat) (M b : Nat) (way m : Int), PRT n s g F w M b way m ∧ z.2.1.toInt = m ∧ z.2.2.1.toInt = 1 - way ∧ z.2.2.2.1.toInt = (M - b : Nat) + 1 ∧ ∀ i, i ≤ M - b → (z.2.2.2.2 i).toInt = w (b + i)
theorem walk_loop {n s g : Nat} {R F : Nat → Int32} {i12 i4 i5 i7 i8 : Int32} (hI : FI n s g R F) (h12 : i12.toInt = n) (h5 : i5.toInt = outF n F s) (h4 : (0 < outF n F s ∧ i4.toInt = g) ∨ (outF n F s = 0 ∧ i4 = -1)) : ∀ (r c : Nat) (i42 i43 i44 i45 : Int32) (f46 : Nat → Int32) (w : Nat → Nat) (k : Nat), n + 1 < k + r → r < c → (frm n s F (w 0) ∧ (∀ i, i < k → nxt n F (w i) (w (i + 1))) ∧ (∀ i j, i < k → j < k → w i = w j → i = j) ∧ (∀ i, 1 ≤ i → i < k → ¬ (0 < outF n F s ∧ w i = g)) ∧ k ≤ n) → i43.toInt = w k → isSet_ i42 (bl w k) → i44.toInt = k → i45.toInt = k → (∀ i, i < k → (f46 i).toInt = w i) → Ok (LX3_walk_L16 i12 F i4 i7 i8 c i42 i43 i44 i45 f46 (fun (i51 : Int32) (f52 : Nat → Int32) => (fX3_leastFlow i51 f52 F).bind (fun z56 => some ((1 : Int32), if i5 < z56 then i5 else z56, (0 : Int32), i51, f52))) (fun (i53 : Int32) (i54 : Int32) (f55 : Nat → Int32) => (fX4_startAt i54 f55 i53).bind (fun z57 => (fX3_leastFlow z57.1 z57.2 F).bind (fun z58 => some ((1 : Int32), z58, (1 : Int32), z57.1, z57.2))))) (CW n s g F) := by
  intro r
  have n9 := hI.1
  have se := hI.2.1
  have hv := hI.value400
  have t0 : (0 : Int32).toInt = 0 := rfl
  have tm : (-1 : Int32).toInt = -1 := rfl
  induction r with
  | zero => intro c i42 i43 i44 i45 f46 w k hr hc hW; omega
  | succ r ih =>
    intro c i42 i43 i44 i45 f46 w k hr hc hW h43 h42 h44 h45 hf
    cases c with
    | zero => omega
    | succ c =>
      obtain ⟨hfr, hst, hin, hng, hkn⟩ := hW
      have lt : ∀ i, i ≤ k → w i < n := fun i hi => by
        rcases Nat.eq_zero_or_pos i with e | e
        · rw [e]
          rcases hfr with ⟨-, q⟩ | ⟨-, q, -⟩
          · rw [q]; exact se.1
          · exact q
        · have := (hst (i - 1) (by omega)).1
          rw [show i - 1 + 1 = i by omega] at this
          exact this
      have lk := lt k (Nat.le_refl _)
      show Ok (BX3_walk_L16 i12 F i4 i7 i8 i42 i43 i44 i45 f46 (fun a b d e x => LX3_walk_L16 i12 F i4 i7 i8 c a b d e x _ _) _ _) _
      unfold BX3_walk_L16
      refine Ok_if (fun h => ?_) (fun _ => Ok_if (fun h => ?_) (fun _ => Ok_bind (add_row h45 (by omega)) (fun z47 h47 => ?_)))
      · have h := i32lt h
        omega
      · have h := i32eq h
        omega
      · have hf2 : ∀ i, i ≤ k → (z47.2 i).toInt = w i := fun i hi => by
          rw [h47.2]
          unfold upd
          by_cases e : i = k
          · rw [if_pos e, e]; exact h43
          · rw [if_neg e]; exact hf i (by omega)
        refine Ok_if (fun e => ?_) (fun hns => ?_)
        · have e := i32eq e
          have hval : 0 < outF n F s ∧ w k = g := by
            rcases h4 with ⟨q1, q2⟩ | ⟨q1, q2⟩
            · exact ⟨q1, by omega⟩
            · rw [q2] at e; omega
          have hk1 : 1 ≤ k := by
            rcases Nat.eq_zero_or_pos k with q | q
            · exfalso
              rw [q] at hval
              rcases hfr with ⟨-, q2⟩ | ⟨q2, -⟩
              · exact se.2.2 (q2.symm.trans hval.2)
              · omega
            · exact q
          have hnew : ∀ i, i < k → w i ≠ w k := fun i hi q => by
            rcases Nat.eq_zero_or_pos i with q2 | q2
            · rw [q2] at q
              rcases hfr with ⟨-, q3⟩ | ⟨q3, -⟩
              · exact se.2.2 (q3.symm.trans (q.trans hval.2))
              · omega
            · exact hng i q2 hi ⟨hval.1, q.trans hval.2⟩
          refine Ok_bind (cflow_iv (t := w) n9.2 h47.1 (by omega) lt hf2) (fun z56 h56 => Ok_some ?_)
          have hP : PRT n s g F w k 0 1 (min (outF n F s) (mnL (G F) w k)) := by
            refine ⟨hfr, ⟨hk1, hkn, by omega⟩, hst, hin, hng, Or.inl ⟨rfl, hval.1, hval.2, rfl, hnew, ?_⟩⟩
            have e0 : (fun i => w (0 + i)) = w := funext (fun i => by rw [Nat.zero_add])
            rw [e0]; rfl
          refine ⟨rfl, w, k, 0, 1, _, hP, ?_, rfl, h47.1, fun i hi => by rw [Nat.zero_add]; exact hf2 i hi⟩
          show (if i5 < z56 then i5 else z56).toInt = _
          by_cases q : i5 < z56
          · have q2 := i32lt q
            rw [if_pos q]; omega
          · have q2 := i32nlt q
            rw [if_neg q]; omega
        · have hnot : ¬ (0 < outF n F s ∧ w k = g) := fun q => by
            rcases h4 with ⟨q1, q2⟩ | ⟨q1, q2⟩
            · exact hns (Int32.toInt_inj.mp (by omega))
            · omega
          refine Ok_bind (holds_iv h43 (by omega)) (fun z48 h48 => ?_)
          have hb := h42 (w k) (by omega)
          by_cases q : has i42 (w k) = true
          · rw [if_pos q] at h48
            subst h48
            refine Ok_if (fun e => absurd e one_ne) (fun _ => ?_)
            obtain ⟨b, b1, b2⟩ := hb.mp q
            have hne : ∀ j, j < b → w j ≠ w b := fun j hj e => by have := hin j b (by omega) b1 e; omega
            refine Ok_bind (start_iv (M := k) (b := b) (w := w) (by omega) h47.1 (by omega) b1 hf2 hne) (fun z57 h57 => ?_)
            refine Ok_bind (cflow_iv (t := fun i => w (b + i)) n9.2 h57.1 (by omega) (fun i hi => lt _ (by omega)) h57.2) (fun z58 h58 => Ok_some ?_)
            exact ⟨rfl, w, k, b, 0, _, ⟨hfr, ⟨by omega, hkn, b1⟩, hst, hin, hng, Or.inr ⟨rfl, b2.symm, rfl⟩⟩, h58, rfl, h57.1, h57.2⟩
          · rw [if_neg q] at h48
            subst h48
            refine Ok_if (fun _ => ?_) (fun e => absurd rfl e)
            have hnew : ∀ i, i < k → w i ≠ w k := fun i hi e => q (hb.mpr ⟨i, hi, e⟩)
            have hin2 : ∀ i j, i < k + 1 → j < k + 1 → w i = w j → i = j := fun i j hi hj e => by
              by_cases c1 : i = k
              · by_cases c2 : j = k
                · omega
                · rw [c1] at e; exact absurd e.symm (hnew j (by omega))
              · by_cases c2 : j = k
                · rw [c2] at e; exact absurd e (hnew i (by omega))
                · exact hin i j (by omega) (by omega) e
            have hk2 := pig n (k + 1) w (fun i hi => lt i (by omega)) hin2
            have hng2 : ∀ i, 1 ≤ i → i < k + 1 → ¬ (0 < outF n F s ∧ w i = g) := fun i h1 h2 => by
              by_cases c1 : i = k
              · rw [c1]; exact hnot
              · exact hng i h1 (by omega)
            have hWLK : WLK n s g F w (k + 1) := ⟨hfr, ⟨by omega, hk2⟩, fun i hi => hst i (by omega), hin2, hng2⟩
            obtain ⟨y, hy⟩ := hWLK.on hI
            rw [show k + 1 - 1 = k by omega] at hy
            refine Ok_nm (fun i49 w49 => Ok_bind (cnxt_iv h12 n9.2 h43 (by omega)) (fun z50 h50 => ?_))
            rcases h50 with ⟨-, h50⟩ | ⟨y2, h50, hy2⟩
            · have := h50 y hy.1
              have := hy.2.1
              omega
            · have ei := inc_iv (x := i44) (by omega)
              have un : ∀ i, i ≤ k → upN w (k + 1) y2 i = w i := fun i hi => upN_ne w y2 (by omega)
              have uk : upN w (k + 1) y2 (k + 1) = y2 := upN_eq w (k + 1) y2
              refine ih c i49 z50 (i44 + 1) z47.1 z47.2 (upN w (k + 1) y2) (k + 1) (by omega) (by omega) ⟨by rw [un 0 (by omega)]; exact hfr, fun i hi => ?_, fun i j hi hj e => ?_, fun i h1 h2 => ?_, hk2⟩ (by rw [uk]; exact h50) ?_ (by omega) (by rw [h47.1]; omega) (fun i hi => by rw [un i (by omega)]; exact hf2 i (by omega))
              · by_cases c1 : i = k
                · rw [c1, un k (Nat.le_refl _), uk]; exact hy2
                · rw [un i (by omega), un (i + 1) (by omega)]; exact hst i (by omega)
              · rw [un i (by omega), un j (by omega)] at e
                exact hin2 i j hi hj e
              · rw [un i (by omega)]; exact hng2 i h1 h2
              · rw [w49]
                refine (isSet_or h42 h43 (by omega)).of (fun x _ => ?_)
                constructor
                · intro z
                  rcases z with ⟨a, a1, a2⟩ | z
                  · exact ⟨a, by omega, by rw [un a (by omega)]; exact a2⟩
                  · exact ⟨k, by omega, by rw [un k (Nat.le_refl _)]; exact z.symm⟩
                · rintro ⟨a, a1, a2⟩
                  rw [un a (by omega)] at a2
                  by_cases ca : a = k
                  · rw [ca] at a2; exact Or.inr a2.symm
                  · exact Or.inl ⟨a, by omega, a2⟩
theorem walk_iv {n s g x : Nat} {R F f11 : Nat → Int32} {i12 i3 i4 i5 i7 i8 : Int32} (hI : FI n s g R F) (h12 : i12.toInt = n) (h5 : i5.toInt = outF n F s) (h4 : (0 < outF n F s ∧ i4.toInt = g) ∨ (outF n F s = 0 ∧ i4 = -1)) (h3 : i3.toInt = x) (hx : frm n s F x) : Ok (fX3_walk i7 i8 f11 i12 F i3 i4 i5) (CW n s g F) := by
  unfold fX3_walk
  have n9 := hI.1
  refine Ok_bind (R := fun _ => True) ⟨_, rfl, trivial⟩ (fun _ _ => ?_)
  exact walk_loop hI h12 h5 h4 (n + 2) 12 0 i3 0 0 f11 (fun _ => x) 0 (by omega) (by omega) ⟨hx, fun i hi => by omega, fun i j hi => by omega, fun i h1 h2 => by omega, by omega⟩ h3 (isSet_0.of (fun y _ => ⟨fun q => absurd q id, fun ⟨j, j1, _⟩ => by omega⟩)) rfl rfl (fun i hi => by omega)
theorem cpart_loop {n s g : Nat} {R F f8 : Nat → Int32} {i9 i4 i5 i7 z16 : Int32} (hI : FI n s g R F) (h9 : i9.toInt = n) (hz : z16.toInt = outF n F s) (hv0 : outF n F s = 0) : ∀ (r c : Nat) (i34 : Int32) (k : Nat), k + r = n → r < c → i34.toInt = k → (∀ a y, a < k → y < n → G F a y ≤ 0) → Ok (LX3_find_L26 i9 F i4 i5 i7 f8 c i34 (fun (i36 : Int32) => (fX3_walk i4 i5 f8 i9 F i36 (-1 : Int32) z16).bind (fun z37 => bz z37.1 (some (z37.1, z37.2.1, z37.2.2.1, z37.2.2.2.1, z37.2.2.2.2))))) (fun z => (z = (0, i4, i5, i7, f8) ∧ empt n s F) ∨ CW n s g F z) := by
  intro r
  have n9 := hI.1
  induction r with
  | zero =>
    intro c i34 k hk hc h34 hno
    cases c with
    | zero => omega
    | succ c =>
      show Ok (BX3_find_L26 i9 F i4 i5 i7 f8 i34 (fun a => LX3_find_L26 i9 F i4 i5 i7 f8 c a _) _) _
      unfold BX3_find_L26
      refine Ok_if (fun _ => Ok_some (Or.inl ⟨rfl, hv0, fun a b ha hb => hno a b (by omega) hb⟩)) (fun h => ?_)
      have h := i32nle h
      omega
  | succ r ih =>
    intro c i34 k hk hc h34 hno
    cases c with
    | zero => omega
    | succ c =>
      show Ok (BX3_find_L26 i9 F i4 i5 i7 f8 i34 (fun a => LX3_find_L26 i9 F i4 i5 i7 f8 c a _) _) _
      unfold BX3_find_L26
      have ei := inc_iv (x := i34) (by omega)
      have tm : (-1 : Int32).toInt = -1 := rfl
      refine Ok_if (fun h => ?_) (fun _ => Ok_bind (cnxt_iv h9 n9.2 h34 (by omega)) (fun z35 h35 => ?_))
      · have h := i32le h
        omega
      · rcases h35 with ⟨e, q⟩ | ⟨y, e, q⟩
        · refine Ok_if (fun _ => ih c (i34 + 1) (k + 1) (by omega) (by omega) (by omega) (fun a y ha hy => ?_)) (fun h => absurd e h)
          by_cases c1 : a = k
          · rw [c1]; exact q y hy
          · exact hno a y (by omega) hy
        · refine Ok_if (fun h => ?_) (fun _ => ?_)
          · have h := i32eq h
            omega
          · refine Ok_bind (walk_iv hI h9 hz (Or.inr ⟨hv0, rfl⟩) h34 (Or.inr ⟨hv0, by omega, ⟨y, q.1, q.2.1⟩, fun a y ha hy => hno a y ha hy⟩)) (fun z37 h37 => ?_)
            exact Ok_bz (Or.inr h37.1) (Ok_some (Or.inr h37))
theorem cpart_iv {n s g : Nat} {R F f8 : Nat → Int32} {i4 i5 i7 i9 i10 i11 : Int32} (hI : FI n s g R F) (h9 : i9.toInt = n) (h10 : i10.toInt = s) (h11 : i11.toInt = g) : Ok (fX3_find i4 i5 i7 f8 i9 i10 i11 F) (fun z => (z = (0, i4, i5, i7, f8) ∧ empt n s F) ∨ CW n s g F z) := by
  unfold fX3_find
  have n9 := hI.1
  have se := hI.2.1
  have hv := hI.value400
  have t0 : (0 : Int32).toInt = 0 := rfl
  refine Ok_bind (cvalue_iv h9 h10 n9.2 (by omega) hI.smF) (fun z16 h16 => Ok_if (fun h => ?_) (fun h => ?_))
  · have h := i32le h
    exact cpart_loop hI h9 h16 (by omega) n 12 0 0 (by omega) (by omega) rfl (fun a y ha => by omega)
  · have h := i32nle h
    refine Ok_bind (walk_iv hI h9 h16 (Or.inl ⟨by omega, h11⟩) h10 (Or.inl ⟨by omega, rfl⟩)) (fun z38 h38 => ?_)
    exact Ok_bz (Or.inr h38.1) (Ok_some (Or.inr h38))
theorem ctake_iv {n s g M b : Nat} {R F f8 : Nat → Int32} {w : Nat → Nat} {way m : Int} {i4 i7 : Int32} (hI : FI n s g R F) (hP : PRT n s g F w M b way m) (h4 : i4.toInt = m) (h7 : i7.toInt = (M - b : Nat) + 1) (hf : ∀ i, i ≤ M - b → (f8 i).toInt = w (b + i)) : Ok (fX3_takeFrom i4 i7 f8 F) (fun z => carried F z (fun i => w (b + i)) (-m) (M - b)) := by
  unfold fX3_takeFrom
  have n9 := hI.1
  have am := hP.amount hI
  have hM := hP.2.1
  have lt := hP.lt hI
  have e : (-i4).toInt = -m := by rw [neg_iv (by omega), h4]
  refine Ok_bind (along_iv (t := fun i => w (b + i)) (K := M - b) n9.2 h7 (by omega) (fun i hi => lt _ (by omega)) (hP.dis hI) hf (by omega) hI.f100) (fun z hz => Ok_some ?_)
  rw [e] at hz
  exact hz
