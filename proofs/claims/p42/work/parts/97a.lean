/-! THE ASKS, sharply. c1, c2: what must hold, or the first or second exception comes; A: what the answer is -/
def CQ (c1 c2 : Prop) (A : Int → Prop) (k : Int32) (out : Int64) : Prop := (¬ c1 ∧ k = 1) ∨ (c1 ∧ ¬ c2 ∧ k = 2) ∨ (c1 ∧ c2 ∧ k = 0 ∧ ∃ v : Int32, out = v.toInt64 ∧ A v.toInt)
def only1 (A : Int → Prop) : Prop := ∀ x y, A x → A y → x = y
def XQ (e1 e2 : String) (c1 c2 : Prop) (A : Int → Prop) (z : String ⊕ Int32) : Prop := (¬ c1 ∧ z = .inl e1) ∨ (c1 ∧ ¬ c2 ∧ z = .inl e2) ∨ (c1 ∧ c2 ∧ ∃ v : Int32, z = .inr v ∧ A v.toInt)
theorem xcq1 {x : Option (String ⊕ Int32)} {l : Int64} {c : Prop} {A : Int → Prop} (h : Ok x (XQ IAE IAE c True A)) : Ok (xc x (fun en => if en = IAE then (some ((1 : Int32), l)) else none) (fun z21 => some ((0 : Int32), z21.toInt64))) (fun z => CQ c True A z.1 z.2) := by
  obtain ⟨z, rfl, h2⟩ := h
  rcases h2 with ⟨q, rfl⟩ | ⟨q, p, rfl⟩ | ⟨q, p, v, rfl, d⟩
  · show Ok (if IAE = IAE then (some ((1 : Int32), l)) else none) _
    rw [if_pos rfl]
    exact Ok_some (Or.inl ⟨q, rfl⟩)
  · exact absurd trivial p
  · exact ⟨_, rfl, Or.inr (Or.inr ⟨q, p, rfl, v, rfl, d⟩)⟩
theorem xcq2 {x : Option (String ⊕ Int32)} {l : Int64} {c1 c2 : Prop} {A : Int → Prop} (h : Ok x (XQ IOB IAE c1 c2 A)) : Ok (xc x (fun en => if en = IOB then (some ((1 : Int32), l)) else if en = IAE then (some ((2 : Int32), l)) else none) (fun z21 => some ((0 : Int32), z21.toInt64))) (fun z => CQ c1 c2 A z.1 z.2) := by
  obtain ⟨z, rfl, h2⟩ := h
  rcases h2 with ⟨q, rfl⟩ | ⟨q, p, rfl⟩ | ⟨q, p, v, rfl, d⟩
  · show Ok (if IOB = IOB then (some ((1 : Int32), l)) else if IOB = IAE then (some ((2 : Int32), l)) else none) _
    rw [if_pos rfl]
    exact Ok_some (Or.inl ⟨q, rfl⟩)
  · show Ok (if IAE = IOB then (some ((1 : Int32), l)) else if IAE = IAE then (some ((2 : Int32), l)) else none) _
    rw [if_neg (by decide), if_pos rfl]
    exact Ok_some (Or.inr (Or.inl ⟨q, p, rfl⟩))
  · exact ⟨_, rfl, Or.inr (Or.inr ⟨q, p, rfl, v, rfl, d⟩)⟩
theorem lpQ {α γ : Type} {L : Nat → α → Int32 → Option γ} {P : γ → Prop} {Q : Nat → α → Prop} {n : Nat} (hend : ∀ (c : Nat) (a : α) (i : Int32), i.toInt = (n : Int) → Q n a → Ok (L (c + 1) a i) P) (hstep : ∀ (c : Nat) (a : α) (i : Int32) (k : Nat), k < n → i.toInt = (k : Int) → Q k a → (∀ (a' : α) (i' : Int32), Q (k + 1) a' → i'.toInt = (k : Int) + 1 → Ok (L c a' i') P) → Ok (L (c + 1) a i) P) {c : Nat} {a0 : α} (hc : n < c) (h0 : Q 0 a0) : Ok (L c a0 0) P := by
  have go : ∀ (r c : Nat) (a : α) (i : Int32) (k : Nat), k + r = n → r < c → i.toInt = k → Q k a → Ok (L c a i) P := by
    intro r
    induction r with
    | zero =>
      intro c a i k hk hc hi hQ
      cases c with
      | zero => omega
      | succ c =>
        have e : k = n := by omega
        subst e
        exact hend c a i hi hQ
    | succ r ih =>
      intro c a i k hk hc hi hQ
      cases c with
      | zero => omega
      | succ c => exact hstep c a i k (by omega) hi hQ (fun a' i' h1 h2 => ih c a' i' (k + 1) (by omega) (by omega) (by omega) h1)
  exact go n c a0 0 0 (by omega) hc rfl h0
/-! told -/
def A_told (n s g : Nat) (R : Nat → Int32) (i2 : Int32) : Int := if i2 = 0 then n else if i2 = 1 then s else if i2 = 2 then g else if i2 = 3 then cpos n R else sumN n (outF n R)
theorem ctold_iv {n s g : Nat} {R F Rc : Nat → Int32} {i12 i13 i14 i2 : Int32} {l19 : Int64} (hI : FI n s g R F) (hR : same Rc R) (h12 : i12.toInt = n) (h13 : i13.toInt = s) (h14 : i14.toInt = g) : Ok (fL_told i12 i13 i14 Rc l19 i2) (fun z => CQ (0 ≤ i2.toInt ∧ i2.toInt ≤ 4) True (fun v => v = A_told n s g R i2) z.1 z.2) := by
  have n9 := hI.1
  have hIc : FI n s g Rc F := hI.ofsame hR (same_refl F)
  unfold fL_told
  refine xcq1 ?_
  unfold fX6_told
  refine xb_need (needWithin_iv (lo := 0) (hi := 4) rfl rfl) (fun q => Or.inl ⟨q, rfl⟩) (fun q => ?_)
  refine Ok_if (fun e => ⟨_, rfl, Or.inr (Or.inr ⟨q, trivial, _, rfl, ?_⟩)⟩) (fun e0 => Ok_if (fun e => ⟨_, rfl, Or.inr (Or.inr ⟨q, trivial, _, rfl, ?_⟩)⟩) (fun e1 => Ok_if (fun e => ⟨_, rfl, Or.inr (Or.inr ⟨q, trivial, _, rfl, ?_⟩)⟩) (fun e2 => Ok_if (fun e => Ok_bind (count_iv h12 n9.2) (fun z hz => ⟨_, rfl, Or.inr (Or.inr ⟨q, trivial, _, rfl, ?_⟩)⟩)) (fun e3 => Ok_bind (croom_iv hIc h12) (fun z hz => ⟨_, rfl, Or.inr (Or.inr ⟨q, trivial, _, rfl, ?_⟩)⟩)))))
  · show _ = A_told n s g R i2
    unfold A_told; rw [if_pos e]; exact h12
  · show _ = A_told n s g R i2
    unfold A_told; rw [if_neg e0, if_pos e]; exact h13
  · show _ = A_told n s g R i2
    unfold A_told; rw [if_neg e0, if_neg e1, if_pos e]; exact h14
  · show _ = A_told n s g R i2
    unfold A_told; rw [if_neg e0, if_neg e1, if_neg e2, if_pos e, hz]; exact cpos_same n9.2 hR
  · show _ = A_told n s g R i2
    unfold A_told; rw [if_neg e0, if_neg e1, if_neg e2, if_neg e3, hz]
    exact sumN_eq n (fun a ha => outF_same hR n9.2 ha)
theorem roomsum_iv {n s g : Nat} {R F : Nat → Int32} {i2 : Int32} (hI : FI n s g R F) (h2 : i2.toInt = n) : Ok (fX8_sumOfRooms i2 R) (fun z => z.toInt = sumN n (outF n R)) := by
  have n9 := hI.1
  have hR : ∀ a b, a < 9 → b < 9 → -50 ≤ G R a b ∧ G R a b ≤ 50 := fun a b ha hb => by have := (hI.2.2.1 a b ha hb).1; omega
  have ob : ∀ k, k < n → -450 ≤ outF n R k ∧ outF n R k ≤ 450 := fun k hk => by
    have := sumN_b (f := G R k) (c := 50) n (fun y hy => hR k y (by omega) (by omega))
    unfold outF
    omega
  unfold fX8_sumOfRooms
  refine lpQ (L := fun c a i => LX8_sumOfRooms_L4 i2 R c a i) (n := n) (Q := fun k a => a.toInt = sumN k (outF n R)) (fun c a i hi ha => ?_) (fun c a i k hk hi ha rec => ?_) (by omega) rfl
  · show Ok (BX8_sumOfRooms_L4 i2 R a i (fun x y => LX8_sumOfRooms_L4 i2 R c x y)) _
    unfold BX8_sumOfRooms_L4
    refine Ok_if (fun _ => Ok_some ha) (fun h => ?_)
    have h := i32nle h
    omega
  · show Ok (BX8_sumOfRooms_L4 i2 R a i (fun x y => LX8_sumOfRooms_L4 i2 R c x y)) _
    unfold BX8_sumOfRooms_L4
    have ei := inc_iv (x := i) (by omega)
    refine Ok_if (fun h => ?_) (fun _ => ?_)
    · have h := i32le h
      omega
    · refine Ok_bind (fromPlace_iv h2 hi n9.2 (by omega) (fun b hb => hR k b (by omega) hb)) (fun z hz => Ok_nm (fun y wy => ?_))
      have b1 := sumN_b (f := outF n R) (c := 450) k (fun b hb => ob b (by omega))
      have b2 := ob k hk
      refine rec y _ ?_ (by omega)
      show y.toInt = sumN k (outF n R) + outF n R k
      rw [wy, add_iv (by omega) (by omega), ha, hz]
theorem toldNow_iv {n s g : Nat} {R F : Nat → Int32} {i3 i6 i7 i2 : Int32} (hI : FI n s g R F) (h3 : i3.toInt = n) (h6 : i6.toInt = s) (h7 : i7.toInt = g) (q : 0 ≤ i2.toInt ∧ i2.toInt ≤ 4) : Ok (fX8_toldNow i3 i6 i7 R i2) (fun z => z.toInt = A_told n s g R i2) := by
  have n9 := hI.1
  have t0 : (0 : Int32).toInt = 0 := rfl
  have t1 : (1 : Int32).toInt = 1 := rfl
  have t2 : (2 : Int32).toInt = 2 := rfl
  have t3 : (3 : Int32).toInt = 3 := rfl
  have t4 : (4 : Int32).toInt = 4 := rfl
  have t81 : (81 : Int32).toInt = 81 := rfl
  unfold fX8_toldNow
  refine Ok_if (fun h => ?_) (fun h => ?_)
  · have h := i32le h
    have e0 : ¬ i2 = 0 := fun e => by have := i32eq e; omega
    have e1 : ¬ i2 = 1 := fun e => by have := i32eq e; omega
    have e2 : ¬ i2 = 2 := fun e => by have := i32eq e; omega
    refine Ok_if (fun e => ?_) (fun e => ?_)
    · have e3 : ¬ i2 = 3 := fun e' => by have := i32eq e; have := i32eq e'; omega
      unfold A_told
      rw [if_neg e0, if_neg e1, if_neg e2, if_neg e3]
      exact Ok_bind (roomsum_iv hI h3) (fun z hz => Ok_some hz)
    · have e3 : i2 = 3 := Int32.toInt_inj.mp (by
        have : ¬ i2.toInt = 4 := fun w => e (Int32.toInt_inj.mp w)
        omega)
      unfold A_told
      rw [if_neg e0, if_neg e1, if_neg e2, if_pos e3, ← cpos_81 n9.2 (fun a b ha hb hab => (hI.2.2.1 a b ha hb).2 (Or.inr hab))]
      refine lpQ (L := fun c a i => LX8_toldNow_L57 R c a i) (n := 81) (Q := fun k a => a.toInt = sumN k (fun j => if 0 < (R j).toInt then 1 else 0)) (fun c a i hi ha => ?_) (fun c a i k hk hi ha rec => ?_) (by omega) rfl
      · show Ok (BX8_toldNow_L57 R a i (fun x y => LX8_toldNow_L57 R c x y)) _
        unfold BX8_toldNow_L57
        refine Ok_if (fun _ => Ok_some ha) (fun h => ?_)
        have h := i32nle h
        omega
      · show Ok (BX8_toldNow_L57 R a i (fun x y => LX8_toldNow_L57 R c x y)) _
        unfold BX8_toldNow_L57
        have ei := inc_iv (x := i) (by omega)
        have bd := ind_bd (F := R) k
        have en : i.toNatClampNeg = k := toNat_iv hi
        refine Ok_if (fun h => ?_) (fun _ => Ok_inB (vp_of (by omega) (by omega)) (Ok_nm (fun y wy => Ok_jn (fun kk wk => ?_))))
        · have h := i32le h
          omega
        · rw [en] at wy
          have e : sumN (k + 1) (fun j => if 0 < (R j).toInt then (1 : Int) else 0) = sumN k (fun j => if 0 < (R j).toInt then (1 : Int) else 0) + (if 0 < (R k).toInt then 1 else 0) := rfl
          rw [wk]
          refine Ok_if (fun h => Ok_nm (fun w ww => rec w _ ?_ (by omega))) (fun h => Ok_nm (fun w ww => rec w _ ?_ (by omega)))
          · have h := i32le h
            show w.toInt = sumN (k + 1) _
            rw [e, if_neg (by rw [← wy]; omega), ww, add_iv (by omega) (by omega), ha, t0]
          · have h := i32nle h
            show w.toInt = sumN (k + 1) _
            rw [e, if_pos (by rw [← wy]; omega), ww, add_iv (by omega) (by omega), ha, t1]
  · have h := i32nle h
    refine Ok_if (fun e => ?_) (fun e0 => Ok_if (fun e => ?_) (fun e1 => ?_))
    · unfold A_told
      rw [if_pos e]
      exact Ok_some h3
    · unfold A_told
      rw [if_neg e0, if_pos e]
      exact Ok_some h6
    · have e2 : i2 = 2 := Int32.toInt_inj.mp (by
        have : ¬ i2.toInt = 0 := fun w => e0 (Int32.toInt_inj.mp w)
        have : ¬ i2.toInt = 1 := fun w => e1 (Int32.toInt_inj.mp w)
        omega)
      unfold A_told
      rw [if_neg e0, if_neg e1, if_pos e2]
      exact Ok_some h7
/-! house -/
def A_house (i8 i9 i10 i2 : Int32) : Int := if i2 = 0 then i8.toInt else if i2 = 1 then i9.toInt else i10.toInt
theorem chouse_iv (i9 i10 i11 : Int32) (l12 : Int64) (i2 : Int32) : Ok (fL_house i9 i10 i11 l12 i2) (fun z => CQ (0 ≤ i2.toInt ∧ i2.toInt ≤ 2) True (fun v => v = A_house i9 i10 i11 i2) z.1 z.2) := by
  unfold fL_house
  refine xcq1 ?_
  unfold fX6_house
  refine xb_need (needWithin_iv (lo := 0) (hi := 2) rfl rfl) (fun q => Or.inl ⟨q, rfl⟩) (fun q => ?_)
  unfold A_house
  refine Ok_if (fun e => ⟨_, rfl, Or.inr (Or.inr ⟨q, trivial, _, rfl, ?_⟩)⟩) (fun e0 => Ok_if (fun e => ⟨_, rfl, Or.inr (Or.inr ⟨q, trivial, _, rfl, ?_⟩)⟩) (fun e1 => ⟨_, rfl, Or.inr (Or.inr ⟨q, trivial, _, rfl, ?_⟩)⟩))
  · exact (if_pos e).symm
  · exact ((if_neg e0).trans (if_pos e)).symm
  · exact ((if_neg e0).trans (if_neg e1)).symm
/-! pair -/
def A_pair (R F : Nat → Int32) (i2 i3 i4 : Int32) : Int := if i2 = i3 then 0 else if i4 = 0 then G R (tn i2) (tn i3) else if i4 = 1 then G F (tn i2) (tn i3) else lf R F (tn i2) (tn i3)
theorem cpair_iv {n s g : Nat} {R F Rc Fc : Nat → Int32} {i14 i2 i3 i4 : Int32} {l23 : Int64} (hI : FI n s g R F) (hR : same Rc R) (hF : same Fc F) (h14 : i14.toInt = n) : Ok (fL_pair i14 Rc Fc l23 i2 i3 i4) (fun z => CQ (pl n i2 ∧ pl n i3) (0 ≤ i4.toInt ∧ i4.toInt ≤ 2) (fun v => v = A_pair R F i2 i3 i4) z.1 z.2) := by
  have n9 := hI.1
  have hIc : FI n s g Rc Fc := hI.ofsame hR hF
  unfold fL_pair
  refine xcq2 ?_
  unfold fX6_pair
  refine xb_need (needPlace_iv h14) (fun q => Or.inl ⟨fun c => q c.1, rfl⟩) (fun q1 => xb_need (needPlace_iv h14) (fun q => Or.inl ⟨fun c => q c.2, rfl⟩) (fun q2 => xb_need (needWithin_iv (lo := 0) (hi := 2) rfl rfl) (fun p => Or.inr (Or.inl ⟨⟨q1, q2⟩, p, rfl⟩)) (fun p => ?_)))
  obtain ⟨a2, l2⟩ := q1.eq
  obtain ⟨a3, l3⟩ := q2.eq
  refine Ok_if (fun e => ⟨_, rfl, Or.inr (Or.inr ⟨⟨q1, q2⟩, p, _, rfl, ?_⟩)⟩) (fun e0 => Ok_if (fun e => Ok_bind (at_iv a2 a3 (by omega) (by omega)) (fun z hz => ⟨_, rfl, Or.inr (Or.inr ⟨⟨q1, q2⟩, p, _, rfl, ?_⟩)⟩)) (fun e1 => Ok_if (fun e => Ok_bind (at_iv a2 a3 (by omega) (by omega)) (fun z hz => ⟨_, rfl, Or.inr (Or.inr ⟨⟨q1, q2⟩, p, _, rfl, ?_⟩)⟩)) (fun e2 => Ok_bind (cleft_iv a2 a3 (by omega) (by omega) hIc.smR hIc.smF) (fun z hz => ⟨_, rfl, Or.inr (Or.inr ⟨⟨q1, q2⟩, p, _, rfl, ?_⟩)⟩))))
  · show _ = A_pair R F i2 i3 i4
    unfold A_pair; rw [if_pos e]; rfl
  · show _ = A_pair R F i2 i3 i4
    unfold A_pair; rw [if_neg e0, if_pos e, hz]; exact hR _ _ (by omega) (by omega)
  · show _ = A_pair R F i2 i3 i4
    unfold A_pair; rw [if_neg e0, if_neg e1, if_pos e, hz]; exact hF _ _ (by omega) (by omega)
  · show _ = A_pair R F i2 i3 i4
    unfold A_pair; rw [if_neg e0, if_neg e1, if_neg e2, hz]; unfold lf; rw [hR _ _ (by omega) (by omega), hF _ _ (by omega) (by omega)]
theorem pairNow_iv {n s g : Nat} {R F : Nat → Int32} {i2 i3 i4 : Int32} (hI : FI n s g R F) (q : pl n i2 ∧ pl n i3) : Ok (fX8_pairNow R F i2 i3 i4) (fun z => z.toInt = A_pair R F i2 i3 i4) := by
  have n9 := hI.1
  obtain ⟨a2, l2⟩ := q.1.eq
  obtain ⟨a3, l3⟩ := q.2.eq
  obtain ⟨-, -, gR, -⟩ := cell_iv (F := R) q.1 q.2 n9.2
  obtain ⟨-, -, -, gF⟩ := cell_iv (F := F) q.1 q.2 n9.2
  unfold fX8_pairNow A_pair
  refine Ok_if (fun e => ?_) (fun e0 => Ok_if (fun e => ?_) (fun e1 => Ok_if (fun e => ?_) (fun e2 => ?_)))
  · rw [if_pos e]; exact Ok_some rfl
  · rw [if_neg e0, if_pos e]; exact Ok_bind gR (fun z hz => Ok_some hz)
  · rw [if_neg e0, if_neg e1, if_pos e]; exact Ok_bind gF (fun z hz => Ok_some hz)
  · rw [if_neg e0, if_neg e1, if_neg e2]; exact Ok_bind (left_iv a2 a3 (by omega) (by omega) hI.smR hI.smF) (fun z hz => Ok_some hz)
/-! value -/
theorem cvalueNow_iv {n s g : Nat} {R F Fc : Nat → Int32} {i10 i11 : Int32} (hI : FI n s g R F) (hF : same Fc F) (h10 : i10.toInt = n) (h11 : i11.toInt = s) : Ok (fX6_value i10 i11 Fc) (fun z => z.toInt = outF n F s) := by
  have n9 := hI.1
  have se := hI.2.1
  have hIc : FI n s g R Fc := hI.ofsame (same_refl R) hF
  unfold fX6_value
  exact Ok_bind (cvalue_iv h10 h11 n9.2 (by omega) hIc.smF) (fun z hz => Ok_some (by rw [hz]; exact outF_same hF n9.2 se.1))