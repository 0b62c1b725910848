/-! THE ASKS, sharply. c1, c2: what must hold, or the first or second exception comes; A: what the answer is -/
def CQ (c1 c2 : Prop) (A : Int → Prop) (k : Int32) (out : Int64) : Prop := (¬ c1 ∧ k = 1) ∨ (c1 ∧ ¬ c2 ∧ k = 2) ∨ (c1 ∧ c2 ∧ k = 0 ∧ ∃ v : Int32, out = v.toInt64 ∧ A v.toInt)
def RQ (c1 c2 : Prop) (A : Int → Prop) (t ans : Int32) : Prop := (¬ c1 ∧ t = 1) ∨ (c1 ∧ ¬ c2 ∧ t = 2) ∨ (c1 ∧ c2 ∧ t = 0 ∧ A ans.toInt)
def only1 (A : Int → Prop) : Prop := ∀ x y, A x → A y → x = y
theorem only1_eq (a : Int) : only1 (fun v => v = a) := fun _ _ hx hy => hx.trans hy.symm
theorem CQ.cmp {c1 c2 : Prop} {A : Int → Prop} {k t ans : Int32} {out : Int64} (hu : c1 → c2 → only1 A) (h1 : CQ c1 c2 A k out) (h2 : RQ c1 c2 A t ans) : CMP k out t ans.toInt64 := by
  rcases h1 with ⟨a, b⟩ | ⟨a, b, c⟩ | ⟨a, b, c, v, d1, d2⟩ <;> rcases h2 with ⟨a', b'⟩ | ⟨a', b', c'⟩ | ⟨a', b', c', d'⟩ <;> first
    | exact absurd a' a
    | exact absurd a a'
    | exact absurd b' b
    | exact absurd b b'
    | skip
  · exact ⟨by rw [b, b'], fun q => absurd (b.symm.trans q) one_ne⟩
  · exact ⟨by rw [c, c'], fun q => absurd (c.symm.trans q) two_ne⟩
  · exact ⟨by rw [c, c'], fun _ => by rw [d1]; exact i64eq rfl (hu a b _ _ d' d2)⟩
def XQ (e1 e2 : String) (c1 c2 : Prop) (A : Int → Prop) (z : String ⊕ Int32) : Prop := (¬ c1 ∧ z = .inl e1) ∨ (c1 ∧ ¬ c2 ∧ z = .inl e2) ∨ (c1 ∧ c2 ∧ ∃ v : Int32, z = .inr v ∧ A v.toInt)
theorem xcq1 {x : Option (String ⊕ Int32)} {l : Int64} {c : Prop} {A : Int → Prop} (h : Ok x (XQ IAE IAE c True A)) : Ok (xc x (fun en => if en = IAE then (some ((1 : Int32), l)) else none) (fun z21 => some ((0 : Int32), z21.toInt64))) (fun z => CQ c True A z.1 z.2) := by
  obtain ⟨z, rfl, h2⟩ := h
  rcases h2 with ⟨q, rfl⟩ | ⟨q, p, rfl⟩ | ⟨q, p, v, rfl, d⟩
  · show Ok (if IAE = IAE then (some ((1 : Int32), l)) else none) _
    rw [if_pos rfl]
    exact Ok_some (Or.inl ⟨q, rfl⟩)
  · exact absurd trivial p
  · exact ⟨_, rfl, Or.inr (Or.inr ⟨q, p, rfl, v, rfl, d⟩)⟩
theorem fl_within {α : Type} {P : α → Prop} {lo hi : Int} {i2 i3 i4 : Int32} {K : Int32 → Option α} (h3 : i3.toInt = lo) (h4 : i4.toInt = hi) (hk : ∀ i, flag (lo ≤ i2.toInt ∧ i2.toInt ≤ hi) i → Ok (K i) P) : Ok (jn K (fun k13 => jn (fun (_ : Unit) => k13 (1 : Int32)) (fun (k15 : Unit → Option α) => if i2 < i3 then (k15 ()) else (if i2 ≤ i4 then (k13 (0 : Int32)) else (k15 ()))))) P := by
  show Ok (if i2 < i3 then (K 1) else (if i2 ≤ i4 then (K 0) else (K 1))) P
  refine Ok_if (fun h => hk 1 (Or.inr ⟨?_, rfl⟩)) (fun h => Ok_if (fun g => hk 0 (Or.inl ⟨?_, rfl⟩)) (fun g => hk 1 (Or.inr ⟨?_, rfl⟩)))
  · have h := i32lt h; omega
  · have h := i32nlt h; have g := i32le g; omega
  · have g := i32nle g; omega
theorem lpQ {α γ : Type} {L : Nat → α → Int32 → Option γ} {P : γ → Prop} {Q : Nat → α → Prop} {n : Nat} (hend : ∀ (c : Nat) (a : α) (i : Int32), i.toInt = (n : Int) → Q n a → Ok (L (c + 1) a i) P) (hstep : ∀ (c : Nat) (a : α) (i : Int32) (k : Nat), k < n → i.toInt = (k : Int) → Q k a → (∀ (a' : α) (i' : Int32), Q (k + 1) a' → i'.toInt = (k : Int) + 1 → Ok (L c a' i') P) → Ok (L (c + 1) a i) P) {c : Nat} {a0 : α} (hc : n < c) (h0 : Q 0 a0) : Ok (L c a0 0) P := by
  have go : ∀ (r c : Nat) (a : α) (i : Int32) (k : Nat), k + r = n → r < c → i.toInt = k → Q k a → Ok (L c a i) P := by
    intro r
    induction r with
    | zero =>
      intro c a i k hk hc hi hQ
      cases c with
      | zero => omega
      | succ c =>
        have e : k = n := by omega
        subst e
        exact hend c a i hi hQ
    | succ r ih =>
      intro c a i k hk hc hi hQ
      cases c with
      | zero => omega
      | succ c => exact hstep c a i k (by omega) hi hQ (fun a' i' h1 h2 => ih c a' i' (k + 1) (by omega) (by omega) (by omega) h1)
  exact go n c a0 0 0 (by omega) hc rfl h0
/-! told -/
def A_told (n s g : Nat) (R : Nat → Int32) (i2 : Int32) : Int := if i2 = 0 then n else if i2 = 1 then s else if i2 = 2 then g else if i2 = 3 then cpos n R else sumN n (outF n R)
theorem ctold_iv {n s g : Nat} {R F Rc : Nat → Int32} {i12 i13 i14 i2 : Int32} {l19 : Int64} (hI : FI n s g R F) (hR : same Rc R) (h12 : i12.toInt = n) (h13 : i13.toInt = s) (h14 : i14.toInt = g) : Ok (fL_told i12 i13 i14 Rc l19 i2) (fun z => CQ (0 ≤ i2.toInt ∧ i2.toInt ≤ 4) True (fun v => v = A_told n s g R i2) z.1 z.2) := by
  have n9 := hI.1
  have hIc : FI n s g Rc F := hI.ofsame hR (same_refl F)
  unfold fL_told
  refine xcq1 ?_
  unfold fX6_told
  refine xb_need (needWithin_iv (lo := 0) (hi := 4) rfl rfl) (fun q => Or.inl ⟨q, rfl⟩) (fun q => ?_)
  refine Ok_if (fun e => ⟨_, rfl, Or.inr (Or.inr ⟨q, trivial, _, rfl, ?_⟩)⟩) (fun e0 => Ok_if (fun e => ⟨_, rfl, Or.inr (Or.inr ⟨q, trivial, _, rfl, ?_⟩)⟩) (fun e1 => Ok_if (fun e => ⟨_, rfl, Or.inr (Or.inr ⟨q, trivial, _, rfl, ?_⟩)⟩) (fun e2 => Ok_if (fun e => Ok_bind (count_iv h12 n9.2) (fun z hz => ⟨_, rfl, Or.inr (Or.inr ⟨q, trivial, _, rfl, ?_⟩)⟩)) (fun e3 => Ok_bind (croom_iv hIc h12) (fun z hz => ⟨_, rfl, Or.inr (Or.inr ⟨q, trivial, _, rfl, ?_⟩)⟩)))))
  · show _ = A_told n s g R i2
    unfold A_told; rw [if_pos e]; exact h12
  · show _ = A_told n s g R i2
    unfold A_told; rw [if_neg e0, if_pos e]; exact h13
  · show _ = A_told n s g R i2
    unfold A_told; rw [if_neg e0, if_neg e1, if_pos e]; exact h14
  · show _ = A_told n s g R i2
    unfold A_told; rw [if_neg e0, if_neg e1, if_neg e2, if_pos e, hz]; exact cpos_same n9.2 hR
  · show _ = A_told n s g R i2
    unfold A_told; rw [if_neg e0, if_neg e1, if_neg e2, if_neg e3, hz]
    exact sumN_eq n (fun a ha => outF_same hR n9.2 ha)
theorem roomsum_iv {n s g : Nat} {R F : Nat → Int32} {i2 : Int32} (hI : FI n s g R F) (h2 : i2.toInt = n) : Ok (fX8_sumOfRooms i2 R) (fun z => z.toInt = sumN n (outF n R)) := by
  have n9 := hI.1
  have hR : ∀ a b, a < 9 → b < 9 → -50 ≤ G R a b ∧ G R a b ≤ 50 := fun a b ha hb => by have := (hI.2.2.1 a b ha hb).1; omega
  have ob : ∀ k, k < n → -450 ≤ outF n R k ∧ outF n R k ≤ 450 := fun k hk => by
    have := sumN_b (f := G R k) (c := 50) n (fun y hy => hR k y (by omega) (by omega))
    unfold outF
    omega
  unfold fX8_sumOfRooms
  refine lpQ (L := fun c a i => LX8_sumOfRooms_L4 i2 R c a i) (n := n) (Q := fun k a => a.toInt = sumN k (outF n R)) (fun c a i hi ha => ?_) (fun c a i k hk hi ha rec => ?_) (by omega) rfl
  · show Ok (BX8_sumOfRooms_L4 i2 R a i (fun x y => LX8_sumOfRooms_L4 i2 R c x y)) _
    unfold BX8_sumOfRooms_L4
    refine Ok_if (fun _ => Ok_some ha) (fun h => ?_)
    have h := i32nle h
    omega
  · show Ok (BX8_sumOfRooms_L4 i2 R a i (fun x y => LX8_sumOfRooms_L4 i2 R c x y)) _
    unfold BX8_sumOfRooms_L4
    have ei := inc_iv (x := i) (by omega)
    refine Ok_if (fun h => ?_) (fun _ => ?_)
    · have h := i32le h
      omega
    · refine Ok_bind (fromPlace_iv h2 hi n9.2 (by omega) (fun b hb => hR k b (by omega) hb)) (fun z hz => Ok_nm (fun y wy => ?_))
      have b1 := sumN_b (f := outF n R) (c := 450) k (fun b hb => ob b (by omega))
      have b2 := ob k hk
      refine rec y _ ?_ (by omega)
      show y.toInt = sumN k (outF n R) + outF n R k
      rw [wy, add_iv (by omega) (by omega), ha, hz]
theorem toldNow_iv {n s g : Nat} {R F : Nat → Int32} {i3 i6 i7 i2 : Int32} (hI : FI n s g R F) (h3 : i3.toInt = n) (h6 : i6.toInt = s) (h7 : i7.toInt = g) (q : 0 ≤ i2.toInt ∧ i2.toInt ≤ 4) : Ok (fX8_toldNow i3 i6 i7 R i2) (fun z => z.toInt = A_told n s g R i2) := by
  have n9 := hI.1
  have t0 : (0 : Int32).toInt = 0 := rfl
  have t1 : (1 : Int32).toInt = 1 := rfl
  have t2 : (2 : Int32).toInt = 2 := rfl
  have t3 : (3 : Int32).toInt = 3 := rfl
  have t4 : (4 : Int32).toInt = 4 := rfl
  have t81 : (81 : Int32).toInt = 81 := rfl
  unfold fX8_toldNow
  refine Ok_if (fun h => ?_) (fun h => ?_)
  · have h := i32le h
    have e0 : ¬ i2 = 0 := fun e => by have := i32eq e; omega
    have e1 : ¬ i2 = 1 := fun e => by have := i32eq e; omega
    have e2 : ¬ i2 = 2 := fun e => by have := i32eq e; omega
    refine Ok_if (fun e => ?_) (fun e => ?_)
    · have e3 : ¬ i2 = 3 := fun e' => by have := i32eq e; have := i32eq e'; omega
      unfold A_told
      rw [if_neg e0, if_neg e1, if_neg e2, if_neg e3]
      exact Ok_bind (roomsum_iv hI h3) (fun z hz => Ok_some hz)
    · have e3 : i2 = 3 := Int32.toInt_inj.mp (by
        have : ¬ i2.toInt = 4 := fun w => e (Int32.toInt_inj.mp w)
        omega)
      unfold A_told
      rw [if_neg e0, if_neg e1, if_neg e2, if_pos e3, ← cpos_81 n9.2 (fun a b ha hb hab => (hI.2.2.1 a b ha hb).2 (Or.inr hab))]
      refine lpQ (L := fun c a i => LX8_toldNow_L57 R c a i) (n := 81) (Q := fun k a => a.toInt = sumN k (fun j => if 0 < (R j).toInt then 1 else 0)) (fun c a i hi ha => ?_) (fun c a i k hk hi ha rec => ?_) (by omega) rfl
      · show Ok (BX8_toldNow_L57 R a i (fun x y => LX8_toldNow_L57 R c x y)) _
        unfold BX8_toldNow_L57
        refine Ok_if (fun _ => Ok_some ha) (fun h => ?_)
        have h := i32nle h
        omega
      · show Ok (BX8_toldNow_L57 R a i (fun x y => LX8_toldNow_L57 R c x y)) _
        unfold BX8_toldNow_L57
        have ei := inc_iv (x := i) (by omega)
        have bd := ind_bd (F := R) k
        have en : i.toNatClampNeg = k := toNat_iv hi
        refine Ok_if (fun h => ?_) (fun _ => Ok_inB (vp_of (by omega) (by omega)) (Ok_nm (fun y wy => Ok_jn (fun kk wk => ?_))))
        · have h := i32le h
          omega
        · rw [en] at wy
          have e : sumN (k + 1) (fun j => if 0 < (R j).toInt then (1 : Int) else 0) = sumN k (fun j => if 0 < (R j).toInt then (1 : Int) else 0) + (if 0 < (R k).toInt then 1 else 0) := rfl
          rw [wk]
          refine Ok_if (fun h => Ok_nm (fun w ww => rec w _ ?_ (by omega))) (fun h => Ok_nm (fun w ww => rec w _ ?_ (by omega)))
          · have h := i32le h
            show w.toInt = sumN (k + 1) _
            rw [e, if_neg (by rw [← wy]; omega), ww, add_iv (by omega) (by omega), ha, t0]
          · have h := i32nle h
            show w.toInt = sumN (k + 1) _
            rw [e, if_pos (by rw [← wy]; omega), ww, add_iv (by omega) (by omega), ha, t1]
  · have h := i32nle h
    refine Ok_if (fun e => ?_) (fun e0 => Ok_if (fun e => ?_) (fun e1 => ?_))
    · unfold A_told
      rw [if_pos e]
      exact Ok_some h3
    · unfold A_told
      rw [if_neg e0, if_pos e]
      exact Ok_some h6
    · have e2 : i2 = 2 := Int32.toInt_inj.mp (by
        have : ¬ i2.toInt = 0 := fun w => e0 (Int32.toInt_inj.mp w)
        have : ¬ i2.toInt = 1 := fun w => e1 (Int32.toInt_inj.mp w)
        omega)
      unfold A_told
      rw [if_neg e0, if_neg e1, if_pos e2]
      exact Ok_some h7
theorem told_iv {n s g : Nat} {R F : Nat → Int32} {i3 i6 i7 i2 : Int32} (hI : FI n s g R F) (h3 : i3.toInt = n) (h6 : i6.toInt = s) (h7 : i7.toInt = g) : Ok (fX8_told i3 i6 i7 R i2) (fun z => RQ (0 ≤ i2.toInt ∧ i2.toInt ≤ 4) True (fun v => v = A_told n s g R i2) z.2 z.1) := by
  unfold fX8_told
  refine fl_within (lo := 0) (hi := 4) rfl rfl (fun i hi => ?_)
  refine thrown1 hi (fun q => ⟨_, rfl, Or.inl ⟨q, rfl⟩⟩) (fun q => Ok_if (fun _ => ?_) (fun h => absurd rfl h))
  exact Ok_bind (toldNow_iv hI h3 h6 h7 q) (fun z hz => Ok_some (Or.inr (Or.inr ⟨q, trivial, rfl, hz⟩)))
/-! house -/
/-! pair -/
/-! value -/