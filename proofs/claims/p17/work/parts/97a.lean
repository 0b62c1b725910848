/-! THE ASKS, sharply. c1, c2: what must hold, or the first or second exception comes; A: what the answer is -/
def CQ (c1 c2 : Prop) (A : Int → Prop) (k : Int32) (out : Int64) : Prop := (¬ c1 ∧ k = 1) ∨ (c1 ∧ ¬ c2 ∧ k = 2) ∨ (c1 ∧ c2 ∧ k = 0 ∧ ∃ v : Int32, out = v.toInt64 ∧ A v.toInt)
def RQ (c1 c2 : Prop) (A : Int → Prop) (t ans : Int32) : Prop := (¬ c1 ∧ t = 1) ∨ (c1 ∧ ¬ c2 ∧ t = 2) ∨ (c1 ∧ c2 ∧ t = 0 ∧ A ans.toInt)
def only1 (A : Int → Prop) : Prop := ∀ x y, A x → A y → x = y
theorem only1_eq (a : Int) : only1 (fun v => v = a) := fun _ _ hx hy => hx.trans hy.symm
theorem CQ.cmp {c1 c2 : Prop} {A : Int → Prop} {k t ans : Int32} {out : Int64} (hu : c1 → c2 → only1 A) (h1 : CQ c1 c2 A k out) (h2 : RQ c1 c2 A t ans) : CMP k out t ans.toInt64 := by
  rcases h1 with ⟨a, b⟩ | ⟨a, b, c⟩ | ⟨a, b, c, v, d1, d2⟩ <;> rcases h2 with ⟨a', b'⟩ | ⟨a', b', c'⟩ | ⟨a', b', c', d'⟩ <;> first
    | exact absurd a' a
    | exact absurd a a'
    | exact absurd b' b
    | exact absurd b b'
    | skip
  · exact ⟨by rw [b, b'], fun q => absurd (b.symm.trans q) one_ne⟩
  · exact ⟨by rw [c, c'], fun q => absurd (c.symm.trans q) two_ne⟩
  · exact ⟨by rw [c, c'], fun _ => by rw [d1]; exact i64eq rfl (hu a b _ _ d' d2)⟩
def XQ (e1 e2 : String) (c1 c2 : Prop) (A : Int → Prop) (z : String ⊕ Int32) : Prop := (¬ c1 ∧ z = .inl e1) ∨ (c1 ∧ ¬ c2 ∧ z = .inl e2) ∨ (c1 ∧ c2 ∧ ∃ v : Int32, z = .inr v ∧ A v.toInt)
theorem xcq2 {x : Option (String ⊕ Int32)} {l : Int64} {c1 c2 : Prop} {A : Int → Prop} (h : Ok x (XQ IOB IAE c1 c2 A)) : Ok (xc x (fun en => if en = IOB then (some ((1 : Int32), l)) else if en = IAE then (some ((2 : Int32), l)) else none) (fun z21 => some ((0 : Int32), z21.toInt64))) (fun z => CQ c1 c2 A z.1 z.2) := by
  obtain ⟨z, rfl, h2⟩ := h
  rcases h2 with ⟨q, rfl⟩ | ⟨q, p, rfl⟩ | ⟨q, p, v, rfl, d⟩
  · show Ok (if IOB = IOB then (some ((1 : Int32), l)) else if IOB = IAE then (some ((2 : Int32), l)) else none) _
    rw [if_pos rfl]
    exact Ok_some (Or.inl ⟨q, rfl⟩)
  · show Ok (if IAE = IOB then (some ((1 : Int32), l)) else if IAE = IAE then (some ((2 : Int32), l)) else none) _
    rw [if_neg (by decide), if_pos rfl]
    exact Ok_some (Or.inr (Or.inl ⟨q, p, rfl⟩))
  · exact ⟨_, rfl, Or.inr (Or.inr ⟨q, p, rfl, v, rfl, d⟩)⟩
theorem fl_within {α : Type} {P : α → Prop} {lo hi : Int} {i2 i3 i4 : Int32} {K : Int32 → Option α} (h3 : i3.toInt = lo) (h4 : i4.toInt = hi) (hk : ∀ i, flag (lo ≤ i2.toInt ∧ i2.toInt ≤ hi) i → Ok (K i) P) : Ok (jn K (fun k13 => jn (fun (_ : Unit) => k13 (1 : Int32)) (fun (k15 : Unit → Option α) => if i2 < i3 then (k15 ()) else (if i2 ≤ i4 then (k13 (0 : Int32)) else (k15 ()))))) P := by
  show Ok (if i2 < i3 then (K 1) else (if i2 ≤ i4 then (K 0) else (K 1))) P
  refine Ok_if (fun h => hk 1 (Or.inr ⟨?_, rfl⟩)) (fun h => Ok_if (fun g => hk 0 (Or.inl ⟨?_, rfl⟩)) (fun g => hk 1 (Or.inr ⟨?_, rfl⟩)))
  · have h := i32lt h; omega
  · have h := i32nlt h; have g := i32le g; omega
  · have g := i32nle g; omega
/-! told -/
/-! house -/
/-! pair -/
def A_pair (R F : Nat → Int32) (i2 i3 i4 : Int32) : Int := if i2 = i3 then 0 else if i4 = 0 then G R (tn i2) (tn i3) else if i4 = 1 then G F (tn i2) (tn i3) else lf R F (tn i2) (tn i3)
theorem cpair_iv {n s g : Nat} {R F Rc Fc : Nat → Int32} {i14 i2 i3 i4 : Int32} {l23 : Int64} (hI : FI n s g R F) (hR : same Rc R) (hF : same Fc F) (h14 : i14.toInt = n) : Ok (fL_pair i14 Rc Fc l23 i2 i3 i4) (fun z => CQ (pl n i2 ∧ pl n i3) (0 ≤ i4.toInt ∧ i4.toInt ≤ 2) (fun v => v = A_pair R F i2 i3 i4) z.1 z.2) := by
  have n9 := hI.1
  have hIc : FI n s g Rc Fc := hI.ofsame hR hF
  unfold fL_pair
  refine xcq2 ?_
  unfold fX6_pair
  refine xb_need (needPlace_iv h14) (fun q => Or.inl ⟨fun c => q c.1, rfl⟩) (fun q1 => xb_need (needPlace_iv h14) (fun q => Or.inl ⟨fun c => q c.2, rfl⟩) (fun q2 => xb_need (needWithin_iv (lo := 0) (hi := 2) rfl rfl) (fun p => Or.inr (Or.inl ⟨⟨q1, q2⟩, p, rfl⟩)) (fun p => ?_)))
  obtain ⟨a2, l2⟩ := q1.eq
  obtain ⟨a3, l3⟩ := q2.eq
  refine Ok_if (fun e => ⟨_, rfl, Or.inr (Or.inr ⟨⟨q1, q2⟩, p, _, rfl, ?_⟩)⟩) (fun e0 => Ok_if (fun e => Ok_bind (at_iv a2 a3 (by omega) (by omega)) (fun z hz => ⟨_, rfl, Or.inr (Or.inr ⟨⟨q1, q2⟩, p, _, rfl, ?_⟩)⟩)) (fun e1 => Ok_if (fun e => Ok_bind (at_iv a2 a3 (by omega) (by omega)) (fun z hz => ⟨_, rfl, Or.inr (Or.inr ⟨⟨q1, q2⟩, p, _, rfl, ?_⟩)⟩)) (fun e2 => Ok_bind (cleft_iv a2 a3 (by omega) (by omega) hIc.smR hIc.smF) (fun z hz => ⟨_, rfl, Or.inr (Or.inr ⟨⟨q1, q2⟩, p, _, rfl, ?_⟩)⟩))))
  · show _ = A_pair R F i2 i3 i4
    unfold A_pair; rw [if_pos e]; rfl
  · show _ = A_pair R F i2 i3 i4
    unfold A_pair; rw [if_neg e0, if_pos e, hz]; exact hR _ _ (by omega) (by omega)
  · show _ = A_pair R F i2 i3 i4
    unfold A_pair; rw [if_neg e0, if_neg e1, if_pos e, hz]; exact hF _ _ (by omega) (by omega)
  · show _ = A_pair R F i2 i3 i4
    unfold A_pair; rw [if_neg e0, if_neg e1, if_neg e2, hz]; unfold lf; rw [hR _ _ (by omega) (by omega), hF _ _ (by omega) (by omega)]
theorem pairNow_iv {n s g : Nat} {R F : Nat → Int32} {i2 i3 i4 : Int32} (hI : FI n s g R F) (q : pl n i2 ∧ pl n i3) : Ok (fX8_pairNow R F i2 i3 i4) (fun z => z.toInt = A_pair R F i2 i3 i4) := by
  have n9 := hI.1
  obtain ⟨a2, l2⟩ := q.1.eq
  obtain ⟨a3, l3⟩ := q.2.eq
  obtain ⟨-, -, gR, -⟩ := cell_iv (F := R) q.1 q.2 n9.2
  obtain ⟨-, -, -, gF⟩ := cell_iv (F := F) q.1 q.2 n9.2
  unfold fX8_pairNow A_pair
  refine Ok_if (fun e => ?_) (fun e0 => Ok_if (fun e => ?_) (fun e1 => Ok_if (fun e => ?_) (fun e2 => ?_)))
  · rw [if_pos e]; exact Ok_some rfl
  · rw [if_neg e0, if_pos e]; exact Ok_bind gR (fun z hz => Ok_some hz)
  · rw [if_neg e0, if_neg e1, if_pos e]; exact Ok_bind gF (fun z hz => Ok_some hz)
  · rw [if_neg e0, if_neg e1, if_neg e2]; exact Ok_bind (left_iv a2 a3 (by omega) (by omega) hI.smR hI.smF) (fun z hz => Ok_some hz)
theorem pair_iv {n s g : Nat} {R F : Nat → Int32} {i5 i2 i3 i4 : Int32} (hI : FI n s g R F) (h5 : i5.toInt = n) : Ok (fX8_pair i5 R F i2 i3 i4) (fun z => RQ (pl n i2 ∧ pl n i3) (0 ≤ i4.toInt ∧ i4.toInt ≤ 2) (fun v => v = A_pair R F i2 i3 i4) z.2 z.1) := by
  unfold fX8_pair
  refine fl_pp h5 (fun i hi => fl_within (lo := 0) (hi := 2) rfl rfl (fun j hj => ?_))
  refine thrown2 hi hj (fun q => ⟨_, rfl, Or.inl ⟨q, rfl⟩⟩) (fun q p => ⟨_, rfl, Or.inr (Or.inl ⟨q, p, rfl⟩)⟩) (fun q p => Ok_if (fun _ => ?_) (fun h => absurd rfl h))
  exact Ok_bind (pairNow_iv hI q) (fun z hz => Ok_some (Or.inr (Or.inr ⟨q, p, rfl, hz⟩)))
/-! value -/