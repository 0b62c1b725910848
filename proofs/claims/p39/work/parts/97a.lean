/-! THE ASKS, sharply. c1, c2: what must hold, or the first or second exception comes; A: what the answer is -/
def CQ (c1 c2 : Prop) (A : Int → Prop) (k : Int32) (out : Int64) : Prop := (¬ c1 ∧ k = 1) ∨ (c1 ∧ ¬ c2 ∧ k = 2) ∨ (c1 ∧ c2 ∧ k = 0 ∧ ∃ v : Int32, out = v.toInt64 ∧ A v.toInt)
def RQ (c1 c2 : Prop) (A : Int → Prop) (t ans : Int32) : Prop := (¬ c1 ∧ t = 1) ∨ (c1 ∧ ¬ c2 ∧ t = 2) ∨ (c1 ∧ c2 ∧ t = 0 ∧ A ans.toInt)
def only1 (A : Int → Prop) : Prop := ∀ x y, A x → A y → x = y
theorem only1_eq (a : Int) : only1 (fun v => v = a) := fun _ _ hx hy => hx.trans hy.symm
theorem CQ.cmp {c1 c2 : Prop} {A : Int → Prop} {k t ans : Int32} {out : Int64} (hu : c1 → c2 → only1 A) (h1 : CQ c1 c2 A k out) (h2 : RQ c1 c2 A t ans) : CMP k out t ans.toInt64 := by
  rcases h1 with ⟨a, b⟩ | ⟨a, b, c⟩ | ⟨a, b, c, v, d1, d2⟩ <;> rcases h2 with ⟨a', b'⟩ | ⟨a', b', c'⟩ | ⟨a', b', c', d'⟩ <;> first
    | exact absurd a' a
    | exact absurd a a'
    | exact absurd b' b
    | exact absurd b b'
    | skip
  · exact ⟨by rw [b, b'], fun q => absurd (b.symm.trans q) one_ne⟩
  · exact ⟨by rw [c, c'], fun q => absurd (c.symm.trans q) two_ne⟩
  · exact ⟨by rw [c, c'], fun _ => by rw [d1]; exact i64eq rfl (hu a b _ _ d' d2)⟩
def XQ (e1 e2 : String) (c1 c2 : Prop) (A : Int → Prop) (z : String ⊕ Int32) : Prop := (¬ c1 ∧ z = .inl e1) ∨ (c1 ∧ ¬ c2 ∧ z = .inl e2) ∨ (c1 ∧ c2 ∧ ∃ v : Int32, z = .inr v ∧ A v.toInt)
theorem xcq1 {x : Option (String ⊕ Int32)} {l : Int64} {c : Prop} {A : Int → Prop} (h : Ok x (XQ IAE IAE c True A)) : Ok (xc x (fun en => if en = IAE then (some ((1 : Int32), l)) else none) (fun z21 => some ((0 : Int32), z21.toInt64))) (fun z => CQ c True A z.1 z.2) := by
  obtain ⟨z, rfl, h2⟩ := h
  rcases h2 with ⟨q, rfl⟩ | ⟨q, p, rfl⟩ | ⟨q, p, v, rfl, d⟩
  · show Ok (if IAE = IAE then (some ((1 : Int32), l)) else none) _
    rw [if_pos rfl]
    exact Ok_some (Or.inl ⟨q, rfl⟩)
  · exact absurd trivial p
  · exact ⟨_, rfl, Or.inr (Or.inr ⟨q, p, rfl, v, rfl, d⟩)⟩
theorem fl_within {α : Type} {P : α → Prop} {lo hi : Int} {i2 i3 i4 : Int32} {K : Int32 → Option α} (h3 : i3.toInt = lo) (h4 : i4.toInt = hi) (hk : ∀ i, flag (lo ≤ i2.toInt ∧ i2.toInt ≤ hi) i → Ok (K i) P) : Ok (jn K (fun k13 => jn (fun (_ : Unit) => k13 (1 : Int32)) (fun (k15 : Unit → Option α) => if i2 < i3 then (k15 ()) else (if i2 ≤ i4 then (k13 (0 : Int32)) else (k15 ()))))) P := by
  show Ok (if i2 < i3 then (K 1) else (if i2 ≤ i4 then (K 0) else (K 1))) P
  refine Ok_if (fun h => hk 1 (Or.inr ⟨?_, rfl⟩)) (fun h => Ok_if (fun g => hk 0 (Or.inl ⟨?_, rfl⟩)) (fun g => hk 1 (Or.inr ⟨?_, rfl⟩)))
  · have h := i32lt h; omega
  · have h := i32nlt h; have g := i32le g; omega
  · have g := i32nle g; omega
/-! told -/
/-! house -/
def A_house (i8 i9 i10 i2 : Int32) : Int := if i2 = 0 then i8.toInt else if i2 = 1 then i9.toInt else i10.toInt
theorem chouse_iv (i9 i10 i11 : Int32) (l12 : Int64) (i2 : Int32) : Ok (fL_house i9 i10 i11 l12 i2) (fun z => CQ (0 ≤ i2.toInt ∧ i2.toInt ≤ 2) True (fun v => v = A_house i9 i10 i11 i2) z.1 z.2) := by
  unfold fL_house
  refine xcq1 ?_
  unfold fX6_house
  refine xb_need (needWithin_iv (lo := 0) (hi := 2) rfl rfl) (fun q => Or.inl ⟨q, rfl⟩) (fun q => ?_)
  unfold A_house
  refine Ok_if (fun e => ⟨_, rfl, Or.inr (Or.inr ⟨q, trivial, _, rfl, ?_⟩)⟩) (fun e0 => Ok_if (fun e => ⟨_, rfl, Or.inr (Or.inr ⟨q, trivial, _, rfl, ?_⟩)⟩) (fun e1 => ⟨_, rfl, Or.inr (Or.inr ⟨q, trivial, _, rfl, ?_⟩)⟩))
  · exact (if_pos e).symm
  · exact ((if_neg e0).trans (if_pos e)).symm
  · exact ((if_neg e0).trans (if_neg e1)).symm
theorem house_iv (i8 i9 i10 i2 : Int32) : Ok (fX8_house i8 i9 i10 i2) (fun z => RQ (0 ≤ i2.toInt ∧ i2.toInt ≤ 2) True (fun v => v = A_house i8 i9 i10 i2) z.2 z.1) := by
  unfold fX8_house
  refine fl_within (lo := 0) (hi := 2) rfl rfl (fun i hi => ?_)
  refine thrown1 hi (fun q => ⟨_, rfl, Or.inl ⟨q, rfl⟩⟩) (fun q => Ok_if (fun _ => ?_) (fun h => absurd rfl h))
  refine Ok_bind (R := fun z => z.toInt = A_house i8 i9 i10 i2) ?_ (fun z hz => Ok_some (Or.inr (Or.inr ⟨q, trivial, rfl, hz⟩)))
  unfold fX8_houseNow A_house
  refine Ok_if (fun e => ?_) (fun e0 => Ok_if (fun e => ?_) (fun e1 => ?_))
  · exact Ok_some (if_pos e).symm
  · exact Ok_some ((if_neg e0).trans (if_pos e)).symm
  · exact Ok_some ((if_neg e0).trans (if_neg e1)).symm
/-! pair -/
/-! value -/