/-! OF A PLACE; CUTS -/
def opf (R F : Nat → Int32) (a : Nat) (i3 : Int32) (b : Nat) : Int := if i3 = 0 then G R a b else if i3 = 1 then G R b a else if i3 = 2 then G F a b else max 0 (G F a b)
def A_ofPlace (n : Nat) (R F : Nat → Int32) (a : Nat) (i3 : Int32) : Int := sumN n (opf R F a i3)
theorem cofPlace_iv {n s g : Nat} {R F Rc Fc : Nat → Int32} {i13 i2 i3 : Int32} {l22 : Int64} (hI : FI n s g R F) (hR : same Rc R) (hF : same Fc F) (h13 : i13.toInt = n) : Ok (fL_ofPlace i13 Rc Fc l22 i2 i3) (fun z => CQ (pl n i2) (0 ≤ i3.toInt ∧ i3.toInt ≤ 3) (fun v => v = A_ofPlace n R F (tn i2) i3) z.1 z.2) := by
  have n9 := hI.1
  have hIc : FI n s g Rc Fc := hI.ofsame hR hF
  unfold fL_ofPlace
  refine xcq2 ?_
  unfold fX6_ofPlace
  refine xb_need (needPlace_iv h13) (fun q => Or.inl ⟨q, rfl⟩) (fun q => xb_need (needWithin_iv (lo := 0) (hi := 3) rfl rfl) (fun p => Or.inr (Or.inl ⟨q, p, rfl⟩)) (fun p => ?_))
  obtain ⟨a2, l2⟩ := q.eq
  refine Ok_if (fun e => Ok_bind (sumFrom_iv h13 a2 n9.2 (by omega) hIc.smR) (fun z hz => ⟨_, rfl, Or.inr (Or.inr ⟨q, p, _, rfl, ?_⟩)⟩)) (fun e0 => Ok_if (fun e => Ok_bind (sumTo_iv h13 a2 n9.2 (by omega) hIc.smR) (fun z hz => ⟨_, rfl, Or.inr (Or.inr ⟨q, p, _, rfl, ?_⟩)⟩)) (fun e1 => Ok_if (fun e => Ok_bind (sumFrom_iv h13 a2 n9.2 (by omega) hIc.smF) (fun z hz => ⟨_, rfl, Or.inr (Or.inr ⟨q, p, _, rfl, ?_⟩)⟩)) (fun e2 => Ok_bind (sumAbove_iv h13 a2 n9.2 (by omega) hIc.smF) (fun z hz => ⟨_, rfl, Or.inr (Or.inr ⟨q, p, _, rfl, ?_⟩)⟩))))
  · show z.toInt = sumN n (opf R F (tn i2) i3)
    rw [hz]
    exact sumN_eq n (fun b hb => by unfold opf; rw [if_pos e]; exact hR _ _ (by omega) (by omega))
  · show z.toInt = sumN n (opf R F (tn i2) i3)
    rw [hz]
    exact sumN_eq n (fun b hb => by unfold opf; rw [if_neg e0, if_pos e]; exact hR _ _ (by omega) (by omega))
  · show z.toInt = sumN n (opf R F (tn i2) i3)
    rw [hz]
    exact sumN_eq n (fun b hb => by unfold opf; rw [if_neg e0, if_neg e1, if_pos e]; exact hF _ _ (by omega) (by omega))
  · show z.toInt = sumN n (opf R F (tn i2) i3)
    rw [hz]
    exact sumN_eq n (fun b hb => by unfold opf; rw [if_neg e0, if_neg e1, if_neg e2, hF _ _ (by omega) (by omega)])
theorem ofPlaceNow_iv {n s g : Nat} {R F : Nat → Int32} {i4 i2 i3 : Int32} (hI : FI n s g R F) (h4 : i4.toInt = n) (q : pl n i2) : Ok (fX8_ofPlaceNow i4 R F i2 i3) (fun z => z.toInt = A_ofPlace n R F (tn i2) i3) := by
  have n9 := hI.1
  obtain ⟨a2, l2⟩ := q.eq
  have ob : ∀ b, b < n → -50 ≤ opf R F (tn i2) i3 b ∧ opf R F (tn i2) i3 b ≤ 50 := fun b hb => by
    have r1 := (hI.2.2.1 (tn i2) b (by omega) (by omega)).1
    have r2 := (hI.2.2.1 b (tn i2) (by omega) (by omega)).1
    have r3 := (hI.flow (a := tn i2) (b := b) (by omega) (by omega)).1
    unfold opf
    split
    · omega
    · split
      · omega
      · split
        · omega
        · omega
  unfold fX8_ofPlaceNow
  refine lpQ (L := fun c a i => LX8_ofPlaceNow_L5 i4 R F i2 i3 c a i) (n := n) (Q := fun k a => a.toInt = sumN k (opf R F (tn i2) i3)) (fun c a i hi ha => ?_) (fun c a i k hk hi ha rec => ?_) (by omega) rfl
  · show Ok (BX8_ofPlaceNow_L5 i4 R F i2 i3 a i (fun x y => LX8_ofPlaceNow_L5 i4 R F i2 i3 c x y)) _
    unfold BX8_ofPlaceNow_L5
    refine Ok_if (fun _ => Ok_some ha) (fun h => ?_)
    have h := i32nle h
    omega
  · show Ok (BX8_ofPlaceNow_L5 i4 R F i2 i3 a i (fun x y => LX8_ofPlaceNow_L5 i4 R F i2 i3 c x y)) _
    unfold BX8_ofPlaceNow_L5
    have ei := inc_iv (x := i) (by omega)
    have qk : pl n i := ⟨by omega, by omega⟩
    have tk : tn i = k := by unfold tn; omega
    obtain ⟨-, -, g1, -⟩ := cell_iv (F := R) q qk n9.2
    obtain ⟨-, -, g2, -⟩ := cell_iv (F := R) qk q n9.2
    obtain ⟨-, -, -, g3⟩ := cell_iv (F := F) q qk n9.2
    rw [tk] at g1 g2 g3
    refine Ok_if (fun h => ?_) (fun _ => Ok_jn (fun kk wk => ?_))
    · have h := i32le h
      omega
    · have go : ∀ v : Int32, v.toInt = opf R F (tn i2) i3 k → Ok (kk v) (fun z => z.toInt = A_ofPlace n R F (tn i2) i3) := by
        intro v hv
        rw [wk]
        have b1 := sumN_b (f := opf R F (tn i2) i3) (c := 50) k (fun b hb => ob b (by omega))
        have b2 := ob k hk
        refine Ok_nm (fun y wy => rec y _ ?_ (by omega))
        show y.toInt = sumN k (opf R F (tn i2) i3) + opf R F (tn i2) i3 k
        rw [wy, add_iv (by omega) (by omega), ha, hv]
      refine Ok_if (fun e => Ok_bind g1 (fun z hz => go z ?_)) (fun e0 => Ok_if (fun e => Ok_bind g2 (fun z hz => go z ?_)) (fun e1 => Ok_if (fun e => Ok_bind g3 (fun z hz => go z ?_)) (fun e2 => Ok_bind g3 (fun z hz => go _ ?_))))
      · unfold opf; rw [if_pos e]; exact hz
      · unfold opf; rw [if_neg e0, if_pos e]; exact hz
      · unfold opf; rw [if_neg e0, if_neg e1, if_pos e]; exact hz
      · unfold opf; rw [if_neg e0, if_neg e1, if_neg e2, max0_iv, hz]
theorem ofPlace_iv {n s g : Nat} {R F : Nat → Int32} {i4 i2 i3 : Int32} (hI : FI n s g R F) (h4 : i4.toInt = n) : Ok (fX8_ofPlace i4 R F i2 i3) (fun z => RQ (pl n i2) (0 ≤ i3.toInt ∧ i3.toInt ≤ 3) (fun v => v = A_ofPlace n R F (tn i2) i3) z.2 z.1) := by
  unfold fX8_ofPlace
  refine fl_of (pl_iv h4) (fun i hi => fl_within (lo := 0) (hi := 3) rfl rfl (fun j hj => ?_))
  refine thrown2 hi hj (fun q => ⟨_, rfl, Or.inl ⟨q, rfl⟩⟩) (fun q p => ⟨_, rfl, Or.inr (Or.inl ⟨q, p, rfl⟩)⟩) (fun q p => Ok_if (fun _ => ?_) (fun h => absurd rfl h))
  exact Ok_bind (ofPlaceNow_iv hI h4 q) (fun z hz => Ok_some (Or.inr (Or.inr ⟨q, p, rfl, hz⟩)))
/-! cuts: a set of places as bits; what lies in it, what it lets through -/