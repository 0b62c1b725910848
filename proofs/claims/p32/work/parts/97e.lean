/-! PARTS -/
theorem cparts_loop {n s g : Nat} {R f78 : Nat → Int32} {i11 i12 i13 i2 : Int32} {kind : Int} (h11 : i11.toInt = n) (h12 : i12.toInt = s) (h13 : i13.toInt = g) (h2 : i2.toInt = 1 - kind) (hk : kind = 0 ∨ kind = 1) : ∀ (c : Nat) (i76 i77 : Int32) (F : Nat → Int32) (i80 i81 i82 : Int32) (f83 : Nat → Int32), FI n s g R F → mu n s F < c → (0 ≤ i77.toInt ∧ i77.toInt + (mu n s F : Int) < 100) → (0 ≤ i76.toInt ∧ i76.toInt + (mu n s F : Int) < 200) → (0 ≤ i82.toInt ∧ i82.toInt ≤ 10) → Ok (LX6_parts_L15 i11 i12 i13 i2 f78 c i76 i77 F i80 i81 i82 f83) (fun z => (∃ l, prts n s g l F ∧ z.1.toInt = i76.toInt + cntP kind l) ∧ (0 ≤ z.2.2.2.2.2.1.toInt ∧ z.2.2.2.2.2.1.toInt ≤ 10)) := by
  intro c
  have t100 : (100 : Int32).toInt = 100 := rfl
  induction c with
  | zero => intro i76 i77 F i80 i81 i82 f83 _ h; omega
  | succ c ih =>
    intro i76 i77 F i80 i81 i82 f83 hI hmu h77 h76 h82
    show Ok (BX6_parts_L15 i11 i12 i13 i2 f78 i76 i77 F i80 i81 i82 f83 (fun a b x y u v w => LX6_parts_L15 i11 i12 i13 i2 f78 c a b x y u v w)) _
    unfold BX6_parts_L15
    have n9 := hI.1
    refine Ok_if (fun h => ?_) (fun _ => Ok_bind (cpart_iv hI h11 h12 h13) (fun z hz => ?_))
    · have h := i32le h
      omega
    · rcases hz with ⟨e, q⟩ | ⟨e, w, M, b, way, m, hP, e1, e2, e3, e4⟩
      · subst e
        exact Ok_if (fun _ => Ok_some ⟨⟨[], q, by show i76.toInt = i76.toInt + 0; omega⟩, h82⟩) (fun h => absurd rfl h)
      · have hM := hP.2.1
        refine Ok_if (fun h => absurd (h.symm.trans e) (by decide)) (fun _ => Ok_bind (ctake_iv hI hP e1 e3 e4) (fun F1 hF1 => Ok_jn (fun kk wk => ?_)))
        have k1 := hP.keeps hI hF1
        have k2 := hP.less hI hF1
        have hw := hP.way01
        have ei := inc_iv (x := i77) (by omega)
        have ej := inc_iv (x := i76) (by omega)
        have rr : 0 ≤ z.2.2.2.1.toInt ∧ z.2.2.2.1.toInt ≤ 10 := by omega
        have pv : ptv kind way m = if way = kind then 1 else 0 := by
          unfold ptv
          rw [if_neg (by omega)]
        have fin : ∀ y : Int32, y.toInt = i76.toInt + ptv kind way m → Ok (LX6_parts_L15 i11 i12 i13 i2 f78 c y (i77 + (1 : Int32)) F1 z.2.1 z.2.2.1 z.2.2.2.1 z.2.2.2.2) (fun z => (∃ l, prts n s g l F ∧ z.1.toInt = i76.toInt + cntP kind l) ∧ (0 ≤ z.2.2.2.2.2.1.toInt ∧ z.2.2.2.2.2.1.toInt ≤ 10)) := by
          intro y hy
          have pb : 0 ≤ ptv kind way m ∧ ptv kind way m ≤ 1 := by rw [pv]; split <;> omega
          refine Ok_mono (ih y (i77 + (1 : Int32)) F1 _ _ _ _ k1.1 (by omega) (by omega) (by omega) rr) (fun v hv => ?_)
          obtain ⟨⟨l, l1, l2⟩, l3⟩ := hv
          exact ⟨⟨(way, m, (List.range (M - b + 1)).map (fun i => w (b + i))) :: l, ⟨F1, w, M, b, hP, rfl, hF1, l1⟩, by rw [l2, hy]; show _ = i76.toInt + (ptv kind way m + cntP kind l); omega⟩, l3⟩
        rw [wk]
        refine Ok_if (fun h => fin _ ?_) (fun h => fin _ ?_)
        · have h := i32eq h
          rw [pv, if_pos (by omega)]
          exact ej
        · rw [pv, if_neg (fun q => h (Int32.toInt_inj.mp (by omega)))]
          omega
def knd (i2 : Int32) : Int := if i2 = 0 then 1 else 0
theorem cparts_iv {n s g : Nat} {R F Rc Fc f26 f28 f34 : Nat → Int32} {i11 i12 i13 i30 i31 i33 i2 : Int32} (hI : FI n s g R F) (hR : same Rc R) (hF : same Fc F) (h11 : i11.toInt = n) (h12 : i12.toInt = s) (h13 : i13.toInt = g) (h33 : 0 ≤ i33.toInt ∧ i33.toInt ≤ 10) (h2 : i2 = 0 ∨ i2 = 1) : Ok (fX6_parts i11 i12 i13 Rc Fc f26 f28 i30 i31 i33 f34 i2) (fun z => (∃ l, prts n s g l F ∧ z.1.toInt = cntP (knd i2) l) ∧ (0 ≤ z.2.2.2.2.2.1.toInt ∧ z.2.2.2.2.2.1.toInt ≤ 10)) := by
  have n9 := hI.1
  have se := hI.2.1
  unfold fX6_parts
  refine Ok_bind (become2_iv f26 f28 Rc Fc) (fun z hz => ?_)
  have hF2 := hz.2.trans hF
  have hI2 : FI n s g R z.2 := hI.ofsame (same_refl R) hF2
  have hm := mu_bd n s z.2
  have hk : i2.toInt = 1 - knd i2 ∧ (knd i2 = 0 ∨ knd i2 = 1) := by
    unfold knd
    rcases h2 with e | e
    · rw [if_pos e, e]; exact ⟨rfl, Or.inr rfl⟩
    · rw [if_neg (by rw [e]; decide), e]; exact ⟨rfl, Or.inl rfl⟩
  have t0 : (0 : Int32).toInt = 0 := rfl
  refine Ok_mono (cparts_loop h11 h12 h13 hk.1 hk.2 102 0 0 z.2 i30 i31 i33 f34 hI2 (by omega) ⟨by omega, by omega⟩ ⟨by omega, by omega⟩ h33) (fun v hv => ?_)
  obtain ⟨⟨l, l1, l2⟩, l3⟩ := hv
  exact ⟨⟨l, prts_same n9.2 se.1 l hF2 l1, by rw [l2, t0]; omega⟩, l3⟩
theorem parts_iv {n s g : Nat} {R F : Nat → Int32} {i3 i6 i7 i2 : Int32} (hI : FI n s g R F) (h3 : i3.toInt = n) (h6 : i6.toInt = s) (h7 : i7.toInt = g) : Ok (fX8_parts i3 i6 i7 F i2) (fun z => ∃ l, prts n s g l F ∧ z.toInt = cntP (knd i2) l) := by
  unfold fX8_parts knd
  refine Ok_jn (fun kk wk => ?_)
  rw [wk]
  refine Ok_if (fun e => ?_) (fun e => ?_)
  · rw [if_pos e]
    exact Ok_bind (partsNow_iv hI h3 h6 h7) (fun z hz => Ok_some hz)
  · rw [if_neg e]
    exact Ok_bind (partsNow_iv hI h3 h6 h7) (fun z hz => Ok_some hz)
theorem sim_parts {n s g : Nat} {F : Nat → Int32} {k : Int} {a b : Int32} (hn : n ≤ 9) (hs : s < n) (h1 : ∃ l, prts n s g l F ∧ a.toInt = cntP k l) (h2 : ∃ l, prts n s g l F ∧ b.toInt = cntP k l) : a = b ∧ True := by
  obtain ⟨l, l1, l2⟩ := h1
  obtain ⟨l', l1', l2'⟩ := h2
  have e := prts_uni hn hs l l' (same_refl F) l1 l1'
  subst e
  exact ⟨Int32.toInt_inj.mp (l2.trans l2'.symm), trivial⟩
