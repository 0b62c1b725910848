/-! isSound, on both sides -/
theorem cways_loop {n s g : Nat} {R f77 : Nat → Int32} {i10 i11 i12 : Int32} (h10 : i10.toInt = n) (h11 : i11.toInt = s) (h12 : i12.toInt = g) : ∀ (c : Nat) (i75 i76 : Int32) (F : Nat → Int32) (i79 i80 i81 : Int32) (f82 : Nat → Int32), FI n s g R F → mu n s F < c → (0 ≤ i76.toInt ∧ i76.toInt + (mu n s F : Int) < 100) → (0 ≤ i75.toInt ∧ i75.toInt + 50 * (mu n s F : Int) < 10000) → (0 ≤ i81.toInt ∧ i81.toInt ≤ 10) → Ok (LX6_sumOfWays_L15 i10 i11 i12 f77 c i75 i76 F i79 i80 i81 f82) (fun z => (∃ l, prts n s g l F ∧ z.1.toInt = i75.toInt + cntP 2 l) ∧ (0 ≤ z.2.2.2.2.2.1.toInt ∧ z.2.2.2.2.2.1.toInt ≤ 10)) := by
  intro c
  have t100 : (100 : Int32).toInt = 100 := rfl
  have t0 : (0 : Int32).toInt = 0 := rfl
  induction c with
  | zero => intro i75 i76 F i79 i80 i81 f82 _ h; omega
  | succ c ih =>
    intro i75 i76 F i79 i80 i81 f82 hI hmu h76 h75 h81
    show Ok (BX6_sumOfWays_L15 i10 i11 i12 f77 i75 i76 F i79 i80 i81 f82 (fun a b x y u v w => LX6_sumOfWays_L15 i10 i11 i12 f77 c a b x y u v w)) _
    unfold BX6_sumOfWays_L15
    have n9 := hI.1
    refine Ok_if (fun h => ?_) (fun _ => Ok_bind (cpart_iv hI h10 h11 h12) (fun z hz => ?_))
    · have h := i32le h
      omega
    · rcases hz with ⟨e, q⟩ | ⟨e, w, M, b, way, m, hP, e1, e2, e3, e4⟩
      · subst e
        exact Ok_if (fun _ => Ok_some ⟨⟨[], q, by show i75.toInt = i75.toInt + 0; omega⟩, h81⟩) (fun h => absurd rfl h)
      · have hM := hP.2.1
        have am := hP.amount hI
        refine Ok_if (fun h => absurd (h.symm.trans e) (by decide)) (fun _ => Ok_bind (ctake_iv hI hP e1 e3 e4) (fun F1 hF1 => Ok_jn (fun kk wk => ?_)))
        have k1 := hP.keeps hI hF1
        have k2 := hP.less hI hF1
        have hw := hP.way01
        have ei := inc_iv (x := i76) (by omega)
        have rr : 0 ≤ z.2.2.2.1.toInt ∧ z.2.2.2.1.toInt ≤ 10 := by omega
        have pv : ptv 2 way m = way * m := by
          unfold ptv
          rw [if_pos rfl]
        have pb : (way = 1 ∧ ptv 2 way m = m) ∨ (way = 0 ∧ ptv 2 way m = 0) := by
          rw [pv]
          rcases hw with e | e
          · exact Or.inr ⟨e, by rw [e]; omega⟩
          · exact Or.inl ⟨e, by rw [e]; omega⟩
        have fin : ∀ y : Int32, y.toInt = i75.toInt + ptv 2 way m → Ok (LX6_sumOfWays_L15 i10 i11 i12 f77 c y (i76 + (1 : Int32)) F1 z.2.1 z.2.2.1 z.2.2.2.1 z.2.2.2.2) (fun z => (∃ l, prts n s g l F ∧ z.1.toInt = i75.toInt + cntP 2 l) ∧ (0 ≤ z.2.2.2.2.2.1.toInt ∧ z.2.2.2.2.2.1.toInt ≤ 10)) := by
          intro y hy
          refine Ok_mono (ih y (i76 + (1 : Int32)) F1 _ _ _ _ k1.1 (by omega) (by omega) (by omega) rr) (fun v hv => ?_)
          obtain ⟨⟨l, l1, l2⟩, l3⟩ := hv
          exact ⟨⟨(way, m, (List.range (M - b + 1)).map (fun i => w (b + i))) :: l, ⟨F1, w, M, b, hP, rfl, hF1, l1⟩, by rw [l2, hy]; show _ = i75.toInt + (ptv 2 way m + cntP 2 l); omega⟩, l3⟩
        rw [wk]
        refine Ok_if (fun h => Ok_nm (fun y wy => fin y ?_)) (fun h => fin _ ?_)
        · have h := i32eq h
          rw [wy, add_iv (by omega) (by omega), e1]
          omega
        · have : ¬ way = 1 := fun q => h (Int32.toInt_inj.mp (by omega))
          omega
theorem cways_iv {n s g : Nat} {R F Rc Fc f25 f27 f33 : Nat → Int32} {i10 i11 i12 i29 i30 i32 : Int32} (hI : FI n s g R F) (hF : same Fc F) (h10 : i10.toInt = n) (h11 : i11.toInt = s) (h12 : i12.toInt = g) (h32 : 0 ≤ i32.toInt ∧ i32.toInt ≤ 10) : Ok (fX6_sumOfWays i10 i11 i12 Rc Fc f25 f27 i29 i30 i32 f33) (fun z => z.1.toInt = outF n F s ∧ (0 ≤ z.2.2.2.2.2.1.toInt ∧ z.2.2.2.2.2.1.toInt ≤ 10)) := by
  have n9 := hI.1
  have se := hI.2.1
  have t0 : (0 : Int32).toInt = 0 := rfl
  unfold fX6_sumOfWays
  refine Ok_bind (become2_iv f25 f27 Rc Fc) (fun z hz => ?_)
  have hF2 := hz.2.trans hF
  have hI2 : FI n s g R z.2 := hI.ofsame (same_refl R) hF2
  have hm := mu_bd n s z.2
  refine Ok_mono (cways_loop h10 h11 h12 102 0 0 z.2 i29 i30 i32 f33 hI2 (by omega) ⟨by omega, by omega⟩ ⟨by omega, by omega⟩ h32) (fun v hv => ?_)
  obtain ⟨⟨l, l1, l2⟩, l3⟩ := hv
  refine ⟨?_, l3⟩
  rw [l2, t0, ways_sum l z.2 hI2 l1, outF_same hF2 n9.2 se.1]
  omega
theorem cvalSound_iv {n s g : Nat} {R F Rc Fc f25 f26 : Nat → Int32} {i11 i12 i13 i2 : Int32} (hI : FI n s g R F) (hR : same Rc R) (hF : same Fc F) (h11 : i11.toInt = n) (h12 : i12.toInt = s) (h13 : i13.toInt = g) (h2 : i2.toInt = least n s g R) : Ok (fX6_isValueSound i11 i12 i13 Rc Fc f25 f26 i2) (fun z => z.1 = 1 ∧ (0 ≤ z.2.1.toInt ∧ z.2.1.toInt ≤ 10)) := by
  have n9 := hI.1
  have se := hI.2.1
  have hIc : FI n s g Rc Fc := hI.ofsame hR hF
  have t0 : (0 : Int32).toInt = 0 := rfl
  have vl := value_le hI
  have vm := value_most hI
  unfold fX6_isValueSound
  refine Ok_bind (cvalue_iv h11 h12 n9.2 (by omega) hIc.smF) (fun z27 h27 => Ok_bind (cfind_iv h11 n9.2 h12 se.1 h13 se.2.1 se.2.2 (by omega)) (fun z28 h28 => Ok_jn (fun k29 w29 => ?_)))
  rw [outF_same hF n9.2 se.1] at h27
  have hb : 0 ≤ z28.1.toInt ∧ z28.1.toInt ≤ 10 := by
    rcases h28 with ⟨e, q⟩ | ⟨t, K, hT, e, hf⟩
    · rw [e]; decide
    · have := hT.1; omega
  have go : ∀ i : Int32, (i = 1 ∧ outF n F s = least n s g R) ∨ (i = 0 ∧ ¬ outF n F s = least n s g R) → Ok (k29 i) (fun z => z.1 = 1 ∧ (0 ≤ z.2.1.toInt ∧ z.2.1.toInt ≤ 10)) := by
    intro i hi
    rw [w29]
    refine Ok_if (fun h => ?_) (fun _ => Ok_jn (fun k32 w32 => ?_))
    · have h := i32lt h
      omega
    · rw [w32]
      refine Ok_if (fun e => ?_) (fun e => ?_)
      · have e := i32eq e
        have hi : i = 1 := by
          rcases hi with hi | hi
          · exact hi.1
          · exact absurd (by omega) hi.2
        subst hi
        exact Ok_if (fun _ => Ok_some ⟨rfl, hb⟩) (fun q => absurd rfl q)
      · have hi : i = 0 := by
          rcases hi with hi | hi
          · exact absurd (Int32.toInt_inj.mp (by omega)) e
          · exact hi.1
        subst hi
        exact Ok_if (fun _ => Ok_some ⟨rfl, hb⟩) (fun q => absurd rfl q)
  rw [w29] at go
  rw [w29]
  rcases h28 with ⟨e, q⟩ | ⟨t, K, hT, e, hf⟩
  · refine Ok_if (fun _ => go 1 (Or.inl ⟨rfl, vm.mpr (fun h => q ?_)⟩)) (fun h => absurd e h)
    exact tracks_same hR.symm hF.symm n9.2 h
  · refine Ok_if (fun h => ?_) (fun _ => go 0 (Or.inr ⟨rfl, fun h => vm.mp h ?_⟩))
    · have h := i32eq h
      omega
    · exact tracks_same hR hF n9.2 ⟨K, hT.no⟩
theorem cisSound_iv {n s g : Nat} {R F Rc Fc f25 f27 f33 f34 f40 : Nat → Int32} {i10 i11 i12 i30 i32 i36 i37 i39 : Int32} (hI : FI n s g R F) (hR : same Rc R) (hF : same Fc F) (h10 : i10.toInt = n) (h11 : i11.toInt = s) (h12 : i12.toInt = g) (h39 : 0 ≤ i39.toInt ∧ i39.toInt ≤ 10) : Ok (fX6_isSound i10 i11 i12 Rc Fc f25 f27 i30 i32 f33 f34 i36 i37 i39 f40) (fun z => z.1 = 1 ∧ (0 ≤ z.2.2.2.1.toInt ∧ z.2.2.2.1.toInt ≤ 9) ∧ (0 ≤ z.2.2.2.2.1.toInt ∧ z.2.2.2.2.1.toInt ≤ 10) ∧ (0 ≤ z.2.2.2.2.2.2.2.2.2.1.toInt ∧ z.2.2.2.2.2.2.2.2.2.1.toInt ≤ 10)) := by
  have n9 := hI.1
  have se := hI.2.1
  have hIc : FI n s g R Fc := hI.ofsame (same_refl R) hF
  have t0 : (0 : Int32).toInt = 0 := rfl
  have t1 : (1 : Int32).toInt = 1 := rfl
  unfold fX6_isSound
  refine Ok_bind (cleastRoom_iv n9.2 se.1 se.2.1 hR hI.smR h10 h11 h12) (fun z41 h41 => Ok_bind (become2_iv f25 f27 Rc Fc) (fun z42 h42 => ?_))
  have e := h42.1.trans hR
  have hm := hI.rm.ofsame e
  have el := least_same (s := s) (g := g) n9.2 e
  refine Ok_bind (mostTrial_iv hm n9 se.1 se.2.1 se.2.2 h10 h11 h12 (by omega)) (fun z43 h43 => Ok_bind (mostTrial_iv hm n9 se.1 se.2.1 se.2.2 h10 h11 h12 (by omega)) (fun z44 h44 => Ok_bind (cisLet_iv hI hR hF h10) (fun z45 h45 => ?_)))
  subst h45
  refine Ok_if (fun h => absurd h one_ne) (fun _ => Ok_bind (cisKept_iv hI hF h10 h11 h12) (fun z46 h46 => ?_))
  subst h46
  refine Ok_if (fun h => absurd h one_ne) (fun _ => Ok_bind (cvalSound_iv hI hR hF h10 h11 h12 (h43.1.trans el)) (fun z47 h47 => ?_))
  refine Ok_if (fun h => absurd (h47.1.symm.trans h) one_ne) (fun _ => Ok_if (fun _ => Ok_if (fun _ => ?_) (fun q => absurd (Int32.toInt_inj.mp (by rw [h44.1, el, h41])) q)) (fun q => absurd (Int32.toInt_inj.mp (by rw [h43.1, el, h41])) q))
  refine Ok_bind (ccutsSound_iv hI hR hF h10 h11 h12 h41) (fun z48 h48 => ?_)
  subst h48
  refine Ok_if (fun h => absurd h one_ne) (fun _ => Ok_bind (cways_iv hI hF h10 h11 h12 h39) (fun z49 h49 => Ok_bind (cvalue_iv h10 h11 n9.2 (by omega) hIc.smF) (fun z50 h50 => ?_)))
  rw [outF_same hF n9.2 se.1] at h50
  exact Ok_if (fun _ => Ok_some ⟨rfl, by show 0 ≤ i10.toInt ∧ i10.toInt ≤ 9; omega, h47.2, h49.2⟩) (fun q => absurd (Int32.toInt_inj.mp (h49.1.trans h50.symm)) q)
theorem endNow_iv {n s g : Nat} {R F : Nat → Int32} {i3 i6 i7 i2 : Int32} (hI : FI n s g R F) (h3 : i3.toInt = n) (h6 : i6.toInt = s) (h7 : i7.toInt = g) : Ok (fX8_endNow i3 i6 i7 R i2) (fun z => z = A_end n s g R i2) := by
  obtain ⟨z, e, h⟩ := end_iv (i2 := i2) hI h3 h6 h7
  unfold fX8_end at e
  cases q : fX8_endNow i3 i6 i7 R i2 with
  | none => rw [q] at e; exact absurd e (by simp)
  | some y =>
    rw [q] at e
    have e : some y = some z := e
    exact ⟨y, rfl, by rw [Option.some.inj e]; exact h⟩
theorem endCap_iv {n s g : Nat} {R F : Nat → Int32} {i3 w z : Int32} (hI : FI n s g R F) (h3 : i3.toInt = n) (hz : z = A_end n s g R w) : Ok (fX8_through i3 R z) (fun y => y.toInt = least n s g R) :=
  Ok_mono (through_iv h3 hI.1.2 hI.smR) (fun y hy => by rw [hy, hz]; exact (isL_iff.mp (end_least hI)).2)
theorem layer_goal {n s g : Nat} {R F : Nat → Int32} {i3 i6 i7 : Int32} (hI : FI n s g R F) (h3 : i3.toInt = n) (h6 : i6.toInt = s) (h7 : i7.toInt = g) : Ok (fX8_layerNow i3 i6 R F i7) (fun z => (0 ≤ z.toInt ∧ tracks n s g R F) ∨ (z.toInt < 0 ∧ ¬ tracks n s g R F)) := by
  have se := hI.2.1
  have tg : tn i7 = g := by unfold tn; omega
  refine Ok_mono (layerNow_iv (i2 := i7) hI h3 h6 ⟨by omega, by omega⟩) (fun z hz => ?_)
  rw [tg] at hz
  rcases hz with ⟨a, b⟩ | ⟨k, k1, k2, k3, -⟩
  · refine Or.inr ⟨by omega, fun h => ?_⟩
    obtain ⟨k, hk⟩ := h
    obtain ⟨j, j1, j2⟩ := hk.short se.2.1
    exact b j j1 j2.1
  · exact Or.inl ⟨by omega, k, k3⟩
theorem isSoundNow_iv {n s g : Nat} {R F : Nat → Int32} {i2 i5 i6 : Int32} (hI : FI n s g R F) (h2 : i2.toInt = n) (h5 : i5.toInt = s) (h6 : i6.toInt = g) : Ok (fX8_isSoundNow i2 i5 i6 R F) (fun z => z = 1) := by
  have n9 := hI.1
  have se := hI.2.1
  have t0 : (0 : Int32).toInt = 0 := rfl
  have t1 : (1 : Int32).toInt = 1 := rfl
  have vl := value_le hI
  have vm := value_most hI
  have pw := (pwN n (by omega)).2
  have e2 := shl2 h2 n9.2
  unfold fX8_isSoundNow
  generalize hK : (fun (i112 : Int32) => (fX8_leastNow i2 i5 i6 R).bind _) = K
  have hKK : Ok (K 1) (fun z => z = 1) := by
    rw [← hK]
    refine Ok_bind (leastNow_iv n9.2 se.1 se.2.1 hI.smR h2 h5 h6) (fun z113 h113 => Ok_bind (hI.valueNow h2 h5 se.1) (fun z114 h114 => Ok_jn (fun k115 w115 => ?_)))
    have one1 : Ok (k115 1) (fun z => z = 1) := by
      rw [w115]
      refine Ok_nm (fun y wy => ?_)
      have wy : y = 1 := wy.trans (by decide)
      subst wy
      have fin : Ok ((fX8_endNow i2 i5 i6 R (0 : Int32)).bind (fun z167 => (fX8_through i2 R z167).bind (fun z168 => if z168 = z113 then ((fX8_endNow i2 i5 i6 R (1 : Int32)).bind (fun z169 => (fX8_through i2 R z169).bind (fun z170 => if z170 = z113 then ((fX8_partsNow i2 i5 i6 F (2 : Int32)).bind (fun z171 => (fX8_valueNow i2 i5 F).bind (fun z172 => if z171 = z172 then (some (1 : Int32)) else (some (0 : Int32))))) else (some (0 : Int32))))) else (some (0 : Int32))))) (fun z => z = 1) := by
        refine Ok_bind (endNow_iv hI h2 h5 h6) (fun z167 h167 => Ok_bind (endCap_iv hI h2 h167) (fun z168 h168 => Ok_if (fun _ => ?_) (fun q => absurd (Int32.toInt_inj.mp (h168.trans h113.symm)) q)))
        refine Ok_bind (endNow_iv hI h2 h5 h6) (fun z169 h169 => Ok_bind (endCap_iv hI h2 h169) (fun z170 h170 => Ok_if (fun _ => ?_) (fun q => absurd (Int32.toInt_inj.mp (h170.trans h113.symm)) q)))
        refine Ok_bind (partsNow_iv hI h2 h5 h6) (fun z171 h171 => Ok_bind (hI.valueNow h2 h5 se.1) (fun z172 h172 => Ok_if (fun _ => Ok_some rfl) (fun q => absurd (Int32.toInt_inj.mp ?_) q)))
        obtain ⟨l, l1, l2⟩ := h171
        rw [l2, h172, ← ways_sum l F hI l1]
        rfl
      generalize (2 ^ n : Nat) = N at *
      refine lpQ (L := fun c y i => LX8_isSoundNow_L158 i2 i5 i6 F c y i (fun (i166 : Int32) => if i166 = (0 : Int32) then (some (0 : Int32)) else ((fX8_endNow i2 i5 i6 R (0 : Int32)).bind (fun z167 => (fX8_through i2 R z167).bind (fun z168 => if z168 = z113 then ((fX8_endNow i2 i5 i6 R (1 : Int32)).bind (fun z169 => (fX8_through i2 R z169).bind (fun z170 => if z170 = z113 then ((fX8_partsNow i2 i5 i6 F (2 : Int32)).bind (fun z171 => (fX8_valueNow i2 i5 F).bind (fun z172 => if z171 = z172 then (some (1 : Int32)) else (some (0 : Int32))))) else (some (0 : Int32))))) else (some (0 : Int32))))))) (n := N) (Q := fun _ y => y = 1) (fun c y i hi hy => ?_) (fun c y i k hk hi hy rec => ?_) (by omega) rfl
      · show Ok (BX8_isSoundNow_L158 i2 i5 i6 F y i (fun p q => LX8_isSoundNow_L158 i2 i5 i6 F c p q _) _) _
        unfold BX8_isSoundNow_L158
        refine Ok_if (fun _ => ?_) (fun h => ?_)
        · rw [hy]
          exact Ok_if (fun h => absurd h one_ne) (fun _ => fin)
        · have h := i32nle h
          omega
      · show Ok (BX8_isSoundNow_L158 i2 i5 i6 F y i (fun p q => LX8_isSoundNow_L158 i2 i5 i6 F c p q _) _) _
        unfold BX8_isSoundNow_L158
        have ei := inc_iv (x := i) (by omega)
        refine Ok_if (fun h => ?_) (fun _ => Ok_bind (isCut_iv h5 (by omega) h6 (by omega)) (fun z hz => Ok_jn (fun kk wk => ?_)))
        · have h := i32le h
          omega
        · have go : Ok (kk 1) (fun z => z = 1) := by
            rw [wk]
            exact rec 1 _ rfl (by omega)
          refine Ok_if (fun _ => by rw [hy]; exact go) (fun d => Ok_bind (through_iv h2 n9.2 hI.smF) (fun x hx => Ok_bind (hI.valueNow h2 h5 se.1) (fun u hu => Ok_jn (fun k2 wk2 => ?_))))
          rw [wk2]
          refine Ok_if (fun _ => Ok_nm (fun b wb => ?_)) (fun q => absurd (Int32.toInt_inj.mp (by rw [hx, hu]; exact cap_flow hI.wf (bit1 hz d))) q)
          have wb : b = 1 := by rw [wb, hy]; decide
          rw [wb]
          exact go
    refine Ok_jn (fun k117 w117 => Ok_if (fun h => ?_) (fun _ => Ok_bind (hI.valueNow h2 h5 se.1) (fun z119 h119 => Ok_jn (fun k120 w120 => ?_))))
    · have h := i32lt h
      omega
    · have go : ∀ i : Int32, (i = 1 ∧ outF n F s = least n s g R) ∨ (i = 0 ∧ ¬ outF n F s = least n s g R) → Ok (k120 i) (fun z => z = 1) := by
        intro i hi
        rw [w120]
        refine Ok_bind (layer_goal hI h2 h5 h6) (fun z123 h123 => Ok_jn (fun k124 w124 => ?_))
        rw [w124]
        refine Ok_if (fun h => ?_) (fun h => ?_)
        · have h := i32le h
          have tr : tracks n s g R F := h123.elim (fun q => q.2) (fun q => absurd q.1 (by omega))
          have hi : i = 0 := hi.elim (fun q => absurd tr (vm.mp q.2)) (fun q => q.1)
          subst hi
          exact Ok_if (fun _ => one1) (fun q => absurd rfl q)
        · have h := i32nle h
          have tr : ¬ tracks n s g R F := h123.elim (fun q => absurd q.1 (by omega)) (fun q => q.2)
          have hi : i = 1 := hi.elim (fun q => q.1) (fun q => absurd (vm.mpr tr) q.2)
          subst hi
          exact Ok_if (fun _ => one1) (fun q => absurd rfl q)
      refine Ok_if (fun e => go 1 (Or.inl ⟨rfl, ?_⟩)) (fun e => go 0 (Or.inr ⟨rfl, fun w => e (Int32.toInt_inj.mp (by rw [h119, w, h113]))⟩))
      rw [← h119, e, h113]
  clear hK
  refine lpQ (L := fun c y i => LX8_isSoundNow_L4 i2 i5 i6 R F c y i K) (n := n) (Q := fun _ y => y = 1) (fun c y i hi hy => ?_) (fun c y i k hk hi hy rec => ?_) (by omega) rfl
  · show Ok (BX8_isSoundNow_L4 i2 i5 i6 R F y i (fun p q => LX8_isSoundNow_L4 i2 i5 i6 R F c p q K) K) _
    unfold BX8_isSoundNow_L4
    refine Ok_if (fun _ => by rw [hy]; exact hKK) (fun h => ?_)
    have h := i32nle h
    omega
  · show Ok (BX8_isSoundNow_L4 i2 i5 i6 R F y i (fun p q => LX8_isSoundNow_L4 i2 i5 i6 R F c p q K) K) _
    unfold BX8_isSoundNow_L4
    have ei := inc_iv (x := i) (by omega)
    refine Ok_if (fun h => ?_) (fun _ => Ok_jn (fun kk wk => ?_))
    · have h := i32le h
      omega
    · have go : Ok (kk 1) (fun z => z = 1) := by
        rw [wk]
        refine Ok_nm (fun b wb => ?_)
        have wb : b = 1 := by rw [wb, hy]; decide
        refine lpQ (L := fun d x j => LX8_isSoundNow_L50 i2 R F i d x j (fun (i111 : Int32) => LX8_isSoundNow_L4 i2 i5 i6 R F c i111 (i + (1 : Int32)) K)) (n := n) (Q := fun _ x => x = 1) (fun d x j hj hx => ?_) (fun d x j m hm hj hx rec2 => ?_) (by omega) wb
        · show Ok (BX8_isSoundNow_L50 i2 R F i x j (fun p q => LX8_isSoundNow_L50 i2 R F i d p q _) _) _
          unfold BX8_isSoundNow_L50
          refine Ok_if (fun _ => by rw [hx]; exact rec 1 _ rfl (by omega)) (fun h => ?_)
          have h := i32nle h
          omega
        · show Ok (BX8_isSoundNow_L50 i2 R F i x j (fun p q => LX8_isSoundNow_L50 i2 R F i d p q _) _) _
          unfold BX8_isSoundNow_L50
          have ej := inc_iv (x := j) (by omega)
          have fl := hI.2.2.2.1 k m (by omega) (by omega)
          have fb := (hI.flow (a := m) (b := k) (by omega) (by omega)).1
          have qk : pl n i := ⟨by omega, by omega⟩
          have qm : pl n j := ⟨by omega, by omega⟩
          have tk : tn i = k := by unfold tn; omega
          have tm : tn j = m := by unfold tn; omega
          obtain ⟨-, -, -, g1⟩ := cell_iv (F := F) qk qm n9.2
          obtain ⟨-, -, -, g2⟩ := cell_iv (F := F) qm qk n9.2
          rw [tk, tm] at g1 g2
          refine Ok_if (fun h => ?_) (fun _ => Ok_bind (left_iv hi hj (by omega) (by omega) hI.smR hI.smF) (fun z hz => Ok_jn (fun k3 w3 => Ok_jn (fun k5 w5 => Ok_if (fun h => ?_) (fun _ => Ok_bind g1 (fun u hu => Ok_bind g2 (fun v hv => Ok_if (fun _ => ?_) (fun q => absurd (Int32.toInt_inj.mp ?_) q))))))))
          · have h := i32le h
            omega
          · have h := i32lt h
            unfold lf at hz
            omega
          · rw [w3]
            refine Ok_nm (fun b wb => ?_)
            have wb : b = 1 := by rw [wb, hx]; decide
            exact rec2 b _ wb (by omega)
          · rw [neg_iv (by omega)]
            omega
      refine Ok_jn (fun k72 w72 => ?_)
      rw [w72]
      refine Ok_if (fun _ => go) (fun e1 => Ok_if (fun _ => go) (fun e2 => Ok_bind (fromPlace_iv h2 hi n9.2 (by omega) (fun b hb => (hI.flow (by omega) hb).1)) (fun z hz => Ok_if (fun _ => go) (fun q => absurd (Int32.toInt_inj.mp ?_) q))))
      have := hI.2.2.2.2.1 k hk (fun w => e1 (Int32.toInt_inj.mp (by omega))) (fun w => e2 (Int32.toInt_inj.mp (by omega)))
      omega
theorem isSound_iv {n s g : Nat} {R F : Nat → Int32} {i2 i5 i6 : Int32} (hI : FI n s g R F) (h2 : i2.toInt = n) (h5 : i5.toInt = s) (h6 : i6.toInt = g) : Ok (fX8_isSound i2 i5 i6 R F) (fun z => z = 1) := by
  unfold fX8_isSound
  exact Ok_bind (isSoundNow_iv hI h2 h5 h6) (fun z hz => Ok_bz (Or.inr hz) (Ok_some hz))
