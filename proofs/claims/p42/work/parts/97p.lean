/-! the digest, the reference's side -/
theorem Ok_bs {α : Type} {x : Option α} {P : α → Prop} (h : Ok (x.bind (fun z => some z)) P) : Ok x P := by
  obtain ⟨z, e, p⟩ := h
  cases x with
  | none => cases e
  | some y =>
    have e' : some y = some z := e
    cases e'
    exact ⟨_, rfl, p⟩
theorem leastsNow_iv {n s g : Nat} {R F : Nat → Int32} {i2 i5 i6 : Int32} (hI : FI n s g R F) (h2 : i2.toInt = n) (h5 : i5.toInt = s) (h6 : i6.toInt = g) : Ok (fX8_leastsNow i2 i5 i6 R) (fun z => z.toInt = cnN n s g R (least n s g R) (2 ^ n)) := by
  have h := leasts_iv hI h2 h5 h6
  unfold fX8_leasts at h
  exact Ok_bs h
theorem houseNow_iv {i8 i9 i10 i2 : Int32} : Ok (fX8_houseNow i8 i9 i10 i2) (fun z => z.toInt = A_house i8 i9 i10 i2) := by
  unfold fX8_houseNow A_house
  refine Ok_if (fun e => ?_) (fun e0 => Ok_if (fun e => ?_) (fun e1 => ?_))
  · exact Ok_some (if_pos e).symm
  · exact Ok_some ((if_neg e0).trans (if_pos e)).symm
  · exact Ok_some ((if_neg e0).trans (if_neg e1)).symm
theorem lenO_iv {n : Nat} (h : n ≤ 13400) : Ok (fJ0_lengthO n) (fun z => z.toInt = n) := by
  unfold fJ0_lengthO fJ0_coderO
  refine Ok_bind (R := fun _ => True) (Ok_if (fun h => absurd h (by decide)) (fun _ => Ok_bz (by decide) (Ok_some trivial))) (fun _ _ => Ok_some ?_)
  have e : cZ &&& 31 = 0 := by decide
  show (Int32.ofNat n >>> (cZ &&& 31)).toInt = n
  rw [e, Int32.shiftRight_zero]
  exact ofNat_iv (by omega)
theorem rdg_told {n s g : Nat} {R F : Nat → Int32} {i2 i5 i6 : Int32} {l : Int64} {P : Int64 → Prop} {k1 : Int64 → Option Int64} (hI : FI n s g R F) (h2 : i2.toInt = n) (h5 : i5.toInt = s) (h6 : i6.toInt = g) (hk : Ok (k1 (fo 5 (fun k => A_told n s g R (Int32.ofNat k)) l)) P) : Ok (LX8_digest_L11 i2 i5 i6 R 600 l 0 k1) P := by
  have t5 : (5 : Int32).toInt = 5 := rfl
  refine lpQ (L := fun c a i => LX8_digest_L11 i2 i5 i6 R c a i k1) (n := 5) (Q := fun k a => a = fo k (fun k => A_told n s g R (Int32.ofNat k)) l) (fun c a i hi ha => ?_) (fun c a i k hk' hi ha rec => ?_) (by omega) rfl
  · show Ok (BX8_digest_L11 i2 i5 i6 R a i (fun p q => LX8_digest_L11 i2 i5 i6 R c p q k1) k1) _
    unfold BX8_digest_L11
    refine Ok_if (fun _ => by rw [ha]; exact hk) (fun h => ?_)
    have h := i32nle h
    omega
  · show Ok (BX8_digest_L11 i2 i5 i6 R a i (fun p q => LX8_digest_L11 i2 i5 i6 R c p q k1) k1) _
    unfold BX8_digest_L11
    have ei := inc_iv (x := i) (by omega)
    refine Ok_if (fun h => ?_) (fun _ => Ok_bind (toldNow_iv hI h2 h5 h6 ⟨by omega, by omega⟩) (fun z hz => Ok_nm (fun y wy => rec y _ ?_ (by omega))))
    · have h := i32le h
      omega
    · show y = st (fo k _ l) (A_told n s g R (Int32.ofNat k))
      rw [wy, st_of hz, ha, ofN_iv hi (by omega)]
theorem rdg_house {i7 i8 i9 : Int32} {l : Int64} {P : Int64 → Prop} {k1 : Int64 → Option Int64} (hk : Ok (k1 (fo 3 (fun k => A_house i7 i8 i9 (Int32.ofNat k)) l)) P) : Ok (LX8_digest_L247 i7 i8 i9 600 l 0 k1) P := by
  have t3 : (3 : Int32).toInt = 3 := rfl
  refine lpQ (L := fun c a i => LX8_digest_L247 i7 i8 i9 c a i k1) (n := 3) (Q := fun k a => a = fo k (fun k => A_house i7 i8 i9 (Int32.ofNat k)) l) (fun c a i hi ha => ?_) (fun c a i k hk' hi ha rec => ?_) (by omega) rfl
  · show Ok (BX8_digest_L247 i7 i8 i9 a i (fun p q => LX8_digest_L247 i7 i8 i9 c p q k1) k1) _
    unfold BX8_digest_L247
    refine Ok_if (fun _ => by rw [ha]; exact hk) (fun h => ?_)
    have h := i32nle h
    omega
  · show Ok (BX8_digest_L247 i7 i8 i9 a i (fun p q => LX8_digest_L247 i7 i8 i9 c p q k1) k1) _
    unfold BX8_digest_L247
    have ei := inc_iv (x := i) (by omega)
    refine Ok_if (fun h => ?_) (fun _ => Ok_bind houseNow_iv (fun z hz => Ok_nm (fun y wy => rec y _ ?_ (by omega))))
    · have h := i32le h
      omega
    · show y = st (fo k _ l) (A_house i7 i8 i9 (Int32.ofNat k))
      rw [wy, st_of hz, ha, ofN_iv hi (by omega)]
theorem rdg_of {n s g : Nat} {R F : Nat → Int32} {i2 i93 : Int32} {l : Int64} {P : Int64 → Prop} {k1 : Int64 → Option Int64} (hI : FI n s g R F) (h2 : i2.toInt = n) (q : pl n i93) (hk : Ok (k1 (fo 4 (fun k => A_ofPlace n R F (tn i93) (Int32.ofNat k)) l)) P) : Ok (LX8_digest_L48 i2 R F i93 600 l 0 k1) P := by
  have t4 : (4 : Int32).toInt = 4 := rfl
  refine lpQ (L := fun c a i => LX8_digest_L48 i2 R F i93 c a i k1) (n := 4) (Q := fun k a => a = fo k (fun k => A_ofPlace n R F (tn i93) (Int32.ofNat k)) l) (fun c a i hi ha => ?_) (fun c a i k hk' hi ha rec => ?_) (by omega) rfl
  · show Ok (BX8_digest_L48 i2 R F i93 a i (fun p q => LX8_digest_L48 i2 R F i93 c p q k1) k1) _
    unfold BX8_digest_L48
    refine Ok_if (fun _ => by rw [ha]; exact hk) (fun h => ?_)
    have h := i32nle h
    omega
  · show Ok (BX8_digest_L48 i2 R F i93 a i (fun p q => LX8_digest_L48 i2 R F i93 c p q k1) k1) _
    unfold BX8_digest_L48
    have ei := inc_iv (x := i) (by omega)
    refine Ok_if (fun h => ?_) (fun _ => Ok_bind (ofPlaceNow_iv hI h2 q) (fun z hz => Ok_nm (fun y wy => rec y _ ?_ (by omega))))
    · have h := i32le h
      omega
    · show y = st (fo k _ l) (A_ofPlace n R F (tn i93) (Int32.ofNat k))
      rw [wy, st_of hz, ha, ofN_iv hi (by omega)]
theorem rdg_pairs {n s g : Nat} {R F : Nat → Int32} {i2 i93 : Int32} {l : Int64} {P : Int64 → Prop} {k1 : Int64 → Option Int64} (hI : FI n s g R F) (h2 : i2.toInt = n) (q : pl n i93) (hk : Ok (k1 (fo2 n (fun b => A_pair R F i93 (Int32.ofNat b) 0) (fun b => A_pair R F i93 (Int32.ofNat b) 1) l)) P) : Ok (LX8_digest_L91 i2 R F i93 600 l 0 k1) P := by
  have n9 := hI.1
  refine lpQ (L := fun c a i => LX8_digest_L91 i2 R F i93 c a i k1) (n := n) (Q := fun k a => a = fo2 k (fun b => A_pair R F i93 (Int32.ofNat b) 0) (fun b => A_pair R F i93 (Int32.ofNat b) 1) l) (fun c a i hi ha => ?_) (fun c a i k hk' hi ha rec => ?_) (by omega) rfl
  · show Ok (BX8_digest_L91 i2 R F i93 a i (fun p q => LX8_digest_L91 i2 R F i93 c p q k1) k1) _
    unfold BX8_digest_L91
    refine Ok_if (fun _ => by rw [ha]; exact hk) (fun h => ?_)
    have h := i32nle h
    omega
  · show Ok (BX8_digest_L91 i2 R F i93 a i (fun p q => LX8_digest_L91 i2 R F i93 c p q k1) k1) _
    unfold BX8_digest_L91
    have ei := inc_iv (x := i) (by omega)
    have qk : pl n i := ⟨by omega, by omega⟩
    refine Ok_if (fun h => ?_) (fun _ => Ok_bind (pairNow_iv hI ⟨q, qk⟩) (fun z hz => Ok_bind (pairNow_iv hI ⟨q, qk⟩) (fun z' hz' => Ok_nm (fun y wy => rec y _ ?_ (by omega)))))
    · have h := i32le h
      omega
    · show y = st (st (fo2 k _ _ l) (A_pair R F i93 (Int32.ofNat k) 0)) (A_pair R F i93 (Int32.ofNat k) 1)
      rw [wy, st_of hz, st_of hz', ha, ofN_iv hi (by omega)]
theorem rdg_places {n s g : Nat} {R F : Nat → Int32} {i2 i5 : Int32} {l : Int64} {P : Int64 → Prop} {k1 : Int64 → Option Int64} (hI : FI n s g R F) (h2 : i2.toInt = n) (h5 : i5.toInt = s) (hk : Ok (k1 (nxl n (dgP n s R F) l)) P) : Ok (LX8_digest_L37 i2 i5 R F 600 l 0 k1) P := by
  have n9 := hI.1
  refine lpQ (L := fun c a i => LX8_digest_L37 i2 i5 R F c a i k1) (n := n) (Q := fun k a => a = nxl k (dgP n s R F) l) (fun c a i hi ha => ?_) (fun c a i k hk' hi ha rec => ?_) (by omega) rfl
  · show Ok (BX8_digest_L37 i2 i5 R F a i (fun p q => LX8_digest_L37 i2 i5 R F c p q k1) k1) _
    unfold BX8_digest_L37
    refine Ok_if (fun _ => by rw [ha]; exact hk) (fun h => ?_)
    have h := i32nle h
    omega
  · show Ok (BX8_digest_L37 i2 i5 R F a i (fun p q => LX8_digest_L37 i2 i5 R F c p q k1) k1) _
    unfold BX8_digest_L37
    have ei := inc_iv (x := i) (by omega)
    have q : pl n i := ⟨by omega, by omega⟩
    have ta : tn i = k := by unfold tn; omega
    refine Ok_if (fun h => ?_) (fun _ => rdg_of hI h2 q (Ok_bind (layerNow_iv hI h2 h5 q) (fun z hz => Ok_nm (fun y wy => rdg_pairs hI h2 q (rec _ _ ?_ (by omega))))))
    · have h := i32le h
      omega
    · show _ = dgP n s R F k (nxl k (dgP n s R F) l)
      unfold dgP
      rw [wy, st_of (layN_eq hz), ha, ta, ofN_iv hi (by omega)]
      rfl
theorem digest_iv {n s g : Nat} {R F : Nat → Int32} {i2 i5 i6 i7 i8 i9 : Int32} (hI : FI n s g R F) (h2 : i2.toInt = n) (h5 : i5.toInt = s) (h6 : i6.toInt = g) : Ok (fX8_digest i2 i5 i6 i7 i8 i9 R F) (fun z => z = dgD n s g R F i7 i8 i9) := by
  have n9 := hI.1
  have se := hI.2.1
  unfold fX8_digest
  refine rdg_told hI h2 h5 h6 (rdg_places hI h2 h5 ?_)
  refine Ok_bind (hI.valueNow h2 h5 hI.2.1.1) (fun z141 h141 => Ok_bind (leastNow_iv n9.2 se.1 se.2.1 hI.smR h2 h5 h6) (fun z142 h142 => Ok_bind (leastsNow_iv hI h2 h5 h6) (fun z143 h143 => Ok_nm (fun l144 w144 => ?_))))
  refine Ok_bind (endNow_iv hI h2 h5 h6) (fun z145 h145 => Ok_bind (endNow_iv hI h2 h5 h6) (fun z146 h146 => Ok_bind (partsNow_iv hI h2 h5 h6) (fun z147 h147 => Ok_nm (fun l148 w148 => ?_))))
  refine Ok_bind (partsNow_iv hI h2 h5 h6) (fun z149 h149 => Ok_bind (textLen_iv hI h2 h5 h6) (fun z150 h150 => ?_))
  obtain ⟨l3, m1, m2, m3⟩ := h150
  refine Ok_bind (lenO_iv m3) (fun z153 h153 => Ok_bind (apartNow_iv hI (ones_of R) h2 h5 h6) (fun z154 h154 => Ok_nm (fun l155 w155 => rdg_house ?_)))
  refine Ok_bind (isSoundNow_iv hI h2 h5 h6) (fun z176 h176 => ?_)
  refine Ok_if (fun e => absurd (h176.symm.trans e) (by decide)) (fun _ => Ok_some ?_)
  obtain ⟨l1, p2, p3⟩ := h147
  obtain ⟨l2, r2, r3⟩ := h149
  have p4 := prL_eq n9.2 se.1 p2
  have r4 := prL_eq n9.2 se.1 r2
  have m4 := prL_eq n9.2 se.1 m1
  subst p4 r4 m4
  have h153 := h153.trans m2
  have e1 : l155 = dgC n s g R F := by
    rw [w155, st_of h154, st_of h153, st_of r3, w148, st_of p3, h146, st_x, h145, st_x, w144, st_of h143, st_of h142, st_of h141]
    rfl
  show _ * 31 + (1 : Int32).toInt64 = _
  rw [e1, st_of (x := 1) (v := 1) rfl]
  rfl
theorem sim_digest {n s g : Nat} {R F : Nat → Int32} {a b c a' b' c' : Int32} {x y : Int64} (h1 : x = dgD n s g R F a b c) (h2 : y = dgD n s g R F a' b' c') (e1 : a = a') (e2 : b = b') (e3 : c = c') : x = y ∧ True := by
  rw [h1, h2, e1, e2, e3]
  exact ⟨rfl, trivial⟩
theorem cmp_long {β : Type} {P : β → Prop} {a b : Int64} {X : Option β} (h : a = b) (hk : Ok X P) : Ok (if (lg_cmp a b) = (0 : Int32) then X else none) P := by
  subst h
  refine Ok_if (fun _ => hk) (fun q => absurd ?_ q)
  exact lg_self2 _
