/-! LAYER -/
def Fw (n : Nat) (E : Nat → Nat → Prop) (s : Nat) : Nat → Nat → Prop
  | 0, x => x = s
  | k + 1, x => Fw n E s k x ∨ (x < n ∧ ∃ y, y < n ∧ E y x ∧ Fw n E s k y)
theorem Cm.snoc {n x y : Nat} {E : Nat → Nat → Prop} (hx : x < n) (hy : y < n) (hE : E y x) : ∀ (k a : Nat), Cm n E nowhere y k a → Cm n E nowhere x (k + 1) a
  | 0, a, h => by
    have h : a = y := h
    subst h
    exact Or.inr ⟨hy, id, x, hx, hE, rfl⟩
  | k + 1, a, h => by
    rcases h with h | ⟨h1, h2, z, h3, h4, h5⟩
    · exact Or.inl (Cm.snoc hx hy hE k a h)
    · exact Or.inr ⟨h1, h2, z, h3, h4, Cm.snoc hx hy hE k z h5⟩
theorem Fw.Cm {n s : Nat} {E : Nat → Nat → Prop} : ∀ (k x : Nat), Fw n E s k x → Cm n E nowhere x k s
  | 0, x, h => Eq.symm h
  | k + 1, x, h => by
    rcases h with h | ⟨h1, y, h2, h3, h4⟩
    · exact Or.inl (Fw.Cm k x h)
    · exact Cm.snoc h1 h2 h3 k s (Fw.Cm k y h4)
theorem Fw.cons {n s z : Nat} {E : Nat → Nat → Prop} (hz : z < n) (hs : s < n) (hE : E s z) : ∀ (k x : Nat), Fw n E z k x → Fw n E s (k + 1) x
  | 0, x, h => by
    have h : x = z := h
    subst h
    exact Or.inr ⟨hz, s, hs, hE, rfl⟩
  | k + 1, x, h => by
    rcases h with h | ⟨h1, y, h2, h3, h4⟩
    · exact Or.inl (Fw.cons hz hs hE k x h)
    · exact Or.inr ⟨h1, y, h2, h3, Fw.cons hz hs hE k y h4⟩
theorem Cm.Fw {n x : Nat} {E : Nat → Nat → Prop} : ∀ (k a : Nat), Cm n E nowhere x k a → Fw n E a k x
  | 0, a, h => Eq.symm h
  | k + 1, a, h => by
    rcases h with h | ⟨h1, h2, z, h3, h4, h5⟩
    · exact Or.inl (Cm.Fw k a h)
    · exact Fw.cons h3 h1 h4 k x (Cm.Fw k z h5)
theorem lay56 {n a : Nat} {R F : Nat → Int32} {S : Nat → Prop} {i3 i166 x : Int32} {P : Int32 → Prop} {k1 : Int32 → Option Int32} (h3 : i3.toInt = n) (hn : n ≤ 9) (h166 : i166.toInt = a) (ha : a < 9) (hR : sm R) (hF : sm F) (hx : isSet_ x S) (hk : ∀ i, isSet_ i (fun y => S y ∨ (y < n ∧ ed R F a y)) → Ok (k1 i) P) : Ok (LX8_layerNow_L56 i3 R F i166 600 x 0 k1) P := by
  refine lpQ (L := fun c y i => LX8_layerNow_L56 i3 R F i166 c y i k1) (n := n) (Q := fun k y => isSet_ y (fun p => S p ∨ (p < k ∧ ed R F a p))) (fun c y i hi hy => ?_) (fun c y i k hk' hi hy rec => ?_) (by omega) (hx.of (fun p _ => ⟨fun q => Or.inl q, fun q => q.elim id (fun w => absurd w.1 (by omega))⟩))
  · show Ok (BX8_layerNow_L56 i3 R F i166 y i (fun p q => LX8_layerNow_L56 i3 R F i166 c p q k1) k1) _
    unfold BX8_layerNow_L56
    refine Ok_if (fun _ => hk y hy) (fun h => ?_)
    have h := i32nle h
    omega
  · show Ok (BX8_layerNow_L56 i3 R F i166 y i (fun p q => LX8_layerNow_L56 i3 R F i166 c p q k1) k1) _
    unfold BX8_layerNow_L56
    have ei := inc_iv (x := i) (by omega)
    have t0 : (0 : Int32).toInt = 0 := rfl
    refine Ok_if (fun h => ?_) (fun _ => Ok_bind (left_iv h166 hi ha (by omega) hR hF) (fun z hz => Ok_jn (fun kk wk => ?_)))
    · have h := i32le h
      omega
    · rw [wk]
      refine Ok_if (fun e => rec y _ ?_ (by omega)) (fun e => Ok_nm (fun u wu => rec u _ ?_ (by omega)))
      · have e := i32le e
        refine hy.of (fun p _ => ⟨fun q => q.elim Or.inl (fun w => Or.inr ⟨by omega, w.2⟩), fun q => q.elim Or.inl (fun w => ?_)⟩)
        by_cases c : p = k
        · subst c
          have : 0 < lf R F a p := w.2
          omega
        · exact Or.inr ⟨by omega, w.2⟩
      · have e := i32nle e
        rw [wu]
        refine (isSet_or hy hi (by omega)).of (fun p _ => ⟨fun q => ?_, fun q => ?_⟩)
        · rcases q with (q | q) | q
          · exact Or.inl q
          · exact Or.inr ⟨by omega, q.2⟩
          · subst q
            exact Or.inr ⟨by omega, by show 0 < lf R F a p; omega⟩
        · rcases q with q | q
          · exact Or.inl (Or.inl q)
          · by_cases c : p = k
            · exact Or.inr c
            · exact Or.inl (Or.inr ⟨by omega, q.2⟩)
theorem lay34 {n : Nat} {R F : Nat → Int32} {T : Nat → Prop} {i3 i114 : Int32} {P : Int32 → Prop} {k1 : Int32 → Option Int32} (h3 : i3.toInt = n) (hn : n ≤ 9) (hR : sm R) (hF : sm F) (hT : isSet_ i114 T) (hk : ∀ i, isSet_ i (fun x => T x ∨ (x < n ∧ ∃ y, y < n ∧ ed R F y x ∧ T y)) → Ok (k1 i) P) : Ok (LX8_layerNow_L34 i3 R F i114 600 i114 0 k1) P := by
  refine lpQ (L := fun c y i => LX8_layerNow_L34 i3 R F i114 c y i k1) (n := n) (Q := fun k y => isSet_ y (fun x => T x ∨ (x < n ∧ ∃ y, y < k ∧ ed R F y x ∧ T y))) (fun c y i hi hy => ?_) (fun c y i k hk' hi hy rec => ?_) (by omega) (hT.of (fun p _ => ⟨fun q => Or.inl q, fun q => q.elim id (fun ⟨_, w, w1, _⟩ => absurd w1 (by omega))⟩))
  · show Ok (BX8_layerNow_L34 i3 R F i114 y i (fun p q => LX8_layerNow_L34 i3 R F i114 c p q k1) k1) _
    unfold BX8_layerNow_L34
    refine Ok_if (fun _ => hk y hy) (fun h => ?_)
    have h := i32nle h
    omega
  · show Ok (BX8_layerNow_L34 i3 R F i114 y i (fun p q => LX8_layerNow_L34 i3 R F i114 c p q k1) k1) _
    unfold BX8_layerNow_L34
    have ei := inc_iv (x := i) (by omega)
    refine Ok_if (fun h => ?_) (fun _ => Ok_jn (fun kk wk => ?_))
    · have h := i32le h
      omega
    · rw [wk, bit_iv hi (by omega)]
      by_cases c : has i114 k = true
      · rw [if_pos c, if_pos rfl]
        have hTk : T k := (hT k (by omega)).mp c
        refine lay56 h3 hn hi (by omega) hR hF hy (fun w hw => rec w _ ?_ (by omega))
        refine hw.of (fun p _ => ⟨fun q => ?_, fun q => ?_⟩)
        · rcases q with (q | ⟨q1, z, q2, q3, q4⟩) | q
          · exact Or.inl q
          · exact Or.inr ⟨q1, z, by omega, q3, q4⟩
          · exact Or.inr ⟨q.1, k, by omega, q.2, hTk⟩
        · rcases q with q | ⟨q1, z, q2, q3, q4⟩
          · exact Or.inl (Or.inl q)
          · by_cases w : z = k
            · subst w
              exact Or.inr ⟨q1, q3⟩
            · exact Or.inl (Or.inr ⟨q1, z, by omega, q3, q4⟩)
      · rw [if_neg c, if_neg (by decide)]
        have hTk : ¬ T k := fun q => c ((hT k (by omega)).mpr q)
        refine rec y _ ?_ (by omega)
        refine hy.of (fun p _ => ⟨fun q => ?_, fun q => ?_⟩)
        · rcases q with q | ⟨q1, z, q2, q3, q4⟩
          · exact Or.inl q
          · exact Or.inr ⟨q1, z, by omega, q3, q4⟩
        · rcases q with q | ⟨q1, z, q2, q3, q4⟩
          · exact Or.inl q
          · by_cases w : z = k
            · subst w
              exact absurd q4 hTk
            · exact Or.inr ⟨q1, z, by omega, q3, q4⟩
def layp (n s : Nat) (R F : Nat → Int32) (p k : Nat) : Prop := Cm n (ed R F) nowhere p k s
theorem layerNow_iv {n s g : Nat} {R F : Nat → Int32} {i3 i6 i2 : Int32} (hI : FI n s g R F) (h3 : i3.toInt = n) (h6 : i6.toInt = s) (q : pl n i2) : Ok (fX8_layerNow i3 i6 R F i2) (fun z => firstN (layp n s R F (tn i2)) n z.toInt) := by
  have n9 := hI.1
  have se := hI.2.1
  obtain ⟨a2, l2⟩ := q.eq
  unfold fX8_layerNow
  refine Ok_nm (fun x wx => ?_)
  have hx : isSet_ x (Fw n (ed R F) s 0) := by rw [wx]; exact isSet_one h6 (by omega)
  clear wx
  refine lpQ (L := fun c y i => LX8_layerNow_L9 i3 R F i2 c y i) (n := n) (Q := fun k y => isSet_ y (Fw n (ed R F) s k) ∧ ∀ j, j < k → ¬ layp n s R F (tn i2) j) (fun c y i hi hy => ?_) (fun c y i k hk hi hy rec => ?_) (by omega) ⟨hx, fun j hj => absurd hj (by omega)⟩
  · show Ok (BX8_layerNow_L9 i3 R F i2 y i (fun p q => LX8_layerNow_L9 i3 R F i2 c p q)) _
    unfold BX8_layerNow_L9
    refine Ok_if (fun _ => Ok_some (Or.inl ⟨rfl, hy.2⟩)) (fun h => ?_)
    have h := i32nle h
    omega
  · show Ok (BX8_layerNow_L9 i3 R F i2 y i (fun p q => LX8_layerNow_L9 i3 R F i2 c p q)) _
    unfold BX8_layerNow_L9
    have ei := inc_iv (x := i) (by omega)
    obtain ⟨hy1, hy2⟩ := hy
    refine Ok_if (fun h => ?_) (fun _ => ?_)
    · have h := i32le h
      omega
    · rw [bit_iv a2 (by omega)]
      by_cases c : has y (tn i2) = true
      · rw [if_pos c, if_pos rfl]
        exact Ok_some (Or.inr ⟨k, hk, hi, Fw.Cm k _ ((hy1 _ (by omega)).mp c), hy2⟩)
      · rw [if_neg c, if_neg (by decide)]
        refine lay34 h3 n9.2 hI.smR hI.smF hy1 (fun w hw => rec w _ ⟨hw, fun j hj => ?_⟩ (by omega))
        by_cases w : j = k
        · subst w
          exact fun v => c ((hy1 _ (by omega)).mpr (Cm.Fw j _ v))
        · exact hy2 j (by omega)
theorem layer_iv {n s g : Nat} {R F : Nat → Int32} {i3 i6 i2 : Int32} (hI : FI n s g R F) (h3 : i3.toInt = n) (h6 : i6.toInt = s) : Ok (fX8_layer i3 i6 R F i2) (fun z => RQ (pl n i2) True (firstN (layp n s R F (tn i2)) n) z.2 z.1) := by
  unfold fX8_layer
  refine fl_of (pl_iv h3) (fun i hi => ?_)
  refine thrown1 hi (fun q => ⟨_, rfl, Or.inl ⟨q, rfl⟩⟩) (fun q => Ok_if (fun _ => ?_) (fun h => absurd rfl h))
  exact Ok_bind (layerNow_iv hI h3 h6 q) (fun z hz => Ok_some (Or.inr (Or.inr ⟨q, trivial, rfl, hz⟩)))
theorem clayer_iv {n s g : Nat} {R F Rc Fc f24 : Nat → Int32} {i12 i13 i23 i2 : Int32} {l25 : Int64} (hI : FI n s g R F) (hR : same Rc R) (hF : same Fc F) (h12 : i12.toInt = n) (h13 : i13.toInt = s) (h23 : 0 ≤ i23.toInt ∧ i23.toInt ≤ 9) : Ok (fL_layer i12 i13 Rc Fc i23 f24 l25 i2) (fun z => CQ (pl n i2) True (firstN (layp n s R F (tn i2)) n) z.1 z.2.2.2 ∧ (0 ≤ z.2.1.toInt ∧ z.2.1.toInt ≤ 9)) := by
  have n9 := hI.1
  have se := hI.2.1
  unfold fL_layer
  refine xc_of ?_
  unfold fX6_layer
  refine xb_need (needPlace_iv h12) (fun q => ?_) (fun q => ?_)
  · show Ok (if _ then _ else _) _
    rw [if_pos rfl]
    exact ⟨_, rfl, Or.inl ⟨q, rfl⟩, h23⟩
  · obtain ⟨a2, l2⟩ := q.eq
    unfold fX5_layerOf
    refine Ok_bind (R := fun z => firstN (layp n s R F (tn i2)) n z.1.toInt) (Ok_bind (look_iv f24 h12 n9.2) (fun w hw => Ok_bind (steps_iv h12 n9.2 hw h13 se.1 a2 l2) (fun y hy => Ok_some ?_))) (fun z hz => ⟨_, rfl, ⟨_, rfl, Or.inr (Or.inr ⟨q, trivial, rfl, z.1, rfl, hz⟩), by show 0 ≤ i12.toInt ∧ i12.toInt ≤ 9; omega⟩⟩)
    have cv : ∀ k, layp n s Rc Fc (tn i2) k ↔ layp n s R F (tn i2) k := fun k => ⟨fun h => Cm.ofE (ed_same hR hF n9.2) k s h, fun h => Cm.ofE (ed_same hR.symm hF.symm n9.2) k s h⟩
    rcases hy with ⟨e, h⟩ | ⟨k, k1, k2, k3, k4⟩
    · exact Or.inl ⟨by rw [e]; rfl, fun k _ w => h k ((cv k).mpr w)⟩
    · exact Or.inr ⟨k, k1, k2, (cv k).mp k3, fun j hj w => k4 j hj ((cv j).mpr w)⟩
