/-! THE DIGEST, on both sides -/
def st (l : Int64) (v : Int) : Int64 := l * 31 + (Int32.ofInt v).toInt64
theorem st_of {x : Int32} {v : Int} {l : Int64} (h : x.toInt = v) : l * 31 + x.toInt64 = st l v := by
  unfold st
  rw [← h, Int32.ofInt_toInt]
def fo : Nat → (Nat → Int) → Int64 → Int64
  | 0, _, l => l
  | k + 1, f, l => st (fo k f l) (f k)
def fo2 : Nat → (Nat → Int) → (Nat → Int) → Int64 → Int64
  | 0, _, _, l => l
  | k + 1, f, g, l => st (st (fo2 k f g l) (f k)) (g k)
def nxl : Nat → (Nat → Int64 → Int64) → Int64 → Int64
  | 0, _, l => l
  | k + 1, f, l => f k (nxl k f l)
noncomputable def layN (n s : Nat) (R F : Nat → Int32) (a : Nat) : Int := Classical.epsilon (fun v => firstN (layp n s R F a) n v)
theorem layN_eq {n s a : Nat} {R F : Nat → Int32} {v : Int} (h : firstN (layp n s R F a) n v) : v = layN n s R F a := firstN_only _ _ h (Classical.epsilon_spec (p := fun v => firstN (layp n s R F a) n v) ⟨v, h⟩)
noncomputable def prL (n s g : Nat) (F : Nat → Int32) : List (Int × Int × List Nat) := Classical.epsilon (fun l => prts n s g l F)
theorem prL_eq {n s g : Nat} {F : Nat → Int32} {l : List (Int × Int × List Nat)} (hn : n ≤ 9) (hs : s < n) (h : prts n s g l F) : l = prL n s g F := prts_uni hn hs _ _ (same_refl F) h (Classical.epsilon_spec (p := fun l => prts n s g l F) ⟨l, h⟩)
noncomputable def dgP (n s : Nat) (R F : Nat → Int32) (a : Nat) (l : Int64) : Int64 := fo2 n (fun b => A_pair R F (Int32.ofNat a) (Int32.ofNat b) 0) (fun b => A_pair R F (Int32.ofNat a) (Int32.ofNat b) 1) (st (fo 4 (fun k => A_ofPlace n R F a (Int32.ofNat k)) l) (layN n s R F a))
noncomputable def dgA (n s g : Nat) (R F : Nat → Int32) : Int64 := nxl n (dgP n s R F) (fo 5 (fun k => A_told n s g R (Int32.ofNat k)) 8026)
noncomputable def dgB (n s g : Nat) (R F : Nat → Int32) : Int64 := st (st (st (st (st (st (st (dgA n s g R F) (outF n F s)) (least n s g R)) (cnN n s g R (least n s g R) (2 ^ n))) (A_end n s g R 0).toInt) (A_end n s g R 1).toInt) (cntP 1 (prL n s g F))) (cntP 0 (prL n s g F))
noncomputable def dgC (n s g : Nat) (R F : Nat → Int32) : Int64 := st (st (dgB n s g R F) (lenL true (prL n s g F))) (least n s g (onesOf R))
noncomputable def dgD (n s g : Nat) (R F : Nat → Int32) (i7 i8 i9 : Int32) : Int64 := st (fo 3 (fun k => A_house i7 i8 i9 (Int32.ofNat k)) (dgC n s g R F)) 1
theorem st_x {x : Int32} {l : Int64} : l * 31 + x.toInt64 = st l x.toInt := st_of rfl
/-! calls of the class within its bounds -/
section XIN
variable {α β : Type}
theorem Ok_x0r {x : Option (String ⊕ α)} {f : α → Option β} {R : α → Prop} {P : β → Prop} (h : Ok x (fun z => ∃ v, z = .inr v ∧ R v)) (k : ∀ v, R v → Ok (f v) P) : Ok (x0 x f) P := by
  obtain ⟨z, rfl, v, rfl, hv⟩ := h
  exact k v hv
end XIN
theorem i64inj {v w : Int32} (h : v.toInt64 = w.toInt64) : v = w := by
  have := congrArg Int64.toInt h
  rw [Int32.toInt_toInt64, Int32.toInt_toInt64] at this
  exact Int32.toInt_inj.mp this
theorem cq_in {c1 c2 : Prop} {A : Int → Prop} {k : Int32} {out : Int64} (h : CQ c1 c2 A k out) (q1 : c1) (q2 : c2) : k = 0 ∧ ∃ v : Int32, out = v.toInt64 ∧ A v.toInt := by
  rcases h with ⟨a, -⟩ | ⟨-, b, -⟩ | ⟨-, -, c, d⟩
  · exact absurd q1 a
  · exact absurd q2 b
  · exact ⟨c, d⟩
theorem xinv {x : Option (String ⊕ Int32)} {hx : String → Option (Int32 × Int64)} {c1 c2 : Prop} {A : Int → Prop} (h0 : ∀ e z, hx e = some z → ¬ z.1 = 0) (h : Ok (xc x hx (fun z21 => some ((0 : Int32), z21.toInt64))) (fun z => CQ c1 c2 A z.1 z.2)) (q1 : c1) (q2 : c2) : Ok x (fun z => ∃ v, z = .inr v ∧ A v.toInt) := by
  obtain ⟨z, e, hz⟩ := h
  obtain ⟨k0, v, e2, hv⟩ := cq_in hz q1 q2
  cases x with
  | none => cases e
  | some y =>
    cases y with
    | inl w => exact absurd k0 (h0 w z e)
    | inr w =>
      have e' : some ((0 : Int32), w.toInt64) = some z := e
      cases e'
      exact ⟨_, rfl, w, rfl, by rw [i64inj e2]; exact hv⟩
theorem hx1 {l : Int64} : ∀ (e : String) (z : Int32 × Int64), (if e = IAE then (some ((1 : Int32), l)) else none) = some z → ¬ z.1 = 0 := by
  intro e z h
  split at h
  · cases h
    exact one_ne
  · cases h
theorem hx2 {l : Int64} : ∀ (e : String) (z : Int32 × Int64), (if e = IOB then (some ((1 : Int32), l)) else if e = IAE then (some ((2 : Int32), l)) else none) = some z → ¬ z.1 = 0 := by
  intro e z h
  split at h
  · cases h
    exact one_ne
  · split at h
    · cases h
      exact two_ne
    · cases h
theorem xtold_iv {n s g : Nat} {R F Rc : Nat → Int32} {i12 i13 i14 i2 : Int32} (hI : FI n s g R F) (hR : same Rc R) (h12 : i12.toInt = n) (h13 : i13.toInt = s) (h14 : i14.toInt = g) (q : 0 ≤ i2.toInt ∧ i2.toInt ≤ 4) : Ok (fX6_told i12 i13 i14 Rc i2) (fun z => ∃ v, z = .inr v ∧ v.toInt = A_told n s g R i2) := by
  have h := ctold_iv (i2 := i2) (l19 := 0) hI hR h12 h13 h14
  unfold fL_told at h
  exact xinv hx1 h q trivial
theorem xhouse_iv {i9 i10 i11 i2 : Int32} (q : 0 ≤ i2.toInt ∧ i2.toInt ≤ 2) : Ok (fX6_house i9 i10 i11 i2) (fun z => ∃ v, z = .inr v ∧ v.toInt = A_house i9 i10 i11 i2) := by
  have h := chouse_iv i9 i10 i11 0 i2
  unfold fL_house at h
  exact xinv hx1 h q trivial
theorem xpair_iv {n s g : Nat} {R F Rc Fc : Nat → Int32} {i14 i2 i3 i4 : Int32} (hI : FI n s g R F) (hR : same Rc R) (hF : same Fc F) (h14 : i14.toInt = n) (q : pl n i2 ∧ pl n i3) (p : 0 ≤ i4.toInt ∧ i4.toInt ≤ 2) : Ok (fX6_pair i14 Rc Fc i2 i3 i4) (fun z => ∃ v, z = .inr v ∧ v.toInt = A_pair R F i2 i3 i4) := by
  have h := cpair_iv (i2 := i2) (i3 := i3) (i4 := i4) (l23 := 0) hI hR hF h14
  unfold fL_pair at h
  exact xinv hx2 h q p
theorem xofPlace_iv {n s g : Nat} {R F Rc Fc : Nat → Int32} {i13 i2 i3 : Int32} (hI : FI n s g R F) (hR : same Rc R) (hF : same Fc F) (h13 : i13.toInt = n) (q : pl n i2) (p : 0 ≤ i3.toInt ∧ i3.toInt ≤ 3) : Ok (fX6_ofPlace i13 Rc Fc i2 i3) (fun z => ∃ v, z = .inr v ∧ v.toInt = A_ofPlace n R F (tn i2) i3) := by
  have h := cofPlace_iv (i2 := i2) (i3 := i3) (l22 := 0) hI hR hF h13
  unfold fL_ofPlace at h
  exact xinv hx2 h q p
theorem xlayer_iv {n s g : Nat} {R F Rc Fc f24 : Nat → Int32} {i12 i13 i2 : Int32} (hI : FI n s g R F) (hR : same Rc R) (hF : same Fc F) (h12 : i12.toInt = n) (h13 : i13.toInt = s) (q : pl n i2) : Ok (fX6_layer i12 i13 Rc Fc f24 i2) (fun z => ∃ v, z = .inr v ∧ firstN (layp n s R F (tn i2)) n v.1.toInt) := by
  have n9 := hI.1
  have se := hI.2.1
  unfold fX6_layer
  refine xb_need (needPlace_iv h12) (fun w => absurd q w) (fun _ => ?_)
  obtain ⟨a2, l2⟩ := q.eq
  unfold fX5_layerOf
  refine Ok_bind (R := fun z => firstN (layp n s R F (tn i2)) n z.1.toInt) (Ok_bind (look_iv f24 h12 n9.2) (fun w hw => Ok_bind (steps_iv h12 n9.2 hw h13 se.1 a2 l2) (fun y hy => Ok_some ?_))) (fun z hz => ⟨_, rfl, _, rfl, hz⟩)
  have cv : ∀ k, layp n s Rc Fc (tn i2) k ↔ layp n s R F (tn i2) k := fun k => ⟨fun h => Cm.ofE (ed_same hR hF n9.2) k s h, fun h => Cm.ofE (ed_same hR.symm hF.symm n9.2) k s h⟩
  rcases hy with ⟨e, h⟩ | ⟨k, k1, k2, k3, k4⟩
  · exact Or.inl ⟨by rw [e]; rfl, fun k _ w => h k ((cv k).mpr w)⟩
  · exact Or.inr ⟨k, k1, k2, (cv k).mp k3, fun j hj w => k4 j hj ((cv j).mpr w)⟩
theorem xmost_iv {n s g : Nat} {R F Rc Fc f27 f29 f35 f36 : Nat → Int32} {i12 i13 i14 i32 i34 i2 : Int32} (hI : FI n s g R F) (hR : same Rc R) (h12 : i12.toInt = n) (h13 : i13.toInt = s) (h14 : i14.toInt = g) (q : 0 ≤ i2.toInt ∧ i2.toInt ≤ 2) : Ok (fX6_most i12 i13 i14 Rc Fc f27 f29 i32 i34 f35 f36 i2) (fun z => ∃ v, z = .inr v ∧ v.1.toInt = least n s g R) := by
  refine Ok_mono (cmost_iv hI hR h12 h13 h14) (fun z hz => ?_)
  rcases hz with ⟨w, -⟩ | ⟨-, y, e, y1, -, -⟩
  · exact absurd q w
  · exact ⟨y, e, y1⟩
theorem xapart_iv {n s g : Nat} {R F Rc Fc f27 f29 f35 f36 Z : Nat → Int32} {i12 i13 i14 i32 i34 : Int32} (hI : FI n s g R F) (hR : same Rc R) (hZ : ones R Z) (h12 : i12.toInt = n) (h13 : i13.toInt = s) (h14 : i14.toInt = g) : Ok (fX6_apart i12 i13 i14 Rc Fc f27 f29 i32 i34 f35 f36 0) (fun z => ∃ v, z = .inr v ∧ v.1.toInt = least n s g Z) := by
  have n9 := hI.1
  have se := hI.2.1
  have t0 : (0 : Int32).toInt = 0 := rfl
  unfold fX6_apart
  refine xb_need (needWithin_iv (lo := 0) (hi := 1) rfl rfl) (fun q => absurd ⟨by omega, by omega⟩ q) (fun q => ?_)
  refine Ok_bind (become2_iv f27 f29 Rc Fc) (fun z37 h37 => Ok_bind (narrow_iv h12 n9.2 hI.rm (h37.1.trans hR)) (fun z38 h38 => ?_))
  have e := ones_same h38 hZ
  have hm := hI.rm.toOnes h38
  refine Ok_if (fun _ => ?_) (fun w => absurd rfl w)
  refine Ok_bind (mostTrial_iv hm n9 se.1 se.2.1 se.2.2 h12 h13 h14 (by omega)) (fun z hz => ?_)
  exact ⟨_, rfl, _, rfl, by show z.1.toInt = _; rw [hz.1]; exact least_same n9.2 e⟩
/-! the class's loops -/
theorem ofN_iv {i : Int32} {k : Nat} (h : i.toInt = k) (hk : k ≤ 512) : Int32.ofNat k = i := (idxN h hk).symm
theorem cdg_told {n s g : Nat} {R F Rc : Nat → Int32} {i10 i11 i12 : Int32} {l : Int64} {P : (Int64 × (Nat → Int32) × (Nat → Int32) × Int32 × Int32 × (Nat → Int32) × (Nat → Int32) × Int32 × Int32 × Int32 × (Nat → Int32) × Int32 × Int32 × Nat × (Nat → Int32)) → Prop} {k1 : Int64 → Option (Int64 × (Nat → Int32) × (Nat → Int32) × Int32 × Int32 × (Nat → Int32) × (Nat → Int32) × Int32 × Int32 × Int32 × (Nat → Int32) × Int32 × Int32 × Nat × (Nat → Int32))} (hI : FI n s g R F) (hR : same Rc R) (h10 : i10.toInt = n) (h11 : i11.toInt = s) (h12 : i12.toInt = g) (hk : Ok (k1 (fo 5 (fun k => A_told n s g R (Int32.ofNat k)) l)) P) : Ok (LX6_digest_L6 i10 i11 i12 Rc 12 l 0 k1) P := by
  have t4 : (4 : Int32).toInt = 4 := rfl
  refine lpQ (L := fun c a i => LX6_digest_L6 i10 i11 i12 Rc c a i k1) (n := 5) (Q := fun k a => a = fo k (fun k => A_told n s g R (Int32.ofNat k)) l) (fun c a i hi ha => ?_) (fun c a i k hk' hi ha rec => ?_) (by omega) rfl
  · show Ok (BX6_digest_L6 i10 i11 i12 Rc a i (fun p q => LX6_digest_L6 i10 i11 i12 Rc c p q k1) k1) _
    unfold BX6_digest_L6
    refine Ok_if (fun _ => by rw [ha]; exact hk) (fun h => ?_)
    have h := i32nlt h
    omega
  · show Ok (BX6_digest_L6 i10 i11 i12 Rc a i (fun p q => LX6_digest_L6 i10 i11 i12 Rc c p q k1) k1) _
    unfold BX6_digest_L6
    have ei := inc_iv (x := i) (by omega)
    refine Ok_if (fun h => ?_) (fun _ => Ok_x0r (xtold_iv hI hR h10 h11 h12 ⟨by omega, by omega⟩) (fun z hz => Ok_nm (fun y wy => rec y _ ?_ (by omega))))
    · have h := i32lt h
      omega
    · show y = st (fo k _ l) (A_told n s g R (Int32.ofNat k))
      rw [wy, st_of hz, ha, ofN_iv hi (by omega)]
theorem cdg_house {i7 i8 i9 : Int32} {l : Int64} {P : (Int64 × (Nat → Int32) × (Nat → Int32) × Int32 × Int32 × (Nat → Int32) × (Nat → Int32) × Int32 × Int32 × Int32 × (Nat → Int32) × Int32 × Int32 × Nat × (Nat → Int32)) → Prop} {k1 : Int64 → Option (Int64 × (Nat → Int32) × (Nat → Int32) × Int32 × Int32 × (Nat → Int32) × (Nat → Int32) × Int32 × Int32 × Int32 × (Nat → Int32) × Int32 × Int32 × Nat × (Nat → Int32))} (hk : Ok (k1 (fo 3 (fun k => A_house i7 i8 i9 (Int32.ofNat k)) l)) P) : Ok (LX6_digest_L179 i7 i8 i9 12 l 0 k1) P := by
  have t2 : (2 : Int32).toInt = 2 := rfl
  refine lpQ (L := fun c a i => LX6_digest_L179 i7 i8 i9 c a i k1) (n := 3) (Q := fun k a => a = fo k (fun k => A_house i7 i8 i9 (Int32.ofNat k)) l) (fun c a i hi ha => ?_) (fun c a i k hk' hi ha rec => ?_) (by omega) rfl
  · show Ok (BX6_digest_L179 i7 i8 i9 a i (fun p q => LX6_digest_L179 i7 i8 i9 c p q k1) k1) _
    unfold BX6_digest_L179
    refine Ok_if (fun _ => by rw [ha]; exact hk) (fun h => ?_)
    have h := i32nlt h
    omega
  · show Ok (BX6_digest_L179 i7 i8 i9 a i (fun p q => LX6_digest_L179 i7 i8 i9 c p q k1) k1) _
    unfold BX6_digest_L179
    have ei := inc_iv (x := i) (by omega)
    refine Ok_if (fun h => ?_) (fun _ => Ok_x0r (xhouse_iv ⟨by omega, by omega⟩) (fun z hz => Ok_nm (fun y wy => rec y _ ?_ (by omega))))
    · have h := i32lt h
      omega
    · show y = st (fo k _ l) (A_house i7 i8 i9 (Int32.ofNat k))
      rw [wy, st_of hz, ha, ofN_iv hi (by omega)]
theorem cdg_of {n s g : Nat} {R F Rc Fc : Nat → Int32} {i12 i3 : Int32} {l : Int64} {P : (Int64 × (Nat → Int32)) → Prop} {k1 : Int64 → Option (Int64 × (Nat → Int32))} (hI : FI n s g R F) (hR : same Rc R) (hF : same Fc F) (h12 : i12.toInt = n) (q : pl n i3) (hk : Ok (k1 (fo 4 (fun k => A_ofPlace n R F (tn i3) (Int32.ofNat k)) l)) P) : Ok (LX6_withPlace_L6 i12 Rc Fc i3 12 l 0 k1) P := by
  have t3 : (3 : Int32).toInt = 3 := rfl
  refine lpQ (L := fun c a i => LX6_withPlace_L6 i12 Rc Fc i3 c a i k1) (n := 4) (Q := fun k a => a = fo k (fun k => A_ofPlace n R F (tn i3) (Int32.ofNat k)) l) (fun c a i hi ha => ?_) (fun c a i k hk' hi ha rec => ?_) (by omega) rfl
  · show Ok (BX6_withPlace_L6 i12 Rc Fc i3 a i (fun p q => LX6_withPlace_L6 i12 Rc Fc i3 c p q k1) k1) _
    unfold BX6_withPlace_L6
    refine Ok_if (fun _ => by rw [ha]; exact hk) (fun h => ?_)
    have h := i32nlt h
    omega
  · show Ok (BX6_withPlace_L6 i12 Rc Fc i3 a i (fun p q => LX6_withPlace_L6 i12 Rc Fc i3 c p q k1) k1) _
    unfold BX6_withPlace_L6
    have ei := inc_iv (x := i) (by omega)
    refine Ok_if (fun h => ?_) (fun _ => Ok_x0r (xofPlace_iv hI hR hF h12 q ⟨by omega, by omega⟩) (fun z hz => Ok_nm (fun y wy => rec y _ ?_ (by omega))))
    · have h := i32lt h
      omega
    · show y = st (fo k _ l) (A_ofPlace n R F (tn i3) (Int32.ofNat k))
      rw [wy, st_of hz, ha, ofN_iv hi (by omega)]
theorem cdg_pairs {n s g : Nat} {R F Rc Fc f88 : Nat → Int32} {i12 i3 : Int32} {l : Int64} (hI : FI n s g R F) (hR : same Rc R) (hF : same Fc F) (h12 : i12.toInt = n) (q : pl n i3) : Ok (LX6_withPlace_L53 i12 Rc Fc i3 f88 12 l 0) (fun z => z.1 = fo2 n (fun b => A_pair R F i3 (Int32.ofNat b) 0) (fun b => A_pair R F i3 (Int32.ofNat b) 1) l) := by
  have n9 := hI.1
  refine lpQ (L := fun c a i => LX6_withPlace_L53 i12 Rc Fc i3 f88 c a i) (n := n) (Q := fun k a => a = fo2 k (fun b => A_pair R F i3 (Int32.ofNat b) 0) (fun b => A_pair R F i3 (Int32.ofNat b) 1) l) (fun c a i hi ha => ?_) (fun c a i k hk' hi ha rec => ?_) (by omega) rfl
  · show Ok (BX6_withPlace_L53 i12 Rc Fc i3 f88 a i (fun p q => LX6_withPlace_L53 i12 Rc Fc i3 f88 c p q)) _
    unfold BX6_withPlace_L53
    refine Ok_if (fun _ => Ok_some ha) (fun h => ?_)
    have h := i32nle h
    omega
  · show Ok (BX6_withPlace_L53 i12 Rc Fc i3 f88 a i (fun p q => LX6_withPlace_L53 i12 Rc Fc i3 f88 c p q)) _
    unfold BX6_withPlace_L53
    have ei := inc_iv (x := i) (by omega)
    have qk : pl n i := ⟨by omega, by omega⟩
    refine Ok_if (fun h => ?_) (fun _ => Ok_x0r (xpair_iv hI hR hF h12 ⟨q, qk⟩ ⟨by decide, by decide⟩) (fun z hz => Ok_nm (fun y wy => Ok_x0r (xpair_iv hI hR hF h12 ⟨q, qk⟩ ⟨by decide, by decide⟩) (fun z' hz' => Ok_nm (fun y' wy' => rec y' _ ?_ (by omega))))))
    · have h := i32le h
      omega
    · show y' = st (st (fo2 k _ _ l) (A_pair R F i3 (Int32.ofNat k) 0)) (A_pair R F i3 (Int32.ofNat k) 1)
      rw [wy', st_of hz', wy, st_of hz, ha, ofN_iv hi (by omega)]
theorem cdg_place {n s g a : Nat} {R F Rc Fc f24 : Nat → Int32} {i12 i13 i3 : Int32} {l : Int64} (hI : FI n s g R F) (hR : same Rc R) (hF : same Fc F) (h12 : i12.toInt = n) (h13 : i13.toInt = s) (h3 : i3.toInt = a) (ha : a < n) : Ok (fX6_withPlace i12 i13 Rc Fc f24 l i3) (fun z => z.1 = dgP n s R F a l) := by
  have n9 := hI.1
  have q : pl n i3 := ⟨by omega, by omega⟩
  have ta : tn i3 = a := by unfold tn; omega
  have oa : Int32.ofNat a = i3 := ofN_iv h3 (by omega)
  unfold fX6_withPlace
  refine cdg_of hI hR hF h12 q (Ok_x0r (xlayer_iv hI hR hF h12 h13 q) (fun z hz => Ok_nm (fun y wy => Ok_mono (cdg_pairs hI hR hF h12 q) (fun v hv => ?_))))
  rw [hv, wy, st_of (layN_eq hz), ta]
  unfold dgP
  rw [oa]
theorem cdg_places {n s g : Nat} {R F Rc Fc f0 : Nat → Int32} {i10 i11 i0 : Int32} {l : Int64} {P : (Int64 × (Nat → Int32) × (Nat → Int32) × Int32 × Int32 × (Nat → Int32) × (Nat → Int32) × Int32 × Int32 × Int32 × (Nat → Int32) × Int32 × Int32 × Nat × (Nat → Int32)) → Prop} {k1 : Int64 → Int32 → (Nat → Int32) → Option (Int64 × (Nat → Int32) × (Nat → Int32) × Int32 × Int32 × (Nat → Int32) × (Nat → Int32) × Int32 × Int32 × Int32 × (Nat → Int32) × Int32 × Int32 × Nat × (Nat → Int32))} (hI : FI n s g R F) (hR : same Rc R) (hF : same Fc F) (h10 : i10.toInt = n) (h11 : i11.toInt = s) (hk : ∀ i f, Ok (k1 (nxl n (dgP n s R F) l) i f) P) : Ok (LX6_digest_L32 i10 i11 Rc Fc 12 l 0 i0 f0 k1) P := by
  have n9 := hI.1
  refine lpQ (L := fun c (a : Int64 × Int32 × (Nat → Int32)) i => LX6_digest_L32 i10 i11 Rc Fc c a.1 i a.2.1 a.2.2 k1) (n := n) (Q := fun k a => a.1 = nxl k (dgP n s R F) l) (a0 := (l, i0, f0)) (fun c a i hi ha => ?_) (fun c a i k hk' hi ha rec => ?_) (by omega) rfl
  · show Ok (BX6_digest_L32 i10 i11 Rc Fc a.1 i a.2.1 a.2.2 (fun p q u v => LX6_digest_L32 i10 i11 Rc Fc c p q u v k1) k1) _
    unfold BX6_digest_L32
    refine Ok_if (fun _ => by rw [ha]; exact hk _ _) (fun h => ?_)
    have h := i32nle h
    omega
  · show Ok (BX6_digest_L32 i10 i11 Rc Fc a.1 i a.2.1 a.2.2 (fun p q u v => LX6_digest_L32 i10 i11 Rc Fc c p q u v k1) k1) _
    unfold BX6_digest_L32
    have ei := inc_iv (x := i) (by omega)
    refine Ok_if (fun h => ?_) (fun _ => Ok_bind (cdg_place hI hR hF h10 h11 hi hk') (fun z hz => rec (z.1, i10, z.2) _ ?_ (by omega)))
    · have h := i32le h
      omega
    · show z.1 = dgP n s R F k (nxl k (dgP n s R F) l)
      rw [hz, ha]
/-! the parts' text, the class's side -/
theorem cwrite_iv {n s g : Nat} {R F Rc Fc f25 f27 f33 f38 : Nat → Int32} {i10 i11 i12 i29 i30 i32 i35 i36 : Int32} {n37 : Nat} (hI : FI n s g R F) (hF : same Fc F) (h10 : i10.toInt = n) (h11 : i11.toInt = s) (h12 : i12.toInt = g) (h32 : 0 ≤ i32.toInt ∧ i32.toInt ≤ 10) (hC : CT n37 i36 f38) : Ok (fX6_writeParts i10 i11 i12 Rc Fc f25 f27 i29 i30 i32 f33 i35 i36 n37 f38) (fun z => (0 ≤ z.2.2.2.2.1.toInt ∧ z.2.2.2.2.1.toInt ≤ 10) ∧ z.2.2.2.2.2.2.2.1.toInt = lenL true (prL n s g F)) := by
  have n9 := hI.1
  have se := hI.2.1
  have t0 : (0 : Int32).toInt = 0 := rfl
  unfold fX6_writeParts
  refine Ok_bind (become2_iv f25 f27 Rc Fc) (fun z39 h39 => ?_)
  have e := h39.2.trans hF
  have hI2 : FI n s g R z39.2 := hI.ofsame (same_refl R) e
  have hm := mu_bd n s z39.2
  refine Ok_gd ⟨Nat.le_refl _, by have := hC.1; omega⟩ (Ok_bind (ts0 hC.1 hC.2.2 i35 i36 hC.2.1) (fun z40 h40 => ?_))
  refine Ok_mono (wx_loop h10 h11 h12 102 0 z39.2 i29 i30 i32 f33 0 n37 z40.2 hI2 (by omega) ⟨by omega, by omega⟩ h32 (h40.le (by omega))) (fun z hz => ?_)
  obtain ⟨⟨b, -⟩, l, l1, l2⟩ := hz
  refine ⟨b, ?_⟩
  rw [l2, prL_eq n9.2 se.1 (prts_same n9.2 se.1 l e l1), decide_eq_true t0, t0]
  omega
theorem cdigest0 {n s g : Nat} {R F Rc Fc f25 f27 f33 f34 f40 f45 : Nat → Int32} {i7 i8 i9 i10 i11 i12 i30 i32 i36 i37 i39 i42 i43 : Int32} {n44 : Nat} (hI : FI n s g R F) (hR : same Rc R) (hF : same Fc F) (h10 : i10.toInt = n) (h11 : i11.toInt = s) (h12 : i12.toInt = g) (h39 : 0 ≤ i39.toInt ∧ i39.toInt ≤ 10) (hC : CT n44 i43 f45) : Ok (fX6_digest i7 i8 i9 i10 i11 i12 Rc Fc f25 f27 i30 i32 f33 f34 i36 i37 i39 f40 i42 i43 n44 f45) (fun z => z.1 = dgD n s g R F i7 i8 i9) := by
  have n9 := hI.1
  have se := hI.2.1
  unfold fX6_digest
  refine cdg_told hI hR h10 h11 h12 (cdg_places hI hR hF h10 h11 (fun i152 f153 => ?_))
  refine Ok_bind (cvalueNow_iv hI hF h10 h11) (fun z154 h154 => Ok_nm (fun l155 w155 => ?_))
  refine Ok_x0r (xmost_iv hI hR h10 h11 h12 ⟨by decide, by decide⟩) (fun z156 h156 => Ok_nm (fun l157 w157 => ?_))
  refine Ok_bind (ccount_iv hI hR h10 h11 h12) (fun z158 h158 => Ok_nm (fun l159 w159 => ?_))
  refine Ok_bind (cend_iv hI hR h10 h11 h12) (fun z160 h160 => Ok_nm (fun l161 w161 => ?_))
  refine Ok_bind (cend_iv hI hR h10 h11 h12) (fun z162 h162 => Ok_nm (fun l163 w163 => ?_))
  refine Ok_bind (cparts_iv hI hR hF h10 h11 h12 h39 (Or.inl rfl)) (fun z164 h164 => Ok_nm (fun l165 w165 => ?_))
  refine Ok_bind (cparts_iv hI hR hF h10 h11 h12 h164.2 (Or.inr rfl)) (fun z166 h166 => Ok_nm (fun l167 w167 => ?_))
  refine Ok_bind (cwrite_iv hI hF h10 h11 h12 h166.2 hC) (fun z168 h168 => Ok_bind (len_iv _) (fun z170 h170 => Ok_nm (fun l171 w171 => ?_)))
  refine Ok_x0r (xapart_iv hI hR (ones_of R) h10 h11 h12) (fun z172 h172 => Ok_nm (fun l173 w173 => cdg_house ?_))
  refine Ok_bind (cisSound_iv hI hR hF h10 h11 h12 h168.1) (fun z241 h241 => ?_)
  refine Ok_if (fun e => absurd (h241.1.symm.trans e) (by decide)) (fun _ => Ok_some ?_)
  obtain ⟨⟨p1, p2, p3⟩, -⟩ := h164
  obtain ⟨⟨r1, r2, r3⟩, -⟩ := h166
  have p4 := prL_eq n9.2 se.1 p2
  have r4 := prL_eq n9.2 se.1 r2
  subst p4 r4
  have e1 : l173 = dgC n s g R F := by
    rw [w173, st_of h172, w171, h170, st_of h168.2, w167, st_of r3, w165, st_of p3, w163, h162, st_x, w161, h160, st_x, w159, st_of h158, w157, st_of h156, w155, st_of h154]
    rfl
  show _ * 31 + (1 : Int32).toInt64 = _
  rw [e1, st_of (x := 1) (v := 1) rfl]
  rfl
theorem cdigest_iv {n s g : Nat} {R F Rc Fc f25 f27 f33 f34 f40 f45 : Nat → Int32} {i7 i8 i9 i10 i11 i12 i30 i32 i36 i37 i39 i42 i43 : Int32} {n44 : Nat} (hI : FI n s g R F) (hR : same Rc R) (hF : same Fc F) (h10 : i10.toInt = n) (h11 : i11.toInt = s) (h12 : i12.toInt = g) (h30 : 0 ≤ i30.toInt ∧ i30.toInt ≤ 9) (h32 : 0 ≤ i32.toInt ∧ i32.toInt ≤ 10) (h39 : 0 ≤ i39.toInt ∧ i39.toInt ≤ 10) (hC : CT n44 i43 f45) : Ok (fX6_digest i7 i8 i9 i10 i11 i12 Rc Fc f25 f27 i30 i32 f33 f34 i36 i37 i39 f40 i42 i43 n44 f45) (fun z => z.1 = dgD n s g R F i7 i8 i9 ∧ (0 ≤ z.2.2.2.1.toInt ∧ z.2.2.2.1.toInt ≤ 9) ∧ (0 ≤ z.2.2.2.2.1.toInt ∧ z.2.2.2.2.1.toInt ≤ 10) ∧ (0 ≤ z.2.2.2.2.2.2.2.2.2.1.toInt ∧ z.2.2.2.2.2.2.2.2.2.1.toInt ≤ 10) ∧ CT z.2.2.2.2.2.2.2.2.2.2.2.2.2.1 z.2.2.2.2.2.2.2.2.2.2.2.2.1 z.2.2.2.2.2.2.2.2.2.2.2.2.2.2) := by
  have n9 := hI.1
  exact Ok_and (cdigest0 hI hR hF h10 h11 h12 h39 hC) (ok_X6_digest i7 i8 i9 i10 i11 i12 Rc Fc f25 f27 i30 i32 f33 f34 i36 i37 i39 f40 i42 i43 n44 f45 (by omega) h30 h32 h39 hC)
