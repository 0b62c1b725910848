/-! PARTS COUNTED AND WRITTEN, by the reference -/
theorem nxt_same {n a y : Nat} {F F' : Nat → Int32} (h : same F F') (hn : n ≤ 9) (ha : a < n) (hx : nxt n F a y) : nxt n F' a y := by
  obtain ⟨h1, h2, h3⟩ := hx
  refine ⟨h1, by rw [← h a y (by omega) (by omega)]; exact h2, fun x hxy => by rw [← h a x (by omega) (by omega)]; exact h3 x hxy⟩
theorem frm_same {n s x : Nat} {F F' : Nat → Int32} (h : same F F') (hn : n ≤ 9) (hs : s < n) (hx : frm n s F x) : frm n s F' x := by
  unfold frm at *
  rw [← outF_same h hn hs]
  rcases hx with hx | ⟨h1, h2, ⟨y, y1, y2⟩, h4⟩
  · exact Or.inl hx
  · exact Or.inr ⟨h1, h2, ⟨y, y1, by rw [← h x y (by omega) (by omega)]; exact y2⟩, fun a b ha hb => by rw [← h a b (by omega) (by omega)]; exact h4 a b ha hb⟩
theorem mnL_congr {v v' : Nat → Nat → Int} {t : Nat → Nat} : ∀ K, (∀ i, i < K → v (t i) (t (i + 1)) = v' (t i) (t (i + 1))) → mnL v t K = mnL v' t K
  | 0, _ => rfl
  | K + 1, h => by
    unfold mnL
    rw [mnL_congr K (fun i hi => h i (by omega)), h K (by omega)]
theorem PRT.lt0 {n s g M b : Nat} {F : Nat → Int32} {w : Nat → Nat} {way m : Int} (h : PRT n s g F w M b way m) (hs : s < n) : ∀ i, i ≤ M → w i < n := by
  intro i hi
  rcases Nat.eq_zero_or_pos i with e | e
  · subst e
    rcases h.1 with ⟨-, q⟩ | ⟨-, q, -⟩
    · rw [q]; exact hs
    · exact q
  · have := (h.2.2.1 (i - 1) (by omega)).1
    rw [show i - 1 + 1 = i by omega] at this
    exact this
theorem PRT.ofsame {n s g M b : Nat} {F F' : Nat → Int32} {w : Nat → Nat} {way m : Int} (hP : PRT n s g F w M b way m) (h : same F F') (hn : n ≤ 9) (hs : s < n) : PRT n s g F' w M b way m := by
  have lt := hP.lt0 hs
  obtain ⟨h1, h2, h3, h4, h5, h6⟩ := hP
  have em : mnL (G F) (fun i => w (b + i)) (M - b) = mnL (G F') (fun i => w (b + i)) (M - b) := mnL_congr (M - b) (fun i hi => h _ _ (by have := lt (b + i) (by omega); show w (b + i) < 9; omega) (by have := lt (b + (i + 1)) (by omega); show w (b + (i + 1)) < 9; omega))
  rw [outF_same h hn hs] at h5 h6
  rw [em] at h6
  exact ⟨frm_same h hn hs h1, h2, fun i hi => nxt_same h hn (lt i (by omega)) (h3 i hi), h4, h5, h6⟩
theorem carried_same {F F' H : Nat → Int32} {t : Nat → Nat} {m : Int} {K : Nat} (h : same F F') (hc : carried F H t m K) : carried F' H t m K := fun x y hx hy => by rw [← h x y hx hy]; exact hc x y hx hy
theorem empt_same {n s : Nat} {F F' : Nat → Int32} (h : same F F') (hn : n ≤ 9) (hs : s < n) (he : empt n s F) : empt n s F' := ⟨by rw [← outF_same h hn hs]; exact he.1, fun a b ha hb => by rw [← h a b (by omega) (by omega)]; exact he.2 a b ha hb⟩
def ptv (kind way m : Int) : Int := if kind = 2 then way * m else if way = kind then 1 else 0
def cntP (kind : Int) : List (Int × Int × List Nat) → Int
  | [] => 0
  | q :: l => ptv kind q.1 q.2.1 + cntP kind l
theorem ptv_bd {kind way m : Int} (hw : way = 0 ∨ way = 1) (hm : 1 ≤ m ∧ m ≤ 50) : 0 ≤ ptv kind way m ∧ ptv kind way m ≤ 50 := by
  unfold ptv
  rcases hw with e | e <;> subst e <;> split
  · omega
  · split <;> omega
  · omega
  · split <;> omega
theorem PRT.way01 {n s g M b : Nat} {F : Nat → Int32} {w : Nat → Nat} {way m : Int} (h : PRT n s g F w M b way m) : way = 0 ∨ way = 1 := by
  rcases h.2.2.2.2.2 with q | q
  · exact Or.inr q.1
  · exact Or.inl q.1
theorem parts_loop {n s g : Nat} {R : Nat → Int32} {i3 i6 i7 i2 : Int32} (h3 : i3.toInt = n) (h6 : i6.toInt = s) (h7 : i7.toInt = g) : ∀ (c : Nat) (i44 : Int32) (f46 : Nat → Int32) (n47 : Nat) (f48 : Nat → Int32) (way m : Int), FI n s g R f46 → mu n s f46 < c → c ≤ 64 → (0 ≤ i44.toInt ∧ i44.toInt ≤ 50 * (64 - (c : Int))) → 2 ≤ n47 → (f48 0).toInt = way → (f48 1).toInt = m → (way = 0 ∨ way = 1) → (1 ≤ m ∧ m ≤ 50) → Ok (LX8_partsNow_L14 i3 i6 i7 i2 c i44 f46 n47 f48) (fun z => ∃ l, prts n s g l f46 ∧ z.toInt = i44.toInt + ptv i2.toInt way m + cntP i2.toInt l) := by
  intro c
  have t0 : (0 : Int32).toInt = 0 := rfl
  have t1 : (1 : Int32).toInt = 1 := rfl
  have t2 : (2 : Int32).toInt = 2 := rfl
  induction c with
  | zero => intro i44 f46 n47 f48 way m hI hmu; omega
  | succ c ih =>
    intro i44 f46 n47 f48 way m hI hmu hc h44 h47 h0 h1 hw hm
    show Ok (BX8_partsNow_L14 i3 i6 i7 i2 i44 f46 n47 f48 (fun a b d e => LX8_partsNow_L14 i3 i6 i7 i2 c a b d e)) _
    unfold BX8_partsNow_L14
    have pb := ptv_bd (kind := i2.toInt) hw hm
    refine Ok_jn (fun k49 w49 => ?_)
    have go : ∀ i51 : Int32, i51.toInt = ptv i2.toInt way m → Ok (k49 i51) (fun z => ∃ l, prts n s g l f46 ∧ z.toInt = i44.toInt + ptv i2.toInt way m + cntP i2.toInt l) := by
      intro i51 h51
      rw [w49]
      refine Ok_nm (fun i52 w52 => ?_)
      have e52 : i52.toInt = i44.toInt + ptv i2.toInt way m := by rw [w52, add_iv (by omega) (by omega), h51]
      clear w52
      refine Ok_bind (nextPart_iv h3 h6 h7 hI) (fun z hz => Ok_oc (fun e => ?_) (fun k f e => ?_))
      · rcases hz with ⟨e2, q⟩ | ⟨w, M, b, way2, m2, md, e2, -⟩
        · exact Ok_some ⟨[], q, by rw [e52]; exact (Int.add_zero _).symm⟩
        · rw [e] at e2; cases e2
      · rcases hz with ⟨e2, q⟩ | ⟨w, M, b, way2, m2, md, e2, hP, hcar, d0, d1, -⟩
        · rw [e2] at e; cases e
        · rw [e] at e2
          cases e2
          have am := hP.amount hI
          have ls := hP.less hI hcar
          refine Ok_mono (ih i52 z.1 _ f way2 m2 (hP.keeps hI hcar).1 (by omega) (by omega) ⟨by omega, by omega⟩ (by omega) d0 d1 hP.way01 ⟨am.1, am.2.1⟩) (fun y hy => ?_)
          obtain ⟨l, l1, l2⟩ := hy
          refine ⟨(way2, m2, (List.range (M - b + 1)).map (fun i => w (b + i))) :: l, ⟨z.1, w, M, b, hP, rfl, hcar, l1⟩, ?_⟩
          show y.toInt = i44.toInt + ptv i2.toInt way m + (ptv i2.toInt way2 m2 + cntP i2.toInt l)
          omega
    have in0 : vp_in (0 : Int32) n47 := vp_of (by omega) (by omega)
    have in1 : vp_in (1 : Int32) n47 := vp_of (by omega) (by omega)
    refine Ok_if (fun e => Ok_inB in0 (Ok_inB in1 (go _ ?_))) (fun e => Ok_inB in0 (Ok_if (fun q => go 1 ?_) (fun q => go 0 ?_)))
    · have e := i32eq e
      show (f48 0 * f48 1).toInt = _
      unfold ptv
      rw [if_pos (show i2.toInt = 2 by omega), Int32.toInt_mul, h0, h1]
      rcases hw with q | q <;> subst q <;> exact bmod32 (by omega) (by omega)
    · have q : f48 0 = i2 := q
      have q := i32eq q
      unfold ptv
      rw [if_neg (fun z => e (Int32.toInt_inj.mp (by omega))), if_pos (by omega)]; rfl
    · have q : ¬ f48 0 = i2 := q
      unfold ptv
      rw [if_neg (fun z => e (Int32.toInt_inj.mp (by omega))), if_neg (fun z => q (Int32.toInt_inj.mp (by omega)))]; rfl
theorem partsNow_iv {n s g : Nat} {R F : Nat → Int32} {i3 i6 i7 i2 : Int32} (hI : FI n s g R F) (h3 : i3.toInt = n) (h6 : i6.toInt = s) (h7 : i7.toInt = g) : Ok (fX8_partsNow i3 i6 i7 F i2) (fun z => ∃ l, prts n s g l F ∧ z.toInt = cntP i2.toInt l) := by
  unfold fX8_partsNow
  have n9 := hI.1
  have t0 : (0 : Int32).toInt = 0 := rfl
  refine Ok_bind (flowRow_iv F) (fun z13 h13 => ?_)
  have I2 : FI n s g R z13 := hI.ofsame (fun _ _ _ _ => rfl) h13
  refine Ok_bind (nextPart_iv h3 h6 h7 I2) (fun z hz => Ok_oc (fun e => ?_) (fun k f e => ?_))
  · rcases hz with ⟨e2, q⟩ | ⟨w, M, b, way2, m2, md, e2, -⟩
    · exact Ok_some ⟨[], empt_same h13 n9.2 hI.2.1.1 q, rfl⟩
    · rw [e] at e2; cases e2
  · rcases hz with ⟨e2, q⟩ | ⟨w, M, b, way2, m2, md, e2, hP, hcar, d0, d1, -⟩
    · rw [e2] at e; cases e
    · rw [e] at e2
      cases e2
      have am := hP.amount I2
      have ls := hP.less I2 hcar
      have mb := mu_bd n s z13
      refine Ok_mono (parts_loop h3 h6 h7 64 0 z.1 _ f way2 m2 (hP.keeps I2 hcar).1 (by omega) (by omega) ⟨by omega, by omega⟩ (by omega) d0 d1 hP.way01 ⟨am.1, am.2.1⟩) (fun y hy => ?_)
      obtain ⟨l, l1, l2⟩ := hy
      refine ⟨(way2, m2, (List.range (M - b + 1)).map (fun i => w (b + i))) :: l, ⟨z.1, w, M, b, hP.ofsame h13 n9.2 hI.2.1.1, rfl, carried_same h13 hcar, l1⟩, ?_⟩
      show y.toInt = ptv i2.toInt way2 m2 + cntP i2.toInt l
      omega
/-! texts of the reference -/
def RS (n : Nat) (c : Int32) (f : Nat → Int32) (m : Int) : Prop := TS n c f m ∧ (n : Int) ≤ 16 + 2 * m
theorem RS.le {n : Nat} {c : Int32} {f : Nat → Int32} {m m' : Int} (h : RS n c f m) (hm : m ≤ m') : RS n c f m' := ⟨h.1.le hm, by have := h.2; omega⟩
theorem rs0 : RS 16 0 (fun _ => 0) 0 := ⟨⟨⟨by omega, by decide⟩, ⟨by decide, by decide⟩, BY_0⟩, by omega⟩
theorem rsK {k n : Nat} {c : Int32} {f : Nat → Int32} {m : Int} (h : RS n c f m) (hm : m ≤ 1150) (hk : strL.getD k 0 ≤ 1) : (n ≤ capE n (c + szK k) ∧ capE n (c + szK k) ≤ 2400) ∧ Ok (fJ4_append_15ec4 k c n f (capE n (c + szK k))) (fun z => RS (capE n (c + szK k)) z.1 z.2 (m + 1)) := by
  obtain ⟨⟨⟨⟨h1, h2⟩, hcn⟩, ⟨h3, h4⟩, h5⟩, h6⟩ := h
  have eL := ofNat_iv (n := strL.getD k 0) (by omega)
  have e : (c + szK k).toInt = c.toInt + strL.getD k 0 := by unfold szK; rw [add_iv (by omega) (by omega), eL]
  obtain ⟨k1, k2, k3, k4, k5, k6⟩ := capE_ok (m := c + szK k) h1 h2 (by omega) (by omega)
  have kb : (capE n (c + szK k) : Int) ≤ 16 + 2 * (m + 1) := by
    by_cases q : c + szK k - Int32.ofNat n ≤ 0
    · have := (k5 q).1; omega
    · have := k4 q; have := k6 q; omega
  refine ⟨⟨k1, by omega⟩, Ok_mono (ok_appK h1 h2 h3 (by omega) h5 rfl) (fun z hz => ?_)⟩
  have z1 := hz.1
  exact ⟨⟨⟨⟨by omega, k2⟩, by omega⟩, ⟨by omega, by omega⟩, hz.2⟩, kb⟩
theorem rsI {n d : Nat} {c x : Int32} {f : Nat → Int32} {m : Int} (h : RS n c f m) (hm : m ≤ 1150) (hx : sI x ≤ d) (hd : d ≤ 2) : (n ≤ capE n (c + szI x) ∧ capE n (c + szI x) ≤ 2400) ∧ Ok (fJ4_append_bf812 c n f x (capE n (c + szI x))) (fun z => RS (capE n (c + szI x)) z.1 z.2 (m + d)) := by
  obtain ⟨⟨⟨⟨h1, h2⟩, hcn⟩, ⟨h3, h4⟩, h5⟩, h6⟩ := id h
  obtain ⟨hz1, hz2⟩ := szI_iv x
  have hs := sI_le x
  have e : (c + szI x).toInt = c.toInt + sI x := by rw [add_iv (by omega) (by omega), hz1]
  obtain ⟨k1, k2, k3, k4, k5, k6⟩ := capE_ok (m := c + szI x) h1 h2 (by omega) (by omega)
  have kb : (capE n (c + szI x) : Int) ≤ 16 + 2 * (m + d) := by
    by_cases q : c + szI x - Int32.ofNat n ≤ 0
    · have := (k5 q).1; omega
    · have := k4 q; have := k6 q; omega
  refine ⟨⟨k1, by omega⟩, Ok_mono (tsI x h.1 (by omega)).2 (fun z hz => ?_)⟩
  obtain ⟨z1, ⟨z2, z3⟩, ⟨z4, z5⟩, z6⟩ := hz
  have e1 : z.1.toInt = c.toInt + sI x := by rw [z1, e]
  exact ⟨⟨⟨z2, z3⟩, ⟨z4, by omega⟩, z6⟩, kb⟩
theorem dg1 {x : Int32} (h : 0 ≤ x.toInt ∧ x.toInt < 10) : sI x ≤ 1 := by
  unfold sI dg
  rw [if_pos (by omega), if_neg (by omega)]
  exact Nat.le_refl _
theorem dg2 {x : Int32} (h : 0 ≤ x.toInt ∧ x.toInt < 100) : sI x ≤ 2 := by
  unfold sI dg
  by_cases q : x.toInt.natAbs < 10
  · rw [if_pos q, if_neg (by omega)]; omega
  · rw [if_neg q, if_pos (by omega), if_neg (by omega)]
    exact Nat.le_refl _
theorem len_iv (c : Int32) : Ok (fJ4_length_8abf5 c) (fun z => z = c) := by unfold fJ4_length_8abf5 fJ5_length_8abf5; exact ⟨c, rfl, rfl⟩
theorem ini_iv : Ok fJ4_init_da8c8 (fun _ => True) := by
  unfold fJ4_init_da8c8 fJ5_init_d00df
  have t16 : (16 : Int32).toInt = 16 := rfl
  exact Ok_bind (R := fun _ => True) (Ok_if (fun h => absurd h (by decide)) (fun _ => Ok_nN (by omega) (by omega) (Ok_some trivial))) (fun _ _ => Ok_some trivial)
theorem k3 : strL.getD 3 0 ≤ 1 := by decide
theorem k4 : strL.getD 4 0 ≤ 1 := by decide
theorem k5 : strL.getD 5 0 ≤ 1 := by decide
theorem k6 : strL.getD 6 0 ≤ 1 := by decide
theorem rrow_loop {n a : Nat} {F : Nat → Int32} {i4 i3 : Int32} (h4 : i4.toInt = n) (hn : n ≤ 9) (h3 : i3.toInt = a) (ha : a < 9) (hF : ∀ b, b < 9 → G F a b ≤ 50) {P : Nat × (Nat → Int32) → Prop} {k1 : Int32 → Nat → (Nat → Int32) → Option (Nat × (Nat → Int32))} (hk : ∀ c m f, RS m c f 60 → Ok (k1 c m f) P) : ∀ (r fu : Nat) (i c : Int32) (m : Nat) (f : Nat → Int32) (k : Nat), k + r = n → r < fu → i.toInt = k → RS m c f (6 * (k : Int)) → Ok (LX8_rowText_L11 i4 F i3 fu i c m f k1) P := by
  intro r
  have t0 : (0 : Int32).toInt = 0 := rfl
  induction r with
  | zero =>
    intro fu i c m f k hk2 hfu hi hT
    cases fu with
    | zero => omega
    | succ fu =>
      show Ok (BX8_rowText_L11 i4 F i3 i c m f (fun a b d e => LX8_rowText_L11 i4 F i3 fu a b d e k1) k1) P
      unfold BX8_rowText_L11
      refine Ok_if (fun _ => hk _ _ _ (hT.le (by omega))) (fun h => ?_)
      have h := i32nle h
      omega
  | succ r ih =>
    intro fu i c m f k hk2 hfu hi hT
    cases fu with
    | zero => omega
    | succ fu =>
      show Ok (BX8_rowText_L11 i4 F i3 i c m f (fun a b d e => LX8_rowText_L11 i4 F i3 fu a b d e k1) k1) P
      unfold BX8_rowText_L11
      have ei := inc_iv (x := i) (by omega)
      refine Ok_if (fun h => ?_) (fun _ => ?_)
      · have h := i32le h
        omega
      · obtain ⟨g1, g2⟩ := G_idx h3 hi ha (show k < 9 by omega)
        rw [g2]
        have bF := hF k (by omega)
        have eF : (F (a * 9 + k)).toInt = G F a k := rfl
        refine Ok_inB g1 (Ok_jn (fun k57 w57 => ?_))
        have next : ∀ c m f, RS m c f (6 * (k : Int) + 6) → Ok (k57 c m f) P := by
          intro c m f hT2
          rw [w57]
          exact ih fu (i + 1) c m f (k + 1) (by omega) (by omega) (by omega) (hT2.le (by omega))
        clear w57
        refine Ok_if (fun _ => next _ _ _ (hT.le (by omega))) (fun h => ?_)
        have h := i32nle h
        refine Ok_bind (len_iv c) (fun z59 _ => Ok_jn (fun k60 w60 => ?_))
        have sep : ∀ q : Nat, strL.getD q 0 ≤ 1 → q < 7 → Ok (k60 q) P := by
          intro q hq hq7
          rw [w60]
          obtain ⟨a1, a2⟩ := rsK hT (by omega) hq
          refine Ok_gd ⟨a1.1, a1.2, hq7⟩ (Ok_bind a2 (fun z63 h63 => ?_))
          obtain ⟨b1, b2⟩ := rsI (x := i) (d := 1) h63 (by omega) (dg1 (by omega)) (by omega)
          refine Ok_gd b1 (Ok_bind b2 (fun z65 h65 => ?_))
          obtain ⟨c1, c2⟩ := rsK h65 (by omega) k5
          refine Ok_gd c1 (Ok_bind c2 (fun z67 h67 => Ok_inB g1 ?_))
          obtain ⟨d1, d2⟩ := rsI (x := F (a * 9 + k)) (d := 2) h67 (by omega) (dg2 (by omega)) (by omega)
          refine Ok_gd d1 (Ok_bind d2 (fun z69 h69 => ?_))
          exact next _ _ _ (h69.le (by omega))
        exact Ok_if (fun _ => sep 3 k3 (by omega)) (fun _ => sep 4 k4 (by omega))
theorem rowText_iv {n a : Nat} {F : Nat → Int32} {i4 i3 : Int32} (h4 : i4.toInt = n) (hn : n ≤ 9) (h3 : i3.toInt = a) (ha : a < 9) (hF : ∀ b, b < 9 → G F a b ≤ 50) : Ok (fX8_rowText i4 F i3) (fun _ => True) := by
  unfold fX8_rowText
  refine Ok_bind ini_iv (fun _ _ => ?_)
  refine rrow_loop h4 hn h3 ha hF (fun c m f hT => ?_) n 600 0 0 16 _ 0 (by omega) (by omega) rfl rs0
  exact Ok_bind (tsStr hT.1 (by omega)) (fun _ _ => Ok_some trivial)
theorem roomText_iv {n s g : Nat} {R F : Nat → Int32} {i3 i2 : Int32} (hI : FI n s g R F) (h3 : i3.toInt = n) : Ok (fX8_roomText i3 R i2) (fun _ => True) := by
  unfold fX8_roomText
  have n9 := hI.1
  refine fl_of (pl_iv h3) (fun i hi => thrown1 hi (fun q => ⟨_, rfl, trivial⟩) (fun q => Ok_if (fun _ => ?_) (fun h => absurd rfl h)))
  obtain ⟨e2, l2⟩ := q.eq
  exact Ok_bind (rowText_iv h3 n9.2 e2 (by omega) (fun b hb => by have := (hI.2.2.1 (tn i2) b (by omega) hb).1; omega)) (fun _ _ => Ok_some trivial)
theorem flowText_iv {n s g : Nat} {R F : Nat → Int32} {i3 i2 : Int32} (hI : FI n s g R F) (h3 : i3.toInt = n) : Ok (fX8_flowText i3 F i2) (fun _ => True) := by
  unfold fX8_flowText
  have n9 := hI.1
  refine fl_of (pl_iv h3) (fun i hi => thrown1 hi (fun q => ⟨_, rfl, trivial⟩) (fun q => Ok_if (fun _ => ?_) (fun h => absurd rfl h)))
  obtain ⟨e2, l2⟩ := q.eq
  exact Ok_bind (rowText_iv h3 n9.2 e2 (by omega) (fun b hb => by have := (hI.flow (a := tn i2) (b := b) (by omega) hb).1; omega)) (fun _ _ => Ok_some trivial)
theorem rtrack_loop {K : Nat} {f21 : Nat → Int32} (hK : K ≤ 8) (hf : ∀ i, i ≤ K → 0 ≤ (f21 i).toInt ∧ (f21 i).toInt < 10) {P : Int32 → Prop} {k1 : Int32 → Nat → (Nat → Int32) → Option Int32} (hk : ∀ c m f, RS m c f 60 → Ok (k1 c m f) P) : ∀ (r fu : Nat) (i c : Int32) (m : Nat) (f : Nat → Int32) (k : Nat), k + r = K + 1 → r < fu → i.toInt = k → RS m c f (2 * (k : Int)) → Ok (LX8_track_L39 (K + 1) f21 fu i c m f k1) P := by
  intro r
  have en := ofNat_iv (n := K + 1) (by omega)
  induction r with
  | zero =>
    intro fu i c m f k hk2 hfu hi hT
    cases fu with
    | zero => omega
    | succ fu =>
      show Ok (BX8_track_L39 (K + 1) f21 i c m f (fun a b d e => LX8_track_L39 (K + 1) f21 fu a b d e k1) k1) P
      unfold BX8_track_L39
      refine Ok_if (fun _ => hk _ _ _ (hT.le (by omega))) (fun h => ?_)
      have h := i32nle h
      omega
  | succ r ih =>
    intro fu i c m f k hk2 hfu hi hT
    cases fu with
    | zero => omega
    | succ fu =>
      show Ok (BX8_track_L39 (K + 1) f21 i c m f (fun a b d e => LX8_track_L39 (K + 1) f21 fu a b d e k1) k1) P
      unfold BX8_track_L39
      have ei := inc_iv (x := i) (by omega)
      refine Ok_if (fun h => ?_) (fun _ => Ok_jn (fun k65 w65 => ?_))
      · have h := i32le h
        omega
      · rw [toNat_iv hi] at w65
        have sep : ∀ q : Nat, strL.getD q 0 ≤ 1 → q < 7 → Ok (k65 q) P := by
          intro q hq hq7
          rw [w65]
          obtain ⟨a1, a2⟩ := rsK hT (by omega) hq
          refine Ok_gd ⟨a1.1, a1.2, hq7⟩ (Ok_bind a2 (fun z68 h68 => Ok_inB (vp_of (by omega) (by omega)) ?_))
          obtain ⟨b1, b2⟩ := rsI (x := f21 k) (d := 1) h68 (by omega) (dg1 (hf k (by omega))) (by omega)
          refine Ok_gd b1 (Ok_bind b2 (fun z70 h70 => ?_))
          exact ih fu (i + 1) _ _ _ (k + 1) (by omega) (by omega) (by omega) (h70.le (by omega))
        exact Ok_if (fun _ => sep 3 k3 (by omega)) (fun _ => sep 6 k6 (by omega))
theorem track_iv {n s g : Nat} {R F : Nat → Int32} {i3 i6 i7 i8 i9 i10 i2 : Int32} (hI : FI n s g R F) (h3 : i3.toInt = n) (h6 : i6.toInt = s) (h7 : i7.toInt = g) : Ok (fX8_track i3 i6 i7 i8 i9 i10 R F i2) (fun _ => True) := by
  unfold fX8_track
  have n9 := hI.1
  refine fl_of rl_iv (fun i hi => thrown1 hi (fun q => ⟨_, rfl, trivial⟩) (fun q => Ok_if (fun _ => ?_) (fun h => absurd rfl h)))
  refine Ok_bind (trackBy_iv h3 h6 h7 n9 hI.2.1.1 hI.2.1.2.1 hI.2.1.2.2 hI.smR hI.smF q) (fun z hz => Ok_oc (fun e => ?_) (fun k f e => ?_))
  · exact Ok_bind ini_iv (fun _ _ => Ok_bind (tsStr rs0.1 (by omega)) (fun _ _ => Ok_some trivial))
  · rcases hz with hz | ⟨f2, t, K, e2, hT, hf⟩
    · rw [e] at hz; cases hz.1
    · rw [e] at e2
      cases e2
      have hT0 := hT.1
      refine Ok_bind ini_iv (fun _ _ => ?_)
      refine rtrack_loop (K := K) (by omega) (fun i hi => by have := hT.2.1 i hi; have := hf i hi; omega) (fun c m f hT => ?_) (K + 1) 600 0 0 16 _ 0 (by omega) (by omega) rfl rs0
      exact Ok_bind (tsStr hT.1 (by omega)) (fun _ _ => Ok_some trivial)
theorem rpart_L26 {N : Nat} {f105 : Nat → Int32} {M0 : Int} (hN : 2 ≤ N ∧ N ≤ 14) (hM : M0 ≤ 1000) (hf : ∀ i, 2 ≤ i → i < N → 0 ≤ (f105 i).toInt ∧ (f105 i).toInt < 10) {P : Nat × (Nat → Int32) → Prop} {k1 : Int32 → Nat → (Nat → Int32) → Option (Nat × (Nat → Int32))} (hk : ∀ c m f, RS m c f (M0 + 2 * ((N : Int) - 2)) → Ok (k1 c m f) P) : ∀ (r fu : Nat) (i c : Int32) (m : Nat) (f : Nat → Int32) (k : Nat), k + r = N → r < fu → 2 ≤ k → i.toInt = k → RS m c f (M0 + 2 * ((k : Int) - 2)) → Ok (LX8_partsNowText_L26 N f105 fu i c m f k1) P := by
  intro r
  have en := ofNat_iv (n := N) (by omega)
  induction r with
  | zero =>
    intro fu i c m f k hk2 hfu h2 hi hT
    cases fu with
    | zero => omega
    | succ fu =>
      show Ok (BX8_partsNowText_L26 N f105 i c m f (fun a b d e => LX8_partsNowText_L26 N f105 fu a b d e k1) k1) P
      unfold BX8_partsNowText_L26
      refine Ok_if (fun _ => hk _ _ _ (hT.le (by omega))) (fun h => ?_)
      have h := i32nle h
      omega
  | succ r ih =>
    intro fu i c m f k hk2 hfu h2 hi hT
    cases fu with
    | zero => omega
    | succ fu =>
      show Ok (BX8_partsNowText_L26 N f105 i c m f (fun a b d e => LX8_partsNowText_L26 N f105 fu a b d e k1) k1) P
      unfold BX8_partsNowText_L26
      have ei := inc_iv (x := i) (by omega)
      refine Ok_if (fun h => ?_) (fun _ => Ok_jn (fun k65 w65 => ?_))
      · have h := i32le h
        omega
      · rw [toNat_iv hi] at w65
        have sep : ∀ q : Nat, strL.getD q 0 ≤ 1 → q < 7 → Ok (k65 q) P := by
          intro q hq hq7
          rw [w65]
          obtain ⟨a1, a2⟩ := rsK hT (by omega) hq
          refine Ok_gd ⟨a1.1, a1.2, hq7⟩ (Ok_bind a2 (fun z68 h68 => Ok_inB (vp_of (by omega) (by omega)) ?_))
          obtain ⟨b1, b2⟩ := rsI (x := f105 k) (d := 1) h68 (by omega) (dg1 (hf k h2 (by omega))) (by omega)
          refine Ok_gd b1 (Ok_bind b2 (fun z70 h70 => ?_))
          exact ih fu (i + 1) _ _ _ (k + 1) (by omega) (by omega) (by omega) (by omega) (h70.le (by omega))
        refine Ok_if (fun _ => Ok_bind (len_iv c) (fun z _ => Ok_if (fun _ => sep 3 k3 (by omega)) (fun _ => sep 4 k4 (by omega)))) (fun _ => sep 6 k6 (by omega))
theorem rpart_loop {n s g : Nat} {R : Nat → Int32} {i2 i5 i6 : Int32} (h2 : i2.toInt = n) (h5 : i5.toInt = s) (h6 : i6.toInt = g) {P : Nat × (Nat → Int32) → Prop} {k1 : Int32 → Nat → (Nat → Int32) → Option (Nat × (Nat → Int32))} (hk : ∀ c m f, RS m c f 1150 → Ok (k1 c m f) P) : ∀ (fu : Nat) (f99 : Nat → Int32) (c : Int32) (m : Nat) (f : Nat → Int32) (N : Nat) (f105 : Nat → Int32), FI n s g R f99 → mu n s f99 < fu → fu ≤ 64 → (3 ≤ N ∧ N ≤ 12) → (∀ i, 2 ≤ i → i < N → 0 ≤ (f105 i).toInt ∧ (f105 i).toInt < 10) → (0 ≤ (f105 1).toInt ∧ (f105 1).toInt < 100) → RS m c f (23 * (36 - (mu n s f99 : Int))) → Ok (LX8_partsNowText_L19 i2 i5 i6 fu f99 c m f N f105 k1) P := by
  intro fu
  have t1 : (1 : Int32).toInt = 1 := rfl
  induction fu with
  | zero => intro f99 c m f N f105 hI hmu; omega
  | succ fu ih =>
    intro f99 c m f N f105 hI hmu hfu hN hf h1 hT
    show Ok (BX8_partsNowText_L19 i2 i5 i6 f99 c m f N f105 (fun a b d e p q => LX8_partsNowText_L19 i2 i5 i6 fu a b d e p q k1) k1) P
    unfold BX8_partsNowText_L19
    have hT0 := hT.1.2.1
    refine rpart_L26 (M0 := 23 * (36 - (mu n s f99 : Int))) ⟨by omega, by omega⟩ (by omega) hf (fun c m f hT => ?_) (N - 2) 64 2 c m f 2 (by omega) (by omega) (by omega) rfl (hT.le (by omega))
    obtain ⟨a1, a2⟩ := rsK hT (by omega) k5
    refine Ok_gd a1 (Ok_bind a2 (fun z153 h153 => Ok_inB (vp_of (by omega) (by omega)) ?_))
    obtain ⟨b1, b2⟩ := rsI (x := f105 1) (d := 2) h153 (by omega) (dg2 h1) (by omega)
    refine Ok_gd b1 (Ok_bind b2 (fun z155 h155 => ?_))
    refine Ok_bind (nextPart_iv h2 h5 h6 hI) (fun z hz => Ok_oc (fun e => ?_) (fun k f e => ?_))
    · exact hk _ _ _ (h155.le (by omega))
    · rcases hz with ⟨e2, q⟩ | ⟨w, M, b, way2, m2, md, e2, hP, hcar, d0, d1, d2⟩
      · rw [e2] at e; cases e
      · rw [e] at e2
        cases e2
        have am := hP.amount hI
        have ls := hP.less hI hcar
        have lt := hP.lt hI
        have hM := hP.2.1
        have n9 := hI.1
        refine ih z.1 _ _ _ _ f (hP.keeps hI hcar).1 (by omega) (by omega) ⟨by omega, by omega⟩ (fun i i1 i2 => ?_) (by omega) (h155.le (by omega))
        have := d2 (i - 2) (by omega)
        rw [show i - 2 + 2 = i by omega] at this
        have := lt (b + (i - 2)) (by omega)
        omega
theorem partsNowText_iv {n s g : Nat} {R F : Nat → Int32} {i2 i5 i6 : Int32} (hI : FI n s g R F) (h2 : i2.toInt = n) (h5 : i5.toInt = s) (h6 : i6.toInt = g) : Ok (fX8_partsNowText i2 i5 i6 F) (fun _ => True) := by
  unfold fX8_partsNowText
  refine Ok_bind (flowRow_iv F) (fun z13 h13 => Ok_bind ini_iv (fun _ _ => ?_))
  have I2 : FI n s g R z13 := hI.ofsame (fun _ _ _ _ => rfl) h13
  refine Ok_bind (nextPart_iv h2 h5 h6 I2) (fun z hz => Ok_oc (fun e => ?_) (fun k f e => ?_))
  · exact Ok_bind (tsStr rs0.1 (by omega)) (fun _ _ => Ok_some trivial)
  · rcases hz with ⟨e2, q⟩ | ⟨w, M, b, way2, m2, md, e2, hP, hcar, d0, d1, d2⟩
    · rw [e2] at e; cases e
    · rw [e] at e2
      cases e2
      have am := hP.amount I2
      have ls := hP.less I2 hcar
      have lt := hP.lt I2
      have hM := hP.2.1
      have n9 := hI.1
      have mb := mu_bd n s z13
      refine rpart_loop h2 h5 h6 (fun c m f hT => Ok_bind (tsStr hT.1 (by omega)) (fun _ _ => Ok_some trivial)) 64 z.1 0 16 _ _ f (hP.keeps I2 hcar).1 (by omega) (by omega) ⟨by omega, by omega⟩ (fun i i1 i2 => ?_) (by omega) (rs0.le (by omega))
      have := d2 (i - 2) (by omega)
      rw [show i - 2 + 2 = i by omega] at this
      have := lt (b + (i - 2)) (by omega)
      omega
/-! as the program that makes the coarse lemmas wants them -/
def PFx (i3 i6 i7 : Int32) (F : Nat → Int32) : Prop := ∃ (n s g : Nat) (R : Nat → Int32), i3.toInt = n ∧ i6.toInt = s ∧ i7.toInt = g ∧ FI n s g R F
theorem ok_X8_partsNow (i3 i6 i7 : Int32) (f12 : Nat → Int32) (i2 : Int32) (h0 : 2 ≤ i3.toInt ∧ i3.toInt ≤ 9) (h1 : 0 ≤ i6.toInt ∧ i6.toInt ≤ 8) (h2 : 0 ≤ i7.toInt ∧ i7.toInt ≤ 8) (h3 : PFx i3 i6 i7 f12) : Ok (fX8_partsNow i3 i6 i7 f12 i2) (fun z => True) := by
  obtain ⟨n, s, g, R, a, b, c, d⟩ := h3
  exact Ok_mono (partsNow_iv d a b c) (fun _ _ => trivial)
theorem ok_X8_partsNowText (i2 i5 i6 : Int32) (f11 : Nat → Int32) (h0 : 2 ≤ i2.toInt ∧ i2.toInt ≤ 9) (h1 : 0 ≤ i5.toInt ∧ i5.toInt ≤ 8) (h2 : 0 ≤ i6.toInt ∧ i6.toInt ≤ 8) (h3 : PFx i2 i5 i6 f11) : Ok (fX8_partsNowText i2 i5 i6 f11) (fun z => True) := by
  obtain ⟨n, s, g, R, a, b, c, d⟩ := h3
  exact partsNowText_iv d a b c
theorem ok_J0_lengthO (n5 : Nat) : Ok (fJ0_lengthO n5) (fun z => True) := by
  unfold fJ0_lengthO fJ0_coderO
  exact Ok_bind (R := fun _ => True) (Ok_if (fun h => absurd h (by decide)) (fun _ => Ok_bz (by decide) (Ok_some trivial))) (fun _ _ => Ok_some trivial)
