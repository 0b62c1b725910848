/-! TRACKS: pigeonholes, what is left of a pair, who comes to a place, the search by layers -/
theorem pig : ∀ (n m : Nat) (w : Nat → Nat), (∀ j, j < m → w j < n) → (∀ i j, i < m → j < m → w i = w j → i = j) → m ≤ n := by
  intro n
  induction n with
  | zero =>
    intro m w h1 h2
    rcases Nat.eq_zero_or_pos m with h | h
    · omega
    · have := h1 0 h; omega
  | succ n ih =>
    intro m w h1 h2
    by_cases hx : ∃ j, j < m ∧ w j = n
    · obtain ⟨j0, hj0, e0⟩ := hx
      have b1 : ∀ j, j < m - 1 → (if j = j0 then w (m - 1) else w j) < n := by
        intro j hj
        by_cases e : j = j0
        · rw [if_pos e]
          have a := h1 (m - 1) (by omega)
          have b : w (m - 1) ≠ n := fun q => by have := h2 (m - 1) j0 (by omega) hj0 (by rw [q, e0]); omega
          omega
        · rw [if_neg e]
          have a := h1 j (by omega)
          have b : w j ≠ n := fun q => e (h2 j j0 (by omega) hj0 (by rw [q, e0]))
          omega
      have b2 : ∀ i j, i < m - 1 → j < m - 1 → (if i = j0 then w (m - 1) else w i) = (if j = j0 then w (m - 1) else w j) → i = j := by
        intro i j hi hj e
        by_cases c1 : i = j0
        · by_cases c2 : j = j0
          · omega
          · rw [if_pos c1, if_neg c2] at e
            have := h2 _ _ (by omega) (by omega) e
            omega
        · by_cases c2 : j = j0
          · rw [if_neg c1, if_pos c2] at e
            have := h2 _ _ (by omega) (by omega) e
            omega
          · rw [if_neg c1, if_neg c2] at e
            exact h2 _ _ (by omega) (by omega) e
      have k := ih (m - 1) (fun j => if j = j0 then w (m - 1) else w j) b1 b2
      omega
    · exact Nat.le_succ_of_le (ih m w (fun j hj => by have a := h1 j hj; have b : w j ≠ n := fun q => hx ⟨j, hj, q⟩; omega) h2)
def upN (w : Nat → Nat) (m v : Nat) : Nat → Nat := fun j => if j = m then v else w j
theorem upN_eq (w : Nat → Nat) (m v : Nat) : upN w m v m = v := if_pos rfl
theorem upN_ne (w : Nat → Nat) {m j : Nat} (v : Nat) (h : j ≠ m) : upN w m v j = w j := if_neg h
theorem pig_miss {n m x : Nat} {w : Nat → Nat} (hx : x < n) (h1 : ∀ j, j < m → w j < n) (h2 : ∀ i j, i < m → j < m → w i = w j → i = j) (h3 : ∀ j, j < m → w j ≠ x) : m < n := by
  have b1 : ∀ j, j < m + 1 → upN w m x j < n := by
    intro j hj
    by_cases e : j = m
    · rw [e, upN_eq]; exact hx
    · rw [upN_ne w x e]; exact h1 j (by omega)
  have b2 : ∀ i j, i < m + 1 → j < m + 1 → upN w m x i = upN w m x j → i = j := by
    intro i j hi hj e
    by_cases c1 : i = m
    · by_cases c2 : j = m
      · omega
      · rw [c1, upN_eq, upN_ne w x c2] at e
        exact absurd e.symm (h3 j (by omega))
    · by_cases c2 : j = m
      · rw [c2, upN_eq, upN_ne w x c1] at e
        exact absurd e (h3 i (by omega))
      · rw [upN_ne w x c1, upN_ne w x c2] at e
        exact h2 i j (by omega) (by omega) e
  have := pig n (m + 1) (upN w m x) b1 b2
  omega
theorem G_idx {i j : Int32} {a b : Nat} (hi : i.toInt = a) (hj : j.toInt = b) (ha : a < 9) (hb : b < 9) : vp_in ((i * (9 : Int32)) + j) 81 ∧ ((i * (9 : Int32)) + j).toNatClampNeg = a * 9 + b := by
  have e := idx_iv (x := i) (y := j) (by omega) (by omega) (by omega) (by omega)
  obtain ⟨k, wk⟩ : ∃ k, k = (i * (9 : Int32)) + j := ⟨_, rfl⟩
  rw [← wk] at e ⊢
  clear wk
  have e2 : k.toInt = ((a * 9 + b : Nat) : Int) := by omega
  exact ⟨vp_of (by omega) (by omega), toNat_iv e2⟩
def lf (R F : Nat → Int32) (a b : Nat) : Int := G R a b - G F a b
def ed (R F : Nat → Int32) (a b : Nat) : Prop := 0 < lf R F a b
def sm (F : Nat → Int32) : Prop := ∀ a b, a < 9 → b < 9 → -1000 ≤ G F a b ∧ G F a b ≤ 1000
theorem left_iv {R F : Nat → Int32} {i2 i3 : Int32} {a b : Nat} (h2 : i2.toInt = a) (h3 : i3.toInt = b) (ha : a < 9) (hb : b < 9) (hR : sm R) (hF : sm F) : Ok (fX8_left R F i2 i3) (fun z => z.toInt = lf R F a b) := by
  obtain ⟨k1, k2⟩ := G_idx h2 h3 ha hb
  unfold fX8_left fX8_room fX8_flow
  refine Ok_bind (R := fun z => z = R (a * 9 + b)) (Ok_inB k1 (by rw [k2]; exact Ok_some rfl)) (fun z hz => ?_)
  refine Ok_bind (R := fun z => z = F (a * 9 + b)) (Ok_inB k1 (by rw [k2]; exact Ok_some rfl)) (fun y hy => ?_)
  refine Ok_some ?_
  subst hz
  subst hy
  have r := hR a b ha hb
  have f := hF a b ha hb
  have e1 : (R (a * 9 + b)).toInt = G R a b := rfl
  have e2 : (F (a * 9 + b)).toInt = G F a b := rfl
  rw [sub_iv (by omega) (by omega), e1, e2]
  rfl
def Cm (n : Nat) (E : Nat → Nat → Prop) (A : Nat → Prop) (g : Nat) : Nat → Nat → Prop
  | 0, x => x = g
  | k + 1, x => Cm n E A g k x ∨ (x < n ∧ ¬ A x ∧ ∃ y, y < n ∧ E x y ∧ Cm n E A g k y)
def nowhere : Nat → Prop := fun _ => False
theorem Cm.anyA {n g : Nat} {E : Nat → Nat → Prop} {A B : Nat → Prop} (hB : ∀ x, B x → A x) : ∀ (k x : Nat), Cm n E A g k x → Cm n E B g k x
  | 0, _, h => h
  | k + 1, x, h => by
    rcases h with h | ⟨h1, h2, y, h3, h4, h5⟩
    · exact Or.inl (Cm.anyA hB k x h)
    · exact Or.inr ⟨h1, fun q => h2 (hB x q), y, h3, h4, Cm.anyA hB k y h5⟩
theorem Cm.le {n g : Nat} {E : Nat → Nat → Prop} {A : Nat → Prop} {x k : Nat} (h : Cm n E A g k x) : ∀ j, Cm n E A g (k + j) x
  | 0 => h
  | j + 1 => Or.inl (Cm.le h j)
theorem Cm.no {n g : Nat} {E : Nat → Nat → Prop} {A V : Nat → Prop} (hc : ∀ x y, x < n → y < n → V x → ¬ A x → E x y → V y) (hg : ¬ V g) : ∀ (k x : Nat), V x → ¬ Cm n E A g k x
  | 0, x, hV, h => hg (by have e : x = g := h; rw [← e]; exact hV)
  | k + 1, x, hV, h => by
    rcases h with h | ⟨h1, h2, y, h3, h4, h5⟩
    · exact Cm.no hc hg k x hV h
    · exact Cm.no hc hg k y (hc x y h1 h3 hV h2 h4) h5
def bn (t : Nat → Nat) (i : Nat) : Nat → Prop := fun x => ∃ j, j ≤ i ∧ t j = x
theorem Cm.path {n g K : Nat} {E : Nat → Nat → Prop} {A : Nat → Prop} {t : Nat → Nat} (ht : ∀ i, i ≤ K → t i < n) (hE : ∀ i, i < K → E (t i) (t (i + 1))) (hK : t K = g) : ∀ (d i : Nat), i + d = K → (∀ j, i ≤ j → j < K → ¬ A (t j)) → Cm n E A g d (t i)
  | 0, i, h, _ => by show t i = g; rw [← hK, ← h]; rfl
  | d + 1, i, h, hA => Or.inr ⟨ht i (by omega), hA i (by omega) (by omega), t (i + 1), ht (i + 1) (by omega), hE i (by omega), Cm.path ht hE hK d (i + 1) (by omega) (fun j h1 h2 => hA j (by omega) h2)⟩
def TRK (n s g : Nat) (E : Nat → Nat → Prop) (rule : Int) (t : Nat → Nat) (K : Nat) : Prop :=
  (t 0 = s ∧ t K = g ∧ 1 ≤ K ∧ K < n) ∧ (∀ i, i ≤ K → t i < n) ∧ (∀ i j, i ≤ K → j ≤ K → t i = t j → i = j) ∧ (∀ i, i < K → E (t i) (t (i + 1))) ∧
  (rule = 0 → (∀ k, k < K → ¬ Cm n E nowhere g k s) ∧ ∀ i p, i < K → p < n → p < t (i + 1) → E (t i) p → ¬ Cm n E nowhere g (K - (i + 1)) p) ∧
  (rule = 1 → ∀ i p k, i < K → p < n → p < t (i + 1) → E (t i) p → ¬ Cm n E (bn t i) g k p) ∧
  (rule = 2 → ∀ i p k, i < K → p < n → t (i + 1) < p → E (t i) p → ¬ Cm n E (bn t i) g k p)
def BI (n s : Nat) (E : Nat → Nat → Prop) (w pu : Nat → Nat) (m k p : Nat) : Prop :=
  (1 ≤ m ∧ m ≤ n ∧ w 0 = s) ∧ (∀ j, j < m → w j < n) ∧ (∀ i j, i < m → j < m → w i = w j → i = j) ∧
  (∀ j, 1 ≤ j → j < m → pu j < j ∧ E (w (pu j)) (w j) ∧ (pu j < k ∨ (pu j = k ∧ w j < p))) ∧
  (∀ i j, 1 ≤ i → i < j → j < m → pu i < pu j ∨ (pu i = pu j ∧ w i < w j)) ∧
  (∀ j x, j < m → x < n → E (w j) x → (j < k ∨ (j = k ∧ x < p)) → ∃ i, i < m ∧ w i = x ∧ (i = 0 ∨ pu i ≤ j))
def BU (n s : Nat) (w pu : Nat → Nat) (m : Nat) (ups row : Nat → Int32) : Prop :=
  (ups s).toInt = s ∧ (∀ j, j < m → (row j).toInt = w j) ∧ (∀ j, 1 ≤ j → j < m → (ups (w j)).toInt = w (pu j)) ∧ (∀ x, x < n → (∀ j, j < m → w j ≠ x) → (ups x).toInt < 0)
theorem BI.stay {n s m k p : Nat} {E : Nat → Nat → Prop} {w pu : Nat → Nat} (h : BI n s E w pu m k p) (hp : E (w k) p → ∃ i, i < m ∧ w i = p) : BI n s E w pu m k (p + 1) := by
  obtain ⟨a, b, c, d, e, f⟩ := h
  refine ⟨a, b, c, fun j h1 h2 => ?_, e, fun j x h1 h2 h3 h4 => ?_⟩
  · obtain ⟨d1, d2, d3⟩ := d j h1 h2
    exact ⟨d1, d2, by omega⟩
  · by_cases hc : j < k ∨ (j = k ∧ x < p)
    · exact f j x h1 h2 h3 hc
    · have hj : j = k := by omega
      have hx : x = p := by omega
      subst hj
      subst hx
      obtain ⟨i, i1, i2⟩ := hp h3
      refine ⟨i, i1, i2, ?_⟩
      rcases Nat.eq_zero_or_pos i with q | q
      · exact Or.inl q
      · have := (d i q i1).2.2
        exact Or.inr (by omega)
theorem BI.add {n s m k p : Nat} {E : Nat → Nat → Prop} {w pu : Nat → Nat} (h : BI n s E w pu m k p) (hk : k < m) (hp : p < n) (hE : E (w k) p) (hv : ∀ j, j < m → w j ≠ p) : BI n s E (upN w m p) (upN pu m k) (m + 1) k (p + 1) := by
  obtain ⟨⟨a1, a2, a3⟩, b, c, d, e, f⟩ := h
  have hm := pig_miss hp b c hv
  refine ⟨⟨by omega, by omega, by rw [upN_ne w p (by omega)]; exact a3⟩, fun j hj => ?_, fun i j hi hj q => ?_, fun j h1 h2 => ?_, fun i j h1 h2 h3 => ?_, fun j x h1 h2 h3 h4 => ?_⟩
  · by_cases q : j = m
    · rw [q, upN_eq]; exact hp
    · rw [upN_ne w p q]; exact b j (by omega)
  · by_cases c1 : i = m
    · by_cases c2 : j = m
      · omega
      · rw [c1, upN_eq, upN_ne w p c2] at q
        exact absurd q.symm (hv j (by omega))
    · by_cases c2 : j = m
      · rw [c2, upN_eq, upN_ne w p c1] at q
        exact absurd q (hv i (by omega))
      · rw [upN_ne w p c1, upN_ne w p c2] at q
        exact c i j (by omega) (by omega) q
  · by_cases q : j = m
    · subst q
      rw [upN_eq, upN_eq, upN_ne w p (show k ≠ j by omega)]
      exact ⟨hk, hE, Or.inr ⟨rfl, by omega⟩⟩
    · obtain ⟨d1, d2, d3⟩ := d j h1 (by omega)
      rw [upN_ne pu k q, upN_ne w p q, upN_ne w p (show pu j ≠ m by omega)]
      exact ⟨d1, d2, by omega⟩
  · by_cases q : j = m
    · subst q
      obtain ⟨d1, d2, d3⟩ := d i h1 h2
      rw [upN_eq, upN_eq, upN_ne pu k (show i ≠ j by omega), upN_ne w p (show i ≠ j by omega)]
      exact d3
    · rw [upN_ne pu k q, upN_ne w p q, upN_ne pu k (show i ≠ m by omega), upN_ne w p (show i ≠ m by omega)]
      exact e i j h1 h2 (by omega)
  · have hj : j ≠ m := by omega
    rw [upN_ne w p hj] at h3
    by_cases hc : j < k ∨ (j = k ∧ x < p)
    · obtain ⟨i, i1, i2, i3⟩ := f j x (by omega) h2 h3 hc
      have hi : i ≠ m := by omega
      exact ⟨i, by omega, by rw [upN_ne w p hi]; exact i2, by rw [upN_ne pu k hi]; exact i3⟩
    · have hx : x = p := by omega
      exact ⟨m, by omega, by rw [upN_eq, hx], Or.inr (by rw [upN_eq]; omega)⟩
theorem BI.next {n s m k : Nat} {E : Nat → Nat → Prop} {w pu : Nat → Nat} (h : BI n s E w pu m k n) : BI n s E w pu m (k + 1) 0 := by
  obtain ⟨a, b, c, d, e, f⟩ := h
  refine ⟨a, b, c, fun j h1 h2 => ?_, e, fun j x h1 h2 h3 h4 => f j x h1 h2 h3 (by omega)⟩
  obtain ⟨d1, d2, d3⟩ := d j h1 h2
  exact ⟨d1, d2, by omega⟩
theorem BU.add {n s m k p : Nat} {w pu : Nat → Nat} {ups row : Nat → Int32} {x : Int32} (h : BU n s w pu m ups row) (hk : k < m) (hpu : ∀ j, 1 ≤ j → j < m → pu j < j) (h0 : w 0 = s) (hx : x.toInt = p) (hv : ∀ j, j < m → w j ≠ p) : BU n s (upN w m p) (upN pu m k) (m + 1) (upd ups p (row k)) (upd row m x) := by
  obtain ⟨a, b, c, d⟩ := h
  have hs : s ≠ p := by rw [← h0]; exact hv 0 (by omega)
  refine ⟨?_, fun j hj => ?_, fun j h1 h2 => ?_, fun y h1 h2 => ?_⟩
  · unfold upd; rw [if_neg hs]; exact a
  · unfold upd
    by_cases q : j = m
    · rw [if_pos q, q, upN_eq]; exact hx
    · rw [if_neg q, upN_ne w p q]; exact b j (by omega)
  · unfold upd
    by_cases q : j = m
    · rw [q, upN_eq, if_pos rfl, upN_eq, upN_ne w p (show k ≠ m by omega)]; exact b k hk
    · have g := hpu j h1 (by omega)
      rw [upN_ne w p q, if_neg (hv j (by omega)), upN_ne pu k q, upN_ne w p (show pu j ≠ m by omega)]
      exact c j h1 (by omega)
  · unfold upd
    have q : p ≠ y := by have := h2 m (by omega); rw [upN_eq] at this; exact this
    rw [if_neg (fun e => q e.symm)]
    exact d y h1 (fun j hj => by have := h2 j (by omega); rw [upN_ne w p (show j ≠ m by omega)] at this; exact this)
theorem BU.seen {n s m x : Nat} {w pu : Nat → Nat} {ups row : Nat → Int32} (h : BU n s w pu m ups row) (h0 : w 0 = s) (hx : ∃ j, j < m ∧ w j = x) : 0 ≤ (ups x).toInt := by
  obtain ⟨j, hj, e⟩ := hx
  rcases Nat.eq_zero_or_pos j with q | q
  · rw [← e, q, h0, h.1]; omega
  · rw [← e, h.2.2.1 j q hj]; omega
theorem layers_in {i3 i74 : Int32} {R F : Nat → Int32} {n s k : Nat} (h3 : i3.toInt = n) (hn : n ≤ 9) (hk : i74.toInt = k) (hR : sm R) (hF : sm F) {P : (Nat → Int32) → Prop} {k1 : Int32 → (Nat → Int32) → (Nat → Int32) → Option (Nat → Int32)} (hk1 : ∀ (im : Int32) (u row : Nat → Int32) (w pu : Nat → Nat) (m : Nat), im.toInt = m → BI n s (ed R F) w pu m k n → BU n s w pu m u row → k < m → Ok (k1 im u row) P) : ∀ (r c : Nat) (i103 i104 : Int32) (f105 f106 : Nat → Int32) (w pu : Nat → Nat) (m p : Nat), p + r = n → r < c → i103.toInt = m → i104.toInt = p → BI n s (ed R F) w pu m k p → BU n s w pu m f105 f106 → k < m → Ok (LX8_byLayers_L28 i3 R F n i74 n c i103 i104 f105 f106 k1) P := by
  intro r
  induction r with
  | zero =>
    intro c i103 i104 f105 f106 w pu m p hp hc h103 h104 hI hU hkm
    cases c with
    | zero => omega
    | succ c =>
      show Ok (BX8_byLayers_L28 i3 R F n i74 n i103 i104 f105 f106 (fun a b d e => LX8_byLayers_L28 i3 R F n i74 n c a b d e k1) k1) P
      unfold BX8_byLayers_L28
      have e : p = n := by omega
      subst e
      refine Ok_if (fun _ => hk1 _ _ _ w pu m h103 hI hU hkm) (fun h => ?_)
      have h := i32nle h
      omega
  | succ r ih =>
    intro c i103 i104 f105 f106 w pu m p hp hc h103 h104 hI hU hkm
    cases c with
    | zero => omega
    | succ c =>
      show Ok (BX8_byLayers_L28 i3 R F n i74 n i103 i104 f105 f106 (fun a b d e => LX8_byLayers_L28 i3 R F n i74 n c a b d e k1) k1) P
      unfold BX8_byLayers_L28
      refine Ok_if (fun h => ?_) (fun h => ?_)
      · have h := i32le h
        omega
      · have e104 := toNat_iv h104
        have e103 := toNat_iv h103
        have e74 := toNat_iv hk
        have ei := inc_iv (x := i104) (by omega)
        have t0 : (0 : Int32).toInt = 0 := rfl
        have hmn := hI.1
        refine Ok_inB (vp_of (by omega) (by omega)) (Ok_jn (fun k107 w107 => ?_))
        have go : ∀ (i : Int32) (u row : Nat → Int32) (w pu : Nat → Nat) (m : Nat), i.toInt = m → BI n s (ed R F) w pu m k (p + 1) → BU n s w pu m u row → k < m → Ok (k107 i u row) P := by
          intro i u row w pu m h1 h2 h3 h4
          rw [w107]
          exact ih c i (i104 + 1) u row w pu m (p + 1) (by omega) (by omega) h1 (by omega) h2 h3 h4
        clear w107
        rw [e104, e74]
        refine Ok_if (fun h => ?_) (fun h => ?_)
        · have h := i32le h
          have hv : ∃ j, j < m ∧ w j = p := Classical.byContradiction (fun q => by
            have := hU.2.2.2 p (by omega) (fun j hj e => q ⟨j, hj, e⟩)
            omega)
          exact go _ _ _ w pu m h103 (hI.stay (fun _ => hv)) hU hkm
        · have h := i32nle h
          have hv : ∀ j, j < m → w j ≠ p := fun j hj e => by
            have := hU.seen hI.1.2.2 ⟨j, hj, e⟩
            omega
          have hwk := hI.2.1 k hkm
          have er := hU.2.1 k hkm
          refine Ok_inB (vp_of (by omega) (by omega)) (Ok_bind (left_iv er h104 (by omega) (by omega) hR hF) (fun z hz => ?_))
          refine Ok_if (fun g => ?_) (fun g => ?_)
          · have g := i32le g
            exact go _ _ _ w pu m h103 (hI.stay (fun q => by have q : 0 < lf R F (w k) p := q; omega)) hU hkm
          · have g := i32nle g
            have hE : ed R F (w k) p := by show 0 < lf R F (w k) p; omega
            have hm := pig_miss (show p < n by omega) hI.2.1 hI.2.2.1 hv
            have em := inc_iv (x := i103) (by omega)
            refine Ok_inB (vp_of (by omega) (by omega)) (Ok_inB (vp_of (by omega) (by omega)) (Ok_inB (vp_of (by omega) (by omega)) ?_))
            rw [e103]
            exact go _ _ _ (upN w m p) (upN pu m k) (m + 1) (by omega) (hI.add hkm (by omega) hE hv) (hU.add hkm (fun j a b => (hI.2.2.2.1 j a b).1) hI.1.2.2 h104 hv) (by omega)
theorem layers_out {i3 : Int32} {R F : Nat → Int32} {n s : Nat} (h3 : i3.toInt = n) (hn : n ≤ 9) (hR : sm R) (hF : sm F) : ∀ (r c : Nat) (i73 i74 : Int32) (f75 f77 : Nat → Int32) (w pu : Nat → Nat) (m k : Nat), k + r = n → r < c → i73.toInt = m → i74.toInt = k → BI n s (ed R F) w pu m k 0 → BU n s w pu m f75 f77 → k ≤ m → Ok (LX8_byLayers_L19 i3 R F n n c i73 i74 f75 f77) (fun z => ∃ (w pu : Nat → Nat) (m : Nat) (row : Nat → Int32), BI n s (ed R F) w pu m m 0 ∧ BU n s w pu m z row) := by
  intro r
  induction r with
  | zero =>
    intro c i73 i74 f75 f77 w pu m k hk hc h73 h74 hI hU hkm
    cases c with
    | zero => omega
    | succ c =>
      show Ok (BX8_byLayers_L19 i3 R F n n i73 i74 f75 f77 (fun a b d e => LX8_byLayers_L19 i3 R F n n c a b d e)) _
      unfold BX8_byLayers_L19
      have a := hI.1
      have e : k = m := by omega
      subst e
      refine Ok_if (fun _ => Ok_some ⟨w, pu, k, f77, hI, hU⟩) (fun h => ?_)
      have h := i32nle h
      omega
  | succ r ih =>
    intro c i73 i74 f75 f77 w pu m k hk hc h73 h74 hI hU hkm
    cases c with
    | zero => omega
    | succ c =>
      show Ok (BX8_byLayers_L19 i3 R F n n i73 i74 f75 f77 (fun a b d e => LX8_byLayers_L19 i3 R F n n c a b d e)) _
      unfold BX8_byLayers_L19
      have a := hI.1
      refine Ok_if (fun h => ?_) (fun h => ?_)
      · have h := i32le h
        have e : k = m := by omega
        subst e
        exact Ok_some ⟨w, pu, k, f77, hI, hU⟩
      · have h := i32nle h
        have ei := inc_iv (x := i74) (by omega)
        refine layers_in h3 hn h74 hR hF (fun im u row w pu m h1 h2 h3 h4 => ?_) n 600 i73 0 f75 f77 w pu m 0 (by omega) (by omega) h73 rfl hI hU (by omega)
        exact ih c im (i74 + 1) u row w pu m (k + 1) (by omega) (by omega) h1 (by omega) h2.next h3 (by omega)
theorem byLayers_iv {i3 i6 : Int32} {R F ups : Nat → Int32} {n s : Nat} (h3 : i3.toInt = n) (h6 : i6.toInt = s) (hn : n ≤ 9) (hs : s < n) (hR : sm R) (hF : sm F) (hu : (ups s).toInt = s) (hu2 : ∀ x, x < n → x ≠ s → (ups x).toInt < 0) : Ok (fX8_byLayers i3 i6 R F n ups) (fun z => ∃ (w pu : Nat → Nat) (m : Nat) (row : Nat → Int32), BI n s (ed R F) w pu m m 0 ∧ BU n s w pu m z row) := by
  unfold fX8_byLayers
  rw [toNat_iv h3]
  have t0 : (0 : Int32).toInt = 0 := rfl
  refine Ok_nN (by omega) (by omega) (Ok_inB (vp_of (by omega) (by omega)) ?_)
  refine layers_out h3 hn hR hF n 600 1 0 ups _ (fun _ => s) (fun _ => 0) 1 0 (by omega) (by omega) rfl rfl ?_ ?_ (by omega)
  · refine ⟨⟨by omega, by omega, rfl⟩, fun _ _ => hs, fun i j hi hj _ => by omega, fun j h1 h2 => by omega, fun i j h1 h2 h3 => by omega, fun j x h1 h2 h3 h4 => by omega⟩
  · refine ⟨hu, fun j hj => ?_, fun j h1 h2 => by omega, fun x hx h => hu2 x hx (fun e => h 0 (by omega) e.symm)⟩
    have e : j = 0 := by omega
    subst e
    show (upd (fun _ => 0) (0 : Int32).toNatClampNeg i6 0).toInt = s
    rw [show (0 : Int32).toNatClampNeg = 0 from rfl]
    unfold upd
    rw [if_pos rfl]
    exact h6
theorem BI.chain {n s m : Nat} {E : Nat → Nat → Prop} {w pu : Nat → Nat} (h : BI n s E w pu m m 0) : ∀ (j b : Nat), j ≤ b → j < m → ∃ (K : Nat) (q : Nat → Nat), q 0 = 0 ∧ q K = j ∧ ∀ i, i < K → 1 ≤ q (i + 1) ∧ q (i + 1) < m ∧ pu (q (i + 1)) = q i := by
  intro j b
  induction b generalizing j with
  | zero =>
    intro hb hj
    exact ⟨0, fun _ => 0, rfl, by show 0 = j; omega, fun i hi => by omega⟩
  | succ b ih =>
    intro hb hj
    rcases Nat.eq_zero_or_pos j with e | e
    · exact ⟨0, fun _ => 0, rfl, by show 0 = j; omega, fun i hi => by omega⟩
    · have hp := (h.2.2.2.1 j e hj).1
      obtain ⟨K, q, q0, qK, qs⟩ := ih (pu j) (by omega) (by omega)
      refine ⟨K + 1, upN q (K + 1) j, by rw [upN_ne q j (by omega)]; exact q0, upN_eq q (K + 1) j, fun i hi => ?_⟩
      by_cases c : i = K
      · subst c
        rw [upN_eq, upN_ne q j (show i ≠ i + 1 by omega), qK]
        exact ⟨e, hj, rfl⟩
      · rw [upN_ne q j (show i + 1 ≠ K + 1 by omega), upN_ne q j (show i ≠ K + 1 by omega)]
        exact qs i (by omega)
theorem rising {K : Nat} {q : Nat → Nat} (h : ∀ i, i < K → q i < q (i + 1)) : ∀ (d i : Nat), i + d ≤ K → q i + d ≤ q (i + d)
  | 0, _, _ => Nat.le_refl _
  | d + 1, i, hi => by
    have a := rising h d i (by omega)
    have b := h (i + d) (by omega)
    have e : i + (d + 1) = i + d + 1 := rfl
    rw [e]
    omega
theorem BI.late {n s m K g : Nat} {E : Nat → Nat → Prop} {w pu q : Nat → Nat} (h : BI n s E w pu m m 0) (hq : ∀ i, i < K → 1 ≤ q (i + 1) ∧ q (i + 1) < m ∧ pu (q (i + 1)) = q i) (hm : q K < m) (hg : w (q K) = g) : ∀ (L x a j : Nat), Cm n E nowhere g L x → w a = x → a < m → j + L ≤ K → a < q j → False := by
  have hr : ∀ i, i < K → q i < q (i + 1) := fun i hi => by
    have a := hq i hi
    have b := (h.2.2.2.1 _ a.1 a.2.1).1
    omega
  intro L
  induction L with
  | zero =>
    intro x a j hx ha hm2 hj hlt
    have e : x = g := hx
    have e2 := h.2.2.1 a (q K) hm2 hm (by rw [ha, e, hg])
    have := rising hr (K - j) j (by omega)
    rw [show j + (K - j) = K by omega] at this
    omega
  | succ L ih =>
    intro x a j hx ha hm2 hj hlt
    rcases hx with hx | ⟨-, -, y, h3, h4, h5⟩
    · exact ih x a j hx ha hm2 (by omega) hlt
    · obtain ⟨i, i1, i2, i3⟩ := h.2.2.2.2.2 a y hm2 h3 (by rw [ha]; exact h4) (Or.inl hm2)
      have hj2 := hq j (by omega)
      refine ih y i (j + 1) h5 i2 i1 (by omega) ?_
      rcases i3 with i3 | i3
      · omega
      · rcases Nat.lt_or_ge i (q (j + 1)) with c | c
        · exact c
        · exfalso
          rcases Nat.eq_or_lt_of_le c with c | c
          · rw [← c] at i3; omega
          · have := h.2.2.2.2.1 (q (j + 1)) i hj2.1 c i1
            omega
theorem BI.track {n s g m : Nat} {E : Nat → Nat → Prop} {w pu : Nat → Nat} {ups row : Nat → Int32} (h : BI n s E w pu m m 0) (hU : BU n s w pu m ups row) (hg : g < n) (hsg : s ≠ g) : ((ups g).toInt < 0 ∧ ∀ k, ¬ Cm n E nowhere g k s) ∨ (0 ≤ (ups g).toInt ∧ ∃ t K, TRK n s g E 0 t K ∧ ∀ i, i < K → (ups (t (i + 1))).toInt = t i) := by
  by_cases hv : ∃ j, j < m ∧ w j = g
  · refine Or.inr ⟨hU.seen h.1.2.2 hv, ?_⟩
    obtain ⟨j, hj, ej⟩ := hv
    obtain ⟨K, q, q0, qK, qs⟩ := h.chain j j (Nat.le_refl _) hj
    have hr : ∀ i, i < K → q i < q (i + 1) := fun i hi => by
      have a := qs i hi
      have b := (h.2.2.2.1 _ a.1 a.2.1).1
      omega
    have hqm : ∀ i, i ≤ K → q i < m := fun i hi => by
      have := rising hr (K - i) i (by omega)
      rw [show i + (K - i) = K by omega] at this
      omega
    have hK : 1 ≤ K := by
      rcases Nat.eq_zero_or_pos K with e | e
      · exfalso
        apply hsg
        rw [← h.1.2.2, ← q0, ← ej, ← qK, e]
      · exact e
    have inj : ∀ i j, i ≤ K → j ≤ K → w (q i) = w (q j) → i = j := by
      intro i j hi hj e
      have e := h.2.2.1 _ _ (hqm i hi) (hqm j hj) e
      rcases Nat.lt_trichotomy i j with c | c | c
      · have := rising hr (j - i) i (by omega)
        rw [show i + (j - i) = j by omega] at this
        omega
      · exact c
      · have := rising hr (i - j) j (by omega)
        rw [show j + (i - j) = i by omega] at this
        omega
    have tn : ∀ i, i ≤ K → w (q i) < n := fun i hi => h.2.1 _ (hqm i hi)
    have hKn : K < n := by
      have := pig n (K + 1) (fun i => w (q i)) (fun j hj => tn j (by omega)) (fun i j hi hj e => inj i j (by omega) (by omega) e)
      omega
    refine ⟨fun i => w (q i), K, ⟨⟨by show w (q 0) = s; rw [q0]; exact h.1.2.2, by show w (q K) = g; rw [qK]; exact ej, hK, hKn⟩, tn, inj, fun i hi => ?_, fun _ => ⟨fun k hk hc => ?_, fun i p hi hp hlt hE hc => ?_⟩, fun e => by omega, fun e => by omega⟩, fun i hi => ?_⟩
    · have a := qs i hi
      have b := (h.2.2.2.1 _ a.1 a.2.1).2.1
      rw [a.2.2] at b
      exact b
    · have a := qs 0 (by omega)
      exact h.late qs (hqm K (Nat.le_refl _)) (by rw [qK]; exact ej) k s 0 1 hc h.1.2.2 (by have := h.1; omega) (by omega) a.1
    · have a := qs i hi
      obtain ⟨b, b1, b2, b3⟩ := h.2.2.2.2.2 (q i) p (hqm i (by omega)) hp hE (Or.inl (hqm i (by omega)))
      refine h.late qs (hqm K (Nat.le_refl _)) (by rw [qK]; exact ej) (K - (i + 1)) p b (i + 1) hc b2 b1 (by omega) ?_
      have hlt : p < w (q (i + 1)) := hlt
      rcases b3 with b3 | b3
      · omega
      · rcases Nat.lt_or_ge b (q (i + 1)) with c | c
        · exact c
        · exfalso
          rcases Nat.eq_or_lt_of_le c with c | c
          · rw [← c] at b2; omega
          · have := h.2.2.2.2.1 (q (i + 1)) b a.1 c b1
            omega
    · have a := qs i hi
      have b := hU.2.2.1 _ a.1 a.2.1
      rw [a.2.2] at b
      exact b
  · refine Or.inl ⟨hU.2.2.2 g hg (fun j hj e => hv ⟨j, hj, e⟩), fun k => ?_⟩
    refine Cm.no (V := fun x => ∃ j, j < m ∧ w j = x) (fun x y hx hy hV _ hE => ?_) hv k s ⟨0, by have := h.1; omega, h.1.2.2⟩
    obtain ⟨j, hj, ej⟩ := hV
    obtain ⟨i, i1, i2, -⟩ := h.2.2.2.2.2 j y hj hy (by rw [ej]; exact hE) (Or.inl hj)
    exact ⟨i, i1, i2⟩
