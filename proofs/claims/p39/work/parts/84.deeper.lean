/-! THE SEARCH IN DEPTH -/
def unv (u : Nat → Int32) : Nat → Nat
  | 0 => 0
  | k + 1 => unv u k + (if (u k).toInt < 0 then 1 else 0)
theorem unv_bd (u : Nat → Int32) : ∀ k, unv u k ≤ k
  | 0 => Nat.le_refl _
  | k + 1 => by
    have := unv_bd u k
    unfold unv
    split <;> omega
theorem unv_le {u v : Nat → Int32} : ∀ k, (∀ x, x < k → 0 ≤ (u x).toInt → 0 ≤ (v x).toInt) → unv v k ≤ unv u k
  | 0, _ => Nat.le_refl _
  | k + 1, h => by
    have a := unv_le k (fun x hx => h x (by omega))
    have b := h k (by omega)
    unfold unv
    split <;> split <;> omega
theorem unv_lt {u v : Nat → Int32} {p : Nat} : ∀ k, p < k → (∀ x, x < k → 0 ≤ (u x).toInt → 0 ≤ (v x).toInt) → (u p).toInt < 0 → 0 ≤ (v p).toInt → unv v k + 1 ≤ unv u k
  | 0, hp, _, _, _ => by omega
  | k + 1, hp, h, h1, h2 => by
    have b := h k (by omega)
    by_cases e : p = k
    · have a := unv_le k (fun x hx => h x (by omega))
      subst e
      unfold unv
      rw [if_pos h1, if_neg (show ¬ (v p).toInt < 0 by omega)]
      omega
    · have a := unv_lt k (by omega) (fun x hx => h x (by omega)) h1 h2
      unfold unv
      split <;> split <;> omega
def bef (l : Int32) (p q : Nat) : Prop := (l = 0 ∧ p < q) ∨ (l ≠ 0 ∧ q < p)
def DP (n g : Nat) (E : Nat → Nat → Prop) (S : Nat → Prop) (l : Int32) (a : Nat) (u : Nat → Int32) (z : Int32 × (Nat → Int32)) : Prop :=
  (∀ x, x < n → 0 ≤ (u x).toInt → z.2 x = u x) ∧
  ((z.1 = 1 ∧ ∃ (t : Nat → Nat) (K : Nat), (t 0 = a ∧ t K = g) ∧ (∀ i, i ≤ K → t i < n) ∧ (∀ i, i < K → (z.2 (t (i + 1))).toInt = t i ∧ (u (t (i + 1))).toInt < 0 ∧ E (t i) (t (i + 1))) ∧
    (∀ i j, i ≤ K → j ≤ K → t i = t j → i = j) ∧ (∀ i p k, i < K → p < n → bef l p (t (i + 1)) → E (t i) p → ¬ Cm n E (fun x => S x ∨ ∃ j, 1 ≤ j ∧ j ≤ i ∧ t j = x) g k p)) ∨
   (z.1 = 0 ∧ (z.2 g).toInt < 0 ∧ ∀ x y, x < n → y < n → 0 ≤ (z.2 x).toInt → (¬ S x ∨ x = a) → E x y → 0 ≤ (z.2 y).toInt))
def DQ (n g : Nat) (E : Nat → Nat → Prop) (S : Nat → Prop) (a : Nat) (u : Nat → Int32) : Prop :=
  (a < n ∧ S a) ∧ (∀ x, S x → x < n ∧ 0 ≤ (u x).toInt) ∧ (a = g ∨ (u g).toInt < 0) ∧ (∀ x y, x < n → y < n → 0 ≤ (u x).toInt → ¬ S x → E x y → 0 ≤ (u y).toInt)
def plus (S : Nat → Prop) (p : Nat) : Nat → Prop := fun x => S x ∨ x = p
def od (l : Int32) (n k : Nat) : Nat := if l = 0 then k else n - 1 - k
def DI (n g : Nat) (E : Nat → Nat → Prop) (S : Nat → Prop) (l : Int32) (a k : Nat) (u v : Nat → Int32) : Prop :=
  (∀ x, x < n → 0 ≤ (u x).toInt → v x = u x) ∧ (v g).toInt < 0 ∧ (∀ x y, x < n → y < n → 0 ≤ (v x).toInt → ¬ S x → E x y → 0 ≤ (v y).toInt) ∧ (∀ j, j < k → E a (od l n j) → 0 ≤ (v (od l n j)).toInt)
theorem DI.sub {n g a k p : Nat} {E : Nat → Nat → Prop} {S : Nat → Prop} {l i2 : Int32} {u v : Nat → Int32} (h : DI n g E S l a k u v) (hQ : DQ n g E S a u) (hp : p < n) (hv : (v p).toInt < 0) (hi : i2.toInt = a) : DQ n g E (plus S p) p (upd v p i2) := by
  obtain ⟨h1, h2, h3, h4⟩ := h
  obtain ⟨⟨q1, q2⟩, q3, q4, q5⟩ := hQ
  have up : (upd v p i2 p).toInt = a := by unfold upd; rw [if_pos rfl]; exact hi
  have un : ∀ x, x ≠ p → upd v p i2 x = v x := fun x hx => by unfold upd; rw [if_neg hx]
  refine ⟨⟨hp, Or.inr rfl⟩, fun x hx => ?_, ?_, fun x y hx hy hV hS hE => ?_⟩
  · by_cases e : x = p
    · subst e; exact ⟨hp, by omega⟩
    · rcases hx with hx | hx
      · obtain ⟨a1, a2⟩ := q3 x hx
        refine ⟨a1, ?_⟩
        rw [un x e, h1 x a1 a2]; exact a2
      · exact absurd hx e
  · by_cases e : p = g
    · exact Or.inl e
    · right; rw [un g (fun q => e q.symm)]; exact h2
  · have e : x ≠ p := fun e => hS (Or.inr e)
    rw [un x e] at hV
    by_cases e2 : y = p
    · subst e2; omega
    · rw [un y e2]; exact h3 x y hx hy hV (fun q => hS (Or.inl q)) hE
theorem DI.fail {n g a k p : Nat} {E : Nat → Nat → Prop} {S : Nat → Prop} {l i2 : Int32} {u v : Nat → Int32} {z : Int32 × (Nat → Int32)} (h : DI n g E S l a k u v) (hp : p < n) (hv : (v p).toInt < 0) (hi : i2.toInt = a) (ho : p = od l n k) (hn : ∀ j, j < k → od l n j < n) (hz : DP n g E (plus S p) l p (upd v p i2) z) (hz0 : z.1 = 0) : DI n g E S l a (k + 1) u z.2 := by
  obtain ⟨h1, h2, h3, h4⟩ := h
  obtain ⟨m, hz⟩ := hz
  have up : (upd v p i2 p).toInt = a := by unfold upd; rw [if_pos rfl]; exact hi
  have un : ∀ x, x ≠ p → upd v p i2 x = v x := fun x hx => by unfold upd; rw [if_neg hx]
  have keep : ∀ x, x < n → 0 ≤ (v x).toInt → z.2 x = v x := fun x hx hV => by
    have e : x ≠ p := fun e => by subst e; omega
    have := m x hx (by rw [un x e]; exact hV)
    rw [this, un x e]
  rcases hz with ⟨e, -⟩ | ⟨-, g1, g2⟩
  · rw [hz0] at e; exact absurd e (by decide)
  · refine ⟨fun x hx hV => ?_, g1, fun x y hx hy hV hS hE => ?_, fun j hj hE => ?_⟩
    · have := h1 x hx hV
      rw [keep x hx (by rw [this]; exact hV), this]
    · refine g2 x y hx hy hV ?_ hE
      by_cases e : x = p
      · exact Or.inr e
      · exact Or.inl (fun q => q.elim hS e)
    · by_cases e : j = k
      · subst e
        rw [← ho, m p hp (by omega)]; omega
      · have := h4 j (by omega) hE
        rw [keep _ (hn j (by omega)) this]; exact this
theorem DI.find {n g a k p : Nat} {E : Nat → Nat → Prop} {S : Nat → Prop} {l i2 : Int32} {u v : Nat → Int32} {z : Int32 × (Nat → Int32)} (h : DI n g E S l a k u v) (hQ : DQ n g E S a u) (hp : p < n) (hv : (v p).toInt < 0) (hi : i2.toInt = a) (ho : p = od l n k) (hkn : k < n) (hE : E a p) (hz : DP n g E (plus S p) l p (upd v p i2) z) (hz0 : ¬ z.1 = 0) : DP n g E S l a u (1, z.2) := by
  obtain ⟨h1, h2, h3, h4⟩ := h
  obtain ⟨⟨q1, q2⟩, q3, q4, q5⟩ := hQ
  obtain ⟨m, hz⟩ := hz
  have up : (upd v p i2 p).toInt = a := by unfold upd; rw [if_pos rfl]; exact hi
  have un : ∀ x, x ≠ p → upd v p i2 x = v x := fun x hx => by unfold upd; rw [if_neg hx]
  have old : ∀ x, x < n → (upd v p i2 x).toInt < 0 → (u x).toInt < 0 := fun x hx hV => by
    rcases Int.lt_or_le (u x).toInt 0 with c | c
    · exact c
    · exfalso
      have e := h1 x hx c
      by_cases e2 : x = p
      · subst e2; omega
      · rw [un x e2, e] at hV; omega
  have pu : (u p).toInt < 0 := by
    rcases Int.lt_or_le (u p).toInt 0 with c | c
    · exact c
    · have e := h1 p hp c; rw [e] at hv; omega
  refine ⟨fun x hx hV => ?_, Or.inl ⟨rfl, ?_⟩⟩
  · have e := h1 x hx hV
    have e2 : x ≠ p := fun e => by subst e; omega
    show z.2 x = u x
    rw [m x hx (by rw [un x e2, e]; exact hV), un x e2, e]
  · rcases hz with ⟨-, t, K, ⟨t0, tK⟩, tn, ts, ti, tg⟩ | ⟨e, -⟩
    · refine ⟨fun i => if i = 0 then a else t (i - 1), K + 1, ⟨if_pos rfl, by show (if K + 1 = 0 then a else t (K + 1 - 1)) = g; rw [if_neg (by omega)]; exact tK⟩, fun i hi => ?_, fun i hi => ?_, fun i j hi hj e => ?_, fun i x k2 hi hx hb hEx => ?_⟩
      · show (if i = 0 then a else t (i - 1)) < n
        split
        · exact q1
        · exact tn (i - 1) (by omega)
      · show (z.2 (if i + 1 = 0 then a else t (i + 1 - 1))).toInt = ((if i = 0 then a else t (i - 1) : Nat) : Int) ∧ (u (if i + 1 = 0 then a else t (i + 1 - 1))).toInt < 0 ∧ E (if i = 0 then a else t (i - 1)) (if i + 1 = 0 then a else t (i + 1 - 1))
        rw [if_neg (show ¬ i + 1 = 0 by omega), show i + 1 - 1 = i by omega]
        by_cases e : i = 0
        · subst e
          rw [if_pos rfl, t0]
          refine ⟨?_, pu, hE⟩
          rw [m p hp (by omega)]; exact up
        · rw [if_neg e]
          obtain ⟨s1, s2, s3⟩ := ts (i - 1) (by omega)
          rw [show i - 1 + 1 = i by omega] at s1 s2 s3
          exact ⟨s1, old _ (tn i (by omega)) s2, s3⟩
      · have e : (if i = 0 then a else t (i - 1)) = (if j = 0 then a else t (j - 1)) := e
        have ne : ∀ j, 1 ≤ j → j ≤ K + 1 → t (j - 1) ≠ a := fun j h1 h2 q => by
          have ha := (q3 a q2).2
          by_cases c : j = 1
          · subst c
            rw [show 1 - 1 = 0 from rfl, t0] at q
            subst q; omega
          · obtain ⟨s1, s2, s3⟩ := ts (j - 2) (by omega)
            rw [show j - 2 + 1 = j - 1 by omega] at s2
            have := old _ (tn (j - 1) (by omega)) s2
            rw [q] at this; omega
        by_cases c1 : i = 0
        · by_cases c2 : j = 0
          · omega
          · rw [if_pos c1, if_neg c2] at e
            exact absurd e.symm (ne j (by omega) (by omega))
        · by_cases c2 : j = 0
          · rw [if_neg c1, if_pos c2] at e
            exact absurd e (ne i (by omega) (by omega))
          · rw [if_neg c1, if_neg c2] at e
            have := ti (i - 1) (j - 1) (by omega) (by omega) e
            omega
      · have hb : bef l x (if i + 1 = 0 then a else t (i + 1 - 1)) := hb
        have hEx : E (if i = 0 then a else t (i - 1)) x := hEx
        rw [if_neg (show ¬ i + 1 = 0 by omega), show i + 1 - 1 = i by omega] at hb
        by_cases e : i = 0
        · subst e
          rw [if_pos rfl] at hEx
          rw [t0] at hb
          have hj : ∃ j, j < k ∧ x = od l n j := by
            rcases hb with ⟨b1, b2⟩ | ⟨b1, b2⟩
            · refine ⟨x, ?_, by unfold od; rw [if_pos b1]⟩
              rw [ho] at b2; unfold od at b2; rw [if_pos b1] at b2; exact b2
            · rw [ho] at b2; unfold od at b2; rw [if_neg b1] at b2
              exact ⟨n - 1 - x, by omega, by unfold od; rw [if_neg b1]; omega⟩
          obtain ⟨j, hj, ej⟩ := hj
          have hV := h4 j hj (by rw [← ej]; exact hEx)
          rw [← ej] at hV
          intro hc
          exact Cm.no (V := fun y => y < n ∧ 0 ≤ (v y).toInt) (A := S) (fun y w hy hw hV hS hE => ⟨hw, h3 y w hy hw hV.2 hS hE⟩) (fun q => by omega) k2 x ⟨hx, hV⟩ (Cm.anyA (fun y hy => Or.inl hy) k2 x hc)
        · rw [if_neg e] at hEx
          have hb2 : bef l x (t (i - 1 + 1)) := by rw [show i - 1 + 1 = i by omega]; exact hb
          intro hc
          refine tg (i - 1) x k2 (by omega) hx hb2 hEx (Cm.anyA (fun y hy => ?_) k2 x hc)
          rcases hy with (hy | hy) | ⟨j, j1, j2, j3⟩
          · exact Or.inl hy
          · exact Or.inr ⟨1, by omega, by omega, by show (if 1 = 0 then a else t (1 - 1)) = y; rw [if_neg (by omega), hy]; exact t0⟩
          · exact Or.inr ⟨j + 1, by omega, by omega, by show (if j + 1 = 0 then a else t (j + 1 - 1)) = y; rw [if_neg (by omega)]; exact j3⟩
    · exact absurd e hz0
def DF (n g : Nat) (R F : Nat → Int32) (i4 : Int32) (rf : (Nat → Int32) → Int32 → Option (Int32 × (Nat → Int32))) (d : Nat) : Prop := ∀ (u : Nat → Int32) (i2 : Int32) (a : Nat) (S : Nat → Prop), i2.toInt = a → DQ n g (ed R F) S a u → unv u n < d → Ok (rf u i2) (DP n g (ed R F) S i4 a u)
theorem deeper_loop {i5 i8 i9 i10 i11 i12 i13 i2 i4 : Int32} {R F u : Nat → Int32} {n g a d : Nat} {S : Nat → Prop} {rf : Int32 → Int32 → Int32 → Int32 → Int32 → Int32 → Int32 → (Nat → Int32) → (Nat → Int32) → Nat → (Nat → Int32) → Int32 → Int32 → Option (Int32 × (Nat → Int32))} (hrf : DF n g R F i4 (fun u i2 => rf i5 i8 i9 i10 i11 i12 i13 R F n u i2 i4) d) (h5 : i5.toInt = n) (hn : n ≤ 9) (hg : g < n) (h2 : i2.toInt = a) (hR : sm R) (hF : sm F) (hQ : DQ n g (ed R F) S a u) (hd : unv u n < d + 1) : ∀ (r c : Nat) (i42 : Int32) (v : Nat → Int32) (k : Nat), k + r = n → r < c → i42.toInt = k → DI n g (ed R F) S i4 a k u v → Ok (LX8_deeper_L13 rf i5 i8 i9 i10 i11 i12 i13 R F n i2 i4 c i42 v) (DP n g (ed R F) S i4 a u) := by
  intro r
  induction r with
  | zero =>
    intro c i42 v k hk hc h42 hI
    cases c with
    | zero => omega
    | succ c =>
      show Ok (BX8_deeper_L13 rf i5 i8 i9 i10 i11 i12 i13 R F n i2 i4 i42 v (fun x y => LX8_deeper_L13 rf i5 i8 i9 i10 i11 i12 i13 R F n i2 i4 c x y)) _
      unfold BX8_deeper_L13
      refine Ok_if (fun _ => Ok_some ⟨hI.1, Or.inr ⟨rfl, hI.2.1, fun x y hx hy hV hS hE => ?_⟩⟩) (fun h => ?_)
      · by_cases e : S x
        · have e2 : x = a := hS.resolve_left (fun q => q e)
          subst e2
          have ho : y = od i4 n (od i4 n y) ∧ od i4 n y < k := by
            unfold od
            by_cases e4 : i4 = 0
            · rw [if_pos e4, if_pos e4]; omega
            · rw [if_neg e4, if_neg e4]; omega
          have := hI.2.2.2 (od i4 n y) ho.2 (by rw [← ho.1]; exact hE)
          rw [← ho.1] at this
          exact this
        · exact hI.2.2.1 x y hx hy hV e hE
      · have h := i32nle h
        omega
  | succ r ih =>
    intro c i42 v k hk hc h42 hI
    cases c with
    | zero => omega
    | succ c =>
      show Ok (BX8_deeper_L13 rf i5 i8 i9 i10 i11 i12 i13 R F n i2 i4 i42 v (fun x y => LX8_deeper_L13 rf i5 i8 i9 i10 i11 i12 i13 R F n i2 i4 c x y)) _
      unfold BX8_deeper_L13
      have ei := inc_iv (x := i42) (by omega)
      have t0 : (0 : Int32).toInt = 0 := rfl
      refine Ok_if (fun h => ?_) (fun h => ?_)
      · have h := i32le h
        omega
      · clear h
        have go : ∀ (w : Nat → Int32), DI n g (ed R F) S i4 a (k + 1) u w → Ok (LX8_deeper_L13 rf i5 i8 i9 i10 i11 i12 i13 R F n i2 i4 c (i42 + 1) w) (DP n g (ed R F) S i4 a u) := fun w hw => ih c (i42 + 1) w (k + 1) (by omega) (by omega) (by omega) hw
        refine Ok_jn (fun k44 w44 => ?_)
        have step : ∀ (i46 : Int32) (p : Nat), i46.toInt = p → p < n → p = od i4 n k → Ok (k44 i46) (DP n g (ed R F) S i4 a u) := by
          intro i46 p h46 hp ho
          rw [w44]
          have e46 := toNat_iv h46
          refine Ok_inB (vp_of (by omega) (by omega)) (Ok_jn (fun k47 w47 => ?_))
          rw [w47]
          clear w47 k47
          rw [e46]
          have odn : ∀ j, j < k → od i4 n j < n := fun j hj => by
            unfold od
            split <;> omega
          have seen : (0 ≤ (v p).toInt ∨ ¬ ed R F a p) → DI n g (ed R F) S i4 a (k + 1) u v := fun q => ⟨hI.1, hI.2.1, hI.2.2.1, fun j hj hE => by
            by_cases e : j = k
            · subst e
              rw [← ho] at hE ⊢
              exact q.resolve_right (fun q => q hE)
            · exact hI.2.2.2 j (by omega) hE⟩
          refine Ok_if (fun h => ?_) (fun h => ?_)
          · have h := i32le h
            exact go v (seen (Or.inl (by omega)))
          · have h := i32nle h
            refine Ok_bind (left_iv h2 h46 (by have := hQ.1.1; omega) (by omega) hR hF) (fun z hz => ?_)
            refine Ok_if (fun q => ?_) (fun q => ?_)
            · have q := i32lt q
              have hE : ed R F a p := by show 0 < lf R F a p; omega
              have hv : (v p).toInt < 0 := by omega
              have hd2 : unv (upd v p i2) n < d := by
                have a1 := unv_le (u := u) (v := v) n (fun x hx hV => by rw [hI.1 x hx hV]; exact hV)
                have a2 := unv_lt (u := v) (v := upd v p i2) (p := p) n hp (fun x hx hV => by
                  unfold upd
                  split
                  · omega
                  · exact hV) hv (by unfold upd; rw [if_pos rfl]; omega)
                omega
              refine Ok_inB (vp_of (by omega) (by omega)) (Ok_bind (hrf (upd v p i2) i46 p (plus S p) h46 (hI.sub hQ hp hv h2) hd2) (fun z hz => ?_))
              refine Ok_if (fun z0 => ?_) (fun z0 => ?_)
              · exact go z.2 (hI.fail hp hv h2 ho odn hz z0)
              · exact Ok_some (hI.find hQ hp hv h2 ho (by omega) hE hz z0)
            · have q := i32nlt q
              exact go v (seen (Or.inr (fun hE => by have hE : 0 < lf R F a p := hE; omega)))
        refine Ok_if (fun e => ?_) (fun e => ?_)
        · exact step i42 k h42 (by omega) (by unfold od; rw [if_pos e])
        · have t1 : (1 : Int32).toInt = 1 := rfl
          have e1 := sub_iv (x := i5) (y := 1) (by omega) (by omega)
          obtain ⟨y, wy⟩ : ∃ y, y = i5 - (1 : Int32) := ⟨_, rfl⟩
          rw [← wy] at e1 ⊢
          have e2 := sub_iv (x := y) (y := i42) (by omega) (by omega)
          exact step (y - i42) (n - 1 - k) (by omega) (by omega) (by unfold od; rw [if_neg e])
theorem deeper_iv {i5 i8 i9 i10 i11 i12 i13 i4 : Int32} {R F : Nat → Int32} {n g : Nat} (h5 : i5.toInt = n) (h9 : i9.toInt = g) (hn : n ≤ 9) (hg : g < n) (hR : sm R) (hF : sm F) : ∀ d, DF n g R F i4 (fun u i2 => fX8_deeper d i5 i8 i9 i10 i11 i12 i13 R F n u i2 i4) d := by
  intro d
  induction d with
  | zero => intro u i2 a S h2 hQ hd; omega
  | succ d ih =>
    intro u i2 a S h2 hQ hd
    show Ok (bX8_deeper (fX8_deeper d) i5 i8 i9 i10 i11 i12 i13 R F n u i2 i4) _
    unfold bX8_deeper
    refine Ok_if (fun e => ?_) (fun e => ?_)
    · have e := i32eq e
      have ea : a = g := by omega
      refine Ok_some ⟨fun x _ _ => rfl, Or.inl ⟨rfl, fun _ => a, 0, ⟨rfl, ea⟩, fun _ _ => hQ.1.1, fun i hi => by omega, fun i j hi hj _ => by omega, fun i p k hi => by omega⟩⟩
    · have ea : a ≠ g := fun q => e (Int32.toInt_inj.mp (by omega))
      exact deeper_loop ih h5 hn hg h2 hR hF hQ hd n 600 0 u 0 (by omega) (by omega) rfl ⟨fun x _ _ => rfl, hQ.2.2.1.resolve_left ea, hQ.2.2.2, fun j hj => by omega⟩
theorem DP.track {n s g : Nat} {E : Nat → Nat → Prop} {l : Int32} {u : Nat → Int32} {z : Int32 × (Nat → Int32)} (hz : DP n g E (fun x => x = s) l s u z) (hg : g < n) (hs : s < n) (hsg : s ≠ g) (hus : 0 ≤ (u s).toInt) : ((z.2 g).toInt < 0 ∧ ∀ k, ¬ Cm n E nowhere g k s) ∨ (0 ≤ (z.2 g).toInt ∧ ∃ t K, TRK n s g E (if l = 0 then 1 else 2) t K ∧ ∀ i, i < K → (z.2 (t (i + 1))).toInt = t i) := by
  obtain ⟨m, hz⟩ := hz
  rcases hz with ⟨-, t, K, ⟨t0, tK⟩, tn, ts, ti, tg⟩ | ⟨-, h1, h2⟩
  · have hK : 1 ≤ K := by
      rcases Nat.eq_zero_or_pos K with e | e
      · exfalso; apply hsg; rw [← t0, ← tK, e]
      · exact e
    have hKn : K < n := by
      have := pig n (K + 1) t (fun j hj => tn j (by omega)) (fun i j hi hj e => ti i j (by omega) (by omega) e)
      omega
    have hb : ∀ i x, bn t i x → (x = s ∨ ∃ j, 1 ≤ j ∧ j ≤ i ∧ t j = x) := fun i x ⟨j, j1, j2⟩ => by
      rcases Nat.eq_zero_or_pos j with e | e
      · left; rw [← j2, e, t0]
      · exact Or.inr ⟨j, e, j1, j2⟩
    have hb2 : ∀ i x, (x = s ∨ ∃ j, 1 ≤ j ∧ j ≤ i ∧ t j = x) → bn t i x := fun i x h => by
      rcases h with h | ⟨j, j1, j2, j3⟩
      · exact ⟨0, by omega, by rw [h]; exact t0⟩
      · exact ⟨j, j2, j3⟩
    refine Or.inr ⟨?_, t, K, ⟨⟨t0, tK, hK, hKn⟩, tn, ti, fun i hi => (ts i hi).2.2, fun e => ?_, fun e i p k hi hp hlt hE hc => ?_, fun e i p k hi hp hlt hE hc => ?_⟩, fun i hi => (ts i hi).1⟩
    · have := (ts (K - 1) (by omega)).1
      rw [show K - 1 + 1 = K by omega, tK] at this
      omega
    · split at e <;> omega
    · have e0 : l = 0 := by
        by_cases c : l = 0
        · exact c
        · rw [if_neg c] at e; omega
      exact tg i p k hi hp (Or.inl ⟨e0, hlt⟩) hE (Cm.anyA (fun x hx => hb2 i x hx) k p hc)
    · have e0 : l ≠ 0 := fun c => by rw [if_pos c] at e; omega
      exact tg i p k hi hp (Or.inr ⟨e0, hlt⟩) hE (Cm.anyA (fun x hx => hb2 i x hx) k p hc)
  · refine Or.inl ⟨h1, fun k => ?_⟩
    refine Cm.no (V := fun x => x < n ∧ 0 ≤ (z.2 x).toInt) (fun x y hx hy hV _ hE => ⟨hy, h2 x y hx hy hV.2 ?_ hE⟩) (fun q => by omega) k s ⟨hs, by rw [m s hs hus]; exact hus⟩
    by_cases e : x = s
    · exact Or.inr e
    · exact Or.inl e
