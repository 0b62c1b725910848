/-! numbers as texts, rows as texts -/
theorem rem100 {q x : Int32} {u v : Nat} (hq : q.toInt = -(v : Int)) (hx : x.toInt = -(u : Int)) (hv : v * 100 ≤ u ∧ u < v * 100 + 100) (hu : u ≤ 2147483648) : ((q * (100 : Int32)) - x).toInt = u - v * 100 := by
  have t100 : (100 : Int32).toInt = 100 := rfl
  have hm : (q * (100 : Int32)).toInt = q.toInt * 100 := by rw [Int32.toInt_mul, t100]; exact bmod32 (by omega) (by omega)
  generalize q * (100 : Int32) = t at hm
  rw [sub_iv (by omega) (by omega)]
  omega
/-! numbers as texts, rows as texts -/
theorem div100 {x : Int32} {u : Nat} (h : x.toInt = -(u : Int)) : (x / (100 : Int32)).toInt = -((u / 100 : Nat) : Int) := by
  have t100 : (100 : Int32).toInt = 100 := rfl
  have bx := i32b (x := x)
  have e : x.toInt.tdiv 100 = -((u / 100 : Nat) : Int) := by
    rw [h, Int.neg_tdiv, Int.ofNat_tdiv]
    rfl
  rw [Int32.toInt_div, t100, e]
  exact bmod32 (by omega) (by omega)
def sI (x : Int32) : Nat := dg x.toInt.natAbs + (if x.toInt < 0 then 1 else 0)
theorem sI_le (x : Int32) : 1 ≤ sI x ∧ sI x ≤ 11 := by
  have := dg_le x.toInt.natAbs
  unfold sI
  split <;> omega
theorem sz_ok (x : Int32) : Ok (fJ6_stringSize_0f7a4 x) (fun z => z.toInt = sI x) := by
  unfold fJ6_stringSize_0f7a4
  have bx := i32b (x := x)
  have t0 : (0 : Int32).toInt = 0 := rfl
  have t1 : (1 : Int32).toInt = 1 := rfl
  refine Ok_jn (fun k wk => ?_)
  rw [wk]
  refine Ok_if (fun h => ?_) (fun h => ?_)
  · have h := i32lt h
    refine Ok_mono (sz_neg (x := x) (d := 1) (by omega) (by omega)) (fun z hz => ?_)
    rw [hz]
    unfold sI
    rw [if_pos (by omega)]
    omega
  · have h := i32nlt h
    refine Ok_nm (fun y wy => ?_)
    subst wy
    have en := neg_iv (x := x) (by omega)
    refine Ok_mono (sz_neg (x := -x) (d := 0) (by omega) (by omega)) (fun z hz => ?_)
    rw [hz, en, Int.natAbs_neg]
    unfold sI
    rw [if_neg (by omega)]
    omega
theorem szI_iv (x : Int32) : (szI x).toInt = sI x ∧ fJ6_stringSize_0f7a4 x = some (szI x) := by
  obtain ⟨z, h1, h2⟩ := sz_ok x
  have e : szI x = z := by unfold szI; rw [h1]; rfl
  rw [e]
  exact ⟨h2, h1⟩
theorem gc_loop {n4 : Nat} {s : Int} (hs : 0 ≤ s) {P : Int32 × (Nat → Int32) → Prop} {k1 : Int32 → Int32 → (Nat → Int32) → Option (Int32 × (Nat → Int32))} (hk : ∀ (x p : Int32) (f : Nat → Int32) (u : Nat), x.toInt = -(u : Int) → u < 100 → (dg u : Int) + s ≤ p.toInt → p.toInt ≤ n4 → BY f → Ok (k1 x p f) P) : ∀ (n : Nat) (x p : Int32) (f : Nat → Int32) (u : Nat), x.toInt = -(u : Int) → u ≤ 2147483648 → (dg u : Int) + s ≤ p.toInt → p.toInt ≤ n4 → BY f → dg u ≤ 2 * n → Ok (LJ6_getChars_ba4f3_L22 n4 n x p f k1) P := by
  intro n
  induction n with
  | zero => intro x p f u h1 hu h2 h3 h4 h5; have := dg_le u; omega
  | succ n ih =>
    intro x p f u h1 hu h2 h3 h4 h5
    show Ok (BJ6_getChars_ba4f3_L22 n4 x p f (fun a b c => LJ6_getChars_ba4f3_L22 n4 n a b c k1) k1) P
    unfold BJ6_getChars_ba4f3_L22
    have t : (-100 : Int32).toInt = -100 := rfl
    have t100 : (100 : Int32).toInt = 100 := rfl
    refine Ok_if (fun h => ?_) (fun h => ?_)
    · have h := i32lt h
      exact hk x p f u h1 (by omega) h2 h3 h4
    · have h := i32nlt h
      have hd := dg_div (u := u) (by omega) hu
      have hq := div100 h1
      have h6 := dg_le (u / 100)
      have hp : 3 ≤ p.toInt := by omega
      obtain ⟨p1, w1⟩ : ∃ p1, p1 = p + (-1 : Int32) := ⟨_, rfl⟩
      have e1 : p1.toInt = p.toInt - 1 := by rw [w1]; exact decp_iv (by clear w1; omega)
      obtain ⟨p2, w2⟩ : ∃ p2, p2 = p1 + (-1 : Int32) := ⟨_, rfl⟩
      have e2 : p2.toInt = p1.toInt - 1 := by rw [w2]; exact decp_iv (by clear w1 w2; omega)
      obtain ⟨v, hv⟩ : ∃ v, v = u / 100 := ⟨_, rfl⟩
      rw [← hv] at hq h6 hd
      have hv2 : v * 100 ≤ u ∧ u < v * 100 + 100 := by clear hq w1 w2; omega
      rw [← w1, ← w2]
      clear w1 w2
      refine Ok_nm (fun q wq => ?_)
      rw [← wq] at hq
      clear wq
      refine Ok_nm (fun r wr => ?_)
      have hr : r.toInt = u - v * 100 := by rw [wr]; exact rem100 hq h1 hv2 hu
      clear wr
      refine Ok_inB (vp_of (by omega) (by omega)) (Ok_inB (vp_of (by omega) (by omega)) (Ok_inB (vp_of (by omega) (by omega)) (Ok_inB (vp_of (by omega) (by omega)) ?_)))
      exact ih _ _ _ v hq (by omega) (by omega) (by omega) (BY_upd (BY_upd h4 _ _) _ _) (by omega)
theorem gc_end {n4 : Nat} {s : Int} (hs : 0 ≤ s ∧ s ≤ 1) {i8 : Int32} (hi : s = 0 ↔ i8 = 0) {x p : Int32} {f : Nat → Int32} {u : Nat} (h1 : x.toInt = -(u : Int)) (h2 : u < 100) (h3 : (dg u : Int) + s ≤ p.toInt) (h4 : p.toInt ≤ n4) (h5 : BY f) : Ok (inB (-x) 100 (inB (p + (-1 : Int32)) n4 (jn (fun (a : Int32) (g : Nat → Int32) => if i8 = (0 : Int32) then (some (a, g)) else (inB (a + (-1 : Int32)) n4 (some (a + (-1 : Int32), upd g (a + (-1 : Int32)).toNatClampNeg (vp_nar .byte (45 : Int32)))))) (fun (k : Int32 → (Nat → Int32) → Option (Int32 × (Nat → Int32))) => if (-9 : Int32) ≤ x then (k (p + (-1 : Int32)) (upd f (p + (-1 : Int32)).toNatClampNeg (vp_nar .byte (nI (48 + (-x).toNatClampNeg % 10))))) else (inB (-x) 100 (inB ((p + (-1 : Int32)) + (-1 : Int32)) n4 (k ((p + (-1 : Int32)) + (-1 : Int32)) (upd (upd f (p + (-1 : Int32)).toNatClampNeg (vp_nar .byte (nI (48 + (-x).toNatClampNeg % 10)))) ((p + (-1 : Int32)) + (-1 : Int32)).toNatClampNeg (vp_nar .byte (nI (48 + (-x).toNatClampNeg / 10))))))))))) (fun z => BY z.2) := by
  have hd := dg_le u
  obtain ⟨y, wy⟩ : ∃ y, y = -x := ⟨_, rfl⟩
  have en : y.toInt = u := by rw [wy, neg_iv (by omega)]; omega
  obtain ⟨p1, w1⟩ : ∃ p1, p1 = p + (-1 : Int32) := ⟨_, rfl⟩
  have e1 : p1.toInt = p.toInt - 1 := by rw [w1]; exact decp_iv (by clear w1 wy; omega)
  obtain ⟨p2, w2⟩ : ∃ p2, p2 = p1 + (-1 : Int32) := ⟨_, rfl⟩
  have e2 : p2.toInt = p1.toInt - 1 := by rw [w2]; exact decp_iv (by clear w1 w2 wy; omega)
  rw [← wy, ← w1, ← w2]
  clear wy w1 w2
  have t9 : (-9 : Int32).toInt = -9 := rfl
  have fin : ∀ (a : Int32) (g : Nat → Int32), s ≤ a.toInt → a.toInt ≤ n4 → BY g → Ok (if i8 = (0 : Int32) then (some (a, g)) else (inB (a + (-1 : Int32)) n4 (some (a + (-1 : Int32), upd g (a + (-1 : Int32)).toNatClampNeg (vp_nar .byte (45 : Int32)))))) (fun z => BY z.2) := by
    intro a g q1 q2 q3
    refine Ok_if (fun _ => Ok_some q3) (fun h => ?_)
    have hs1 : s ≠ 0 := fun e => h (hi.mp e)
    obtain ⟨a1, wa⟩ : ∃ a1, a1 = a + (-1 : Int32) := ⟨_, rfl⟩
    have e3 : a1.toInt = a.toInt - 1 := by rw [wa]; exact decp_iv (by clear wa; omega)
    rw [← wa]
    clear wa
    exact Ok_inB (vp_of (by omega) (by omega)) (Ok_some (BY_upd q3 _ _))
  refine Ok_inB (vp_of (by omega) (by omega)) (Ok_inB (vp_of (by omega) (by omega)) (Ok_jn (fun k wk => ?_)))
  rw [wk]
  refine Ok_if (fun h => ?_) (fun h => ?_)
  · have h := i32le h
    exact fin _ _ (by omega) (by omega) (BY_upd h5 _ _)
  · have h := i32nle h
    have hd2 : dg u = 2 := by unfold dg; rw [if_neg (by omega), if_pos (by omega)]
    exact Ok_inB (vp_of (by omega) (by omega)) (Ok_inB (vp_of (by omega) (by omega)) (fin _ _ (by omega) (by omega) (BY_upd (BY_upd h5 _ _) _ _)))
theorem gc_loop_1 {n4 : Nat} {s : Int} (hs : 0 ≤ s) {P : Int32 × (Nat → Int32) → Prop} {k1 : Int32 → Int32 → (Nat → Int32) → Option (Int32 × (Nat → Int32))} (hk : ∀ (x p : Int32) (f : Nat → Int32) (u : Nat), x.toInt = -(u : Int) → u < 100 → (dg u : Int) + s ≤ p.toInt → p.toInt ≤ n4 → BY f → Ok (k1 x p f) P) : ∀ (n : Nat) (x p : Int32) (f : Nat → Int32) (u : Nat), x.toInt = -(u : Int) → u ≤ 2147483648 → (dg u : Int) + s ≤ p.toInt → p.toInt ≤ n4 → BY f → dg u ≤ 2 * n → Ok (LJ6_getChars_ba4f3_L22_1 n4 n x p f k1) P := by
  intro n
  induction n with
  | zero => intro x p f u h1 hu h2 h3 h4 h5; have := dg_le u; omega
  | succ n ih =>
    intro x p f u h1 hu h2 h3 h4 h5
    show Ok (BJ6_getChars_ba4f3_L22_1 n4 x p f (fun a b c => LJ6_getChars_ba4f3_L22_1 n4 n a b c k1) k1) P
    unfold BJ6_getChars_ba4f3_L22_1
    have t : (-100 : Int32).toInt = -100 := rfl
    have t100 : (100 : Int32).toInt = 100 := rfl
    refine Ok_if (fun h => ?_) (fun h => ?_)
    · have h := i32lt h
      exact hk x p f u h1 (by omega) h2 h3 h4
    · have h := i32nlt h
      have hd := dg_div (u := u) (by omega) hu
      have hq := div100 h1
      have h6 := dg_le (u / 100)
      have hp : 3 ≤ p.toInt := by omega
      obtain ⟨p1, w1⟩ : ∃ p1, p1 = p + (-1 : Int32) := ⟨_, rfl⟩
      have e1 : p1.toInt = p.toInt - 1 := by rw [w1]; exact decp_iv (by clear w1; omega)
      obtain ⟨p2, w2⟩ : ∃ p2, p2 = p1 + (-1 : Int32) := ⟨_, rfl⟩
      have e2 : p2.toInt = p1.toInt - 1 := by rw [w2]; exact decp_iv (by clear w1 w2; omega)
      obtain ⟨v, hv⟩ : ∃ v, v = u / 100 := ⟨_, rfl⟩
      rw [← hv] at hq h6 hd
      have hv2 : v * 100 ≤ u ∧ u < v * 100 + 100 := by clear hq w1 w2; omega
      rw [← w1, ← w2]
      clear w1 w2
      refine Ok_nm (fun q wq => ?_)
      rw [← wq] at hq
      clear wq
      refine Ok_nm (fun r wr => ?_)
      have hr : r.toInt = u - v * 100 := by rw [wr]; exact rem100 hq h1 hv2 hu
      clear wr
      refine Ok_inB (vp_of (by omega) (by omega)) (Ok_inB (vp_of (by omega) (by omega)) (Ok_inB (vp_of (by omega) (by omega)) (Ok_inB (vp_of (by omega) (by omega)) ?_)))
      exact ih _ _ _ v hq (by omega) (by omega) (by omega) (BY_upd (BY_upd h4 _ _) _ _) (by omega)
theorem gc_end_1 {n4 : Nat} {s : Int} (hs : 0 ≤ s ∧ s ≤ 1) {i8 : Int32} (hi : s = 0 ↔ i8 = 0) {x p : Int32} {f : Nat → Int32} {u : Nat} (h1 : x.toInt = -(u : Int)) (h2 : u < 100) (h3 : (dg u : Int) + s ≤ p.toInt) (h4 : p.toInt ≤ n4) (h5 : BY f) : Ok (inB (-x) 100 (inB (p + (-1 : Int32)) n4 (jn (fun (a : Int32) (g : Nat → Int32) => if i8 = (0 : Int32) then (some (a, g)) else (inB (a + (-1 : Int32)) n4 (some (a + (-1 : Int32), upd g (a + (-1 : Int32)).toNatClampNeg (vp_nar .byte (45 : Int32)))))) (fun (k : Int32 → (Nat → Int32) → Option (Int32 × (Nat → Int32))) => if (-9 : Int32) ≤ x then (k (p + (-1 : Int32)) (upd f (p + (-1 : Int32)).toNatClampNeg (vp_nar .byte (nI (48 + (-x).toNatClampNeg % 10))))) else (inB (-x) 100 (inB ((p + (-1 : Int32)) + (-1 : Int32)) n4 (k ((p + (-1 : Int32)) + (-1 : Int32)) (upd (upd f (p + (-1 : Int32)).toNatClampNeg (vp_nar .byte (nI (48 + (-x).toNatClampNeg % 10)))) ((p + (-1 : Int32)) + (-1 : Int32)).toNatClampNeg (vp_nar .byte (nI (48 + (-x).toNatClampNeg / 10))))))))))) (fun z => BY z.2) := by
  have hd := dg_le u
  obtain ⟨y, wy⟩ : ∃ y, y = -x := ⟨_, rfl⟩
  have en : y.toInt = u := by rw [wy, neg_iv (by omega)]; omega
  obtain ⟨p1, w1⟩ : ∃ p1, p1 = p + (-1 : Int32) := ⟨_, rfl⟩
  have e1 : p1.toInt = p.toInt - 1 := by rw [w1]; exact decp_iv (by clear w1 wy; omega)
  obtain ⟨p2, w2⟩ : ∃ p2, p2 = p1 + (-1 : Int32) := ⟨_, rfl⟩
  have e2 : p2.toInt = p1.toInt - 1 := by rw [w2]; exact decp_iv (by clear w1 w2 wy; omega)
  rw [← wy, ← w1, ← w2]
  clear wy w1 w2
  have t9 : (-9 : Int32).toInt = -9 := rfl
  have fin : ∀ (a : Int32) (g : Nat → Int32), s ≤ a.toInt → a.toInt ≤ n4 → BY g → Ok (if i8 = (0 : Int32) then (some (a, g)) else (inB (a + (-1 : Int32)) n4 (some (a + (-1 : Int32), upd g (a + (-1 : Int32)).toNatClampNeg (vp_nar .byte (45 : Int32)))))) (fun z => BY z.2) := by
    intro a g q1 q2 q3
    refine Ok_if (fun _ => Ok_some q3) (fun h => ?_)
    have hs1 : s ≠ 0 := fun e => h (hi.mp e)
    obtain ⟨a1, wa⟩ : ∃ a1, a1 = a + (-1 : Int32) := ⟨_, rfl⟩
    have e3 : a1.toInt = a.toInt - 1 := by rw [wa]; exact decp_iv (by clear wa; omega)
    rw [← wa]
    clear wa
    exact Ok_inB (vp_of (by omega) (by omega)) (Ok_some (BY_upd q3 _ _))
  refine Ok_inB (vp_of (by omega) (by omega)) (Ok_inB (vp_of (by omega) (by omega)) (Ok_jn (fun k wk => ?_)))
  rw [wk]
  refine Ok_if (fun h => ?_) (fun h => ?_)
  · have h := i32le h
    exact fin _ _ (by omega) (by omega) (BY_upd h5 _ _)
  · have h := i32nle h
    have hd2 : dg u = 2 := by unfold dg; rw [if_neg (by omega), if_pos (by omega)]
    exact Ok_inB (vp_of (by omega) (by omega)) (Ok_inB (vp_of (by omega) (by omega)) (fin _ _ (by omega) (by omega) (BY_upd (BY_upd h5 _ _) _ _)))
theorem ok_getChars {n4 : Nat} (hn : n4 ≤ 100000) {f : Nat → Int32} {x p : Int32} (h1 : (sI x : Int) ≤ p.toInt) (h2 : p.toInt ≤ n4) (hB : BY f) : Ok (fJ6_getChars_ba4f3 n4 f x p) (fun z => BY z.2) := by
  unfold fJ6_getChars_ba4f3
  have bx := i32b (x := x)
  have t0 : (0 : Int32).toInt = 0 := rfl
  refine Ok_jn (fun k wk => ?_)
  rw [wk]
  refine Ok_if (fun h => ?_) (fun h => ?_)
  · have h := i32le h
    refine Ok_if (fun _ => ?_) (fun g => absurd rfl g)
    refine Ok_nm (fun y wy => ?_)
    subst wy
    have en := neg_iv (x := x) (by omega)
    have hs : sI x = dg x.toInt.natAbs := by unfold sI; rw [if_neg (by omega)]; omega
    have hd := dg_le x.toInt.natAbs
    exact gc_loop_1 (s := 0) (by omega) (fun a b c u g1 g2 g3 g4 g5 => gc_end_1 (s := 0) (by omega) (by constructor <;> intro _ <;> rfl) g1 g2 g3 g4 g5) 12 (-x) p f x.toInt.natAbs (by omega) (by omega) (by omega) h2 hB (by omega)
  · have h := i32nle h
    refine Ok_if (fun g => absurd g (by decide)) (fun _ => ?_)
    have hs : sI x = dg x.toInt.natAbs + 1 := by unfold sI; rw [if_pos (by omega)]
    have hd := dg_le x.toInt.natAbs
    exact gc_loop (s := 1) (by omega) (fun a b c u g1 g2 g3 g4 g5 => gc_end (s := 1) (by omega) (by constructor <;> intro q <;> first | omega | exact absurd q (by decide)) g1 g2 g3 g4 g5) 12 x p f x.toInt.natAbs (by omega) (by omega) (by omega) h2 hB (by omega)
def TS (n : Nat) (c : Int32) (f : Nat → Int32) (m : Int) : Prop := ((14 ≤ n ∧ n ≤ 26700) ∧ c.toInt ≤ n) ∧ (0 ≤ c.toInt ∧ c.toInt ≤ m) ∧ BY f
theorem TS.le {n : Nat} {c : Int32} {f : Nat → Int32} {m m' : Int} (h : TS n c f m) (hm : m ≤ m') : TS n c f m' := ⟨h.1, ⟨h.2.1.1, Int.le_trans h.2.1.2 hm⟩, h.2.2⟩
theorem tsC {n : Nat} {c x : Int32} {f : Nat → Int32} {m : Int} (h : TS n c f m) (hm : m ≤ 13290) (hx : x.toInt ≤ 255) : (n ≤ capE n (c + 1) ∧ capE n (c + 1) ≤ 27000) ∧ Ok (fJ4_append_cf468 c n f x (capE n (c + 1))) (fun z => z.1 = c + 1 ∧ TS (capE n (c + 1)) z.1 z.2 (m + 1)) := by
  obtain ⟨⟨⟨h1, h2⟩, hcn⟩, ⟨h3, h4⟩, h5⟩ := h
  have e := inc_iv (x := c) (by omega)
  obtain ⟨k1, k2, k3, -, -, -⟩ := capE_ok (m := c + 1) h1 h2 (by omega) (by omega)
  exact ⟨⟨k1, by omega⟩, Ok_mono (ok_appC h1 h2 h3 (by omega) h5 hx rfl) (fun z hz => ⟨hz.1, ⟨⟨by omega, k2⟩, by rw [hz.1]; omega⟩, ⟨by rw [hz.1]; omega, by rw [hz.1]; omega⟩, hz.2⟩)⟩
theorem tsI {n : Nat} {c : Int32} {f : Nat → Int32} {m : Int} (x : Int32) (h : TS n c f m) (hm : m ≤ 13289) : (n ≤ capE n (c + szI x) ∧ capE n (c + szI x) ≤ 27000) ∧ Ok (fJ4_append_bf812 c n f x (capE n (c + szI x))) (fun z => z.1 = c + szI x ∧ TS (capE n (c + szI x)) z.1 z.2 (m + 11)) := by
  obtain ⟨⟨⟨h1, h2⟩, hcn⟩, ⟨h3, h4⟩, h5⟩ := h
  obtain ⟨hz1, hz2⟩ := szI_iv x
  have hs := sI_le x
  have e : (c + szI x).toInt = c.toInt + sI x := by rw [add_iv (by omega) (by omega), hz1]
  obtain ⟨k1, k2, k3, -, -, -⟩ := capE_ok (m := c + szI x) h1 h2 (by omega) (by omega)
  refine ⟨⟨k1, by omega⟩, ?_⟩
  unfold fJ4_append_bf812 fJ5_append_c97b9
  refine Ok_bind (R := fun z => z.1 = c + szI x ∧ BY z.2) ?_ (fun z hz => Ok_some ⟨hz.1, ⟨⟨by omega, k2⟩, by rw [hz.1]; omega⟩, ⟨by rw [hz.1]; omega, by rw [hz.1]; omega⟩, hz.2⟩)
  refine Ok_bind (R := fun z => z = szI x) ⟨_, hz2, rfl⟩ (fun z8 hz8 => ?_)
  subst hz8
  refine Ok_nm (fun y wy => ?_)
  subst wy
  refine Ok_bind (ok_ens h1 h2 (by omega) (by omega) h5 rfl) (fun z10 hz10 => ?_)
  refine Ok_bind (R := fun _ => True) (Ok_if (fun h => absurd h (by decide)) (fun _ => Ok_if (fun _ => Ok_some trivial) (fun h => absurd rfl h))) (fun _ _ => ?_)
  refine Ok_if (fun h => absurd h (by decide)) (fun _ => ?_)
  exact Ok_bind (ok_getChars (by omega) (by omega) (by omega) hz10) (fun z13 hz13 => Ok_some ⟨rfl, hz13⟩)
theorem ts0 {n : Nat} {f : Nat → Int32} (h1 : 14 ≤ n ∧ n ≤ 26700) (h2 : BY f) (mb c : Int32) (hc : 0 ≤ c.toInt) : Ok (fJ4_setLength_d00df mb c n f 0 n) (fun z => TS n 0 z.2 0) := by
  have e0 : (0 : Int32).toInt = 0 := rfl
  obtain ⟨k1, k2, k3, -, k5, k6⟩ := capE_ok (m := 0) h1.1 h1.2 (by omega) (by omega)
  have hz : (0 : Int32) - Int32.ofNat n ≤ 0 := by
    by_cases h : (0 : Int32) - Int32.ofNat n ≤ 0
    · exact h
    · have := k6 h; omega
  unfold fJ4_setLength_d00df fJ5_setLength_d00df
  refine Ok_bind (R := fun z => BY z.2) ?_ (fun z hz => Ok_some ⟨⟨h1, by omega⟩, ⟨by omega, by omega⟩, hz⟩)
  refine Ok_if (fun _ => ?_) (fun h => absurd (by decide) h)
  refine Ok_bind (ok_ens h1.1 h1.2 (by omega) (by omega) h2 (k5 hz).1.symm) (fun z8 hz8 => ?_)
  refine Ok_if (fun _ => Ok_if (fun _ => Ok_some hz8) (fun _ => Ok_some hz8)) (fun h => ?_)
  have h := i32nle h
  omega
theorem tsStr {n : Nat} {c : Int32} {f : Nat → Int32} {m : Int} (h : TS n c f m) (hm : m ≤ 13400) : Ok (fJ4_toString_0e30d c n f) (fun _ => True) := by
  obtain ⟨⟨⟨h1, h2⟩, hcn⟩, ⟨h3, h4⟩, h5⟩ := h
  have e0 : (0 : Int32).toInt = 0 := rfl
  have en := ofNat_iv (n := n) (by omega)
  unfold fJ4_toString_0e30d fJ0_init_81219 fJ0_init_db425
  refine Ok_bind (R := fun _ => True) (Ok_bind (R := fun _ => True) ?_ (fun z _ => Ok_some trivial)) (fun z _ => Ok_some trivial)
  refine Ok_bind (R := fun _ => True) (Ok_some trivial) (fun _ _ => ?_)
  refine Ok_bind (R := fun z => z = c) (Ok_bind (R := fun z => z = c) (Ok_some rfl) (fun z hz => Ok_some hz)) (fun z12 hz12 => ?_)
  subst hz12
  refine Ok_bind (R := fun _ => True) (Ok_if (fun h => absurd h (by decide)) (fun _ => Ok_if (fun _ => Ok_some trivial) (fun h => absurd rfl h))) (fun _ _ => ?_)
  refine Ok_if (fun h => absurd h (by decide)) (fun _ => ?_)
  refine Ok_bind (R := fun _ => True) ?_ (fun _ _ => Ok_some trivial)
  have copy : Ok ((fJ7_copyOfRangeByte_39247 n f 0 z12).bind (fun z9 => some (z9.1, z9.2))) (fun _ => True) := by
    refine Ok_bind (R := fun _ => True) ?_ (fun _ _ => Ok_some trivial)
    unfold fJ7_copyOfRangeByte_39247 fJ7_checkLength_df160
    refine Ok_bind (R := fun _ => True) (Ok_if (fun _ => Ok_some trivial) (fun h => by have h := i32nle h; omega)) (fun _ _ => ?_)
    refine Ok_nm (fun y wy => ?_)
    have ey : y.toInt = z12.toInt := by rw [wy, sub_iv (by omega) (by omega)]; omega
    have e2 : (Int32.ofNat n - (0 : Int32)).toInt = n := by rw [sub_iv (by omega) (by omega)]; omega
    have em : (if y < Int32.ofNat n - (0 : Int32) then y else Int32.ofNat n - (0 : Int32)).toInt = y.toInt := by
      split
      · rfl
      · rename_i g; have g := i32nlt g; omega
    have em2 := toNat_iv (n := y.toInt.toNat) (x := if y < Int32.ofNat n - (0 : Int32) then y else Int32.ofNat n - (0 : Int32)) (by omega)
    have ey2 := toNat_iv (n := y.toInt.toNat) (x := y) (by omega)
    have z0 : (0 : Int32).toNatClampNeg = 0 := rfl
    refine Ok_nN (by omega) (by omega) (Ok_gP ⟨by decide, by decide, ?_, by rw [em2, z0]; omega, by rw [em2, ey2, z0]; omega, fun i _ => h5 _⟩ (Ok_some trivial))
    intro g
    have g := i32lt g
    omega
  unfold fJ7_copyOfRange_39247
  refine Ok_jn (fun k wk => ?_)
  rw [wk]
  refine Ok_if (fun _ => Ok_if (fun g => ?_) (fun _ => copy)) (fun _ => copy)
  have g := i32eq g
  exact Ok_gP ⟨by omega, fun i _ => h5 i⟩ (Ok_some trivial)
