/-! numbers as texts, rows as texts -/
theorem rem100 {q x : Int32} {u v : Nat} (hq : q.toInt = -(v : Int)) (hx : x.toInt = -(u : Int)) (hv : v * 100 ≤ u ∧ u < v * 100 + 100) (hu : u ≤ 2147483648) : ((q * (100 : Int32)) - x).toInt = u - v * 100 := by
  have t100 : (100 : Int32).toInt = 100 := rfl
  have hm : (q * (100 : Int32)).toInt = q.toInt * 100 := by rw [Int32.toInt_mul, t100]; exact bmod32 (by omega) (by omega)
  generalize q * (100 : Int32) = t at hm
  rw [sub_iv (by omega) (by omega)]
  omega
/-! numbers as texts, rows as texts -/
theorem div100 {x : Int32} {u : Nat} (h : x.toInt = -(u : Int)) : (x / (100 : Int32)).toInt = -((u / 100 : Nat) : Int) := by
  have t100 : (100 : Int32).toInt = 100 := rfl
  have bx := i32b (x := x)
  have e : x.toInt.tdiv 100 = -((u / 100 : Nat) : Int) := by
    rw [h, Int.neg_tdiv, Int.ofNat_tdiv]
    rfl
  rw [Int32.toInt_div, t100, e]
  exact bmod32 (by omega) (by omega)
def sI (x : Int32) : Nat := dg x.toInt.natAbs + (if x.toInt < 0 then 1 else 0)
theorem sI_le (x : Int32) : 1 ≤ sI x ∧ sI x ≤ 11 := by
  have := dg_le x.toInt.natAbs
  unfold sI
  split <;> omega
theorem sz_ok (x : Int32) : Ok (fJ6_stringSize_0f7a4 x) (fun z => z.toInt = sI x) := by
  unfold fJ6_stringSize_0f7a4
  have bx := i32b (x := x)
  have t0 : (0 : Int32).toInt = 0 := rfl
  have t1 : (1 : Int32).toInt = 1 := rfl
  refine Ok_jn (fun k wk => ?_)
  rw [wk]
  refine Ok_if (fun h => ?_) (fun h => ?_)
  · have h := i32lt h
    refine Ok_mono (sz_neg (x := x) (d := 1) (by omega) (by omega)) (fun z hz => ?_)
    rw [hz]
    unfold sI
    rw [if_pos (by omega)]
    omega
  · have h := i32nlt h
    refine Ok_nm (fun y wy => ?_)
    subst wy
    have en := neg_iv (x := x) (by omega)
    refine Ok_mono (sz_neg (x := -x) (d := 0) (by omega) (by omega)) (fun z hz => ?_)
    rw [hz, en, Int.natAbs_neg]
    unfold sI
    rw [if_neg (by omega)]
    omega
theorem szI_iv (x : Int32) : (szI x).toInt = sI x ∧ fJ6_stringSize_0f7a4 x = some (szI x) := by
  obtain ⟨z, h1, h2⟩ := sz_ok x
  have e : szI x = z := by unfold szI; rw [h1]; rfl
  rw [e]
  exact ⟨h2, h1⟩
theorem gc_loop {n4 : Nat} {s : Int} (hs : 0 ≤ s) {P : Int32 × (Nat → Int32) → Prop} {k1 : Int32 → Int32 → (Nat → Int32) → Option (Int32 × (Nat → Int32))} (hk : ∀ (x p : Int32) (f : Nat → Int32) (u : Nat), x.toInt = -(u : Int) → u < 100 → (dg u : Int) + s ≤ p.toInt → p.toInt ≤ n4 → BY f → Ok (k1 x p f) P) : ∀ (n : Nat) (x p : Int32) (f : Nat → Int32) (u : Nat), x.toInt = -(u : Int) → u ≤ 2147483648 → (dg u : Int) + s ≤ p.toInt → p.toInt ≤ n4 → BY f → dg u ≤ 2 * n → Ok (LJ6_getChars_ba4f3_L22 n4 n x p f k1) P := by
  intro n
  induction n with
  | zero => intro x p f u h1 hu h2 h3 h4 h5; have := dg_le u; omega
  | succ n ih =>
    intro x p f u h1 hu h2 h3 h4 h5
    show Ok (BJ6_getChars_ba4f3_L22 n4 x p f (fun a b c => LJ6_getChars_ba4f3_L22 n4 n a b c k1) k1) P
    unfold BJ6_getChars_ba4f3_L22
    have t : (-100 : Int32).toInt = -100 := rfl
    have t100 : (100 : Int32).toInt = 100 := rfl
    refine Ok_if (fun h => ?_) (fun h => ?_)
    · have h := i32lt h
      exact hk x p f u h1 (by omega) h2 h3 h4
    · have h := i32nlt h
      have hd := dg_div (u := u) (by omega) hu
      have hq := div100 h1
      have h6 := dg_le (u / 100)
      have hp : 3 ≤ p.toInt := by omega
      obtain ⟨p1, w1⟩ : ∃ p1, p1 = p + (-1 : Int32) := ⟨_, rfl⟩
      have e1 : p1.toInt = p.toInt - 1 := by rw [w1]; exact decp_iv (by clear w1; omega)
      obtain ⟨p2, w2⟩ : ∃ p2, p2 = p1 + (-1 : Int32) := ⟨_, rfl⟩
      have e2 : p2.toInt = p1.toInt - 1 := by rw [w2]; exact decp_iv (by clear w1 w2; omega)
      obtain ⟨v, hv⟩ : ∃ v, v = u / 100 := ⟨_, rfl⟩
      rw [← hv] at hq h6 hd
      have hv2 : v * 100 ≤ u ∧ u < v * 100 + 100 := by clear hq w1 w2; omega
      rw [← w1, ← w2]
      clear w1 w2
      refine Ok_nm (fun q wq => ?_)
      rw [← wq] at hq
      clear wq
      refine Ok_nm (fun r wr => ?_)
      have hr : r.toInt = u - v * 100 := by rw [wr]; exact rem100 hq h1 hv2 hu
      clear wr
      refine Ok_inB (vp_of (by omega) (by omega)) (Ok_inB (vp_of (by omega) (by omega)) (Ok_inB (vp_of (by omega) (by omega)) (Ok_inB (vp_of (by omega) (by omega)) ?_)))
      exact ih _ _ _ v hq (by omega) (by omega) (by omega) (BY_upd (BY_upd h4 _ _) _ _) (by omega)
theorem gc_end {n4 : Nat} {s : Int} (hs : 0 ≤ s ∧ s ≤ 1) {i8 : Int32} (hi : s = 0 ↔ i8 = 0) {x p : Int32} {f : Nat → Int32} {u : Nat} (h1 : x.toInt = -(u : Int)) (h2 : u < 100) (h3 : (dg u : Int) + s ≤ p.toInt) (h4 : p.toInt ≤ n4) (h5 : BY f) : Ok (inB (-x) 100 (inB (p + (-1 : Int32)) n4 (jn (fun (a : Int32) (g : Nat → Int32) => if i8 = (0 : Int32) then (some (a, g)) else (inB (a + (-1 : Int32)) n4 (some (a + (-1 : Int32), upd g (a + (-1 : Int32)).toNatClampNeg (vp_nar .byte (45 : Int32)))))) (fun (k : Int32 → (Nat → Int32) → Option (Int32 × (Nat → Int32))) => if (-9 : Int32) ≤ x then (k (p + (-1 : Int32)) (upd f (p + (-1 : Int32)).toNatClampNeg (vp_nar .byte (nI (48 + (-x).toNatClampNeg % 10))))) else (inB (-x) 100 (inB ((p + (-1 : Int32)) + (-1 : Int32)) n4 (k ((p + (-1 : Int32)) + (-1 : Int32)) (upd (upd f (p + (-1 : Int32)).toNatClampNeg (vp_nar .byte (nI (48 + (-x).toNatClampNeg % 10)))) ((p + (-1 : Int32)) + (-1 : Int32)).toNatClampNeg (vp_nar .byte (nI (48 + (-x).toNatClampNeg / 10))))))))))) (fun z => BY z.2) := by
  have hd := dg_le u
  obtain ⟨y, wy⟩ : ∃ y, y = -x := ⟨_, rfl⟩
  have en : y.toInt = u := by rw [wy, neg_iv (by omega)]; omega
  obtain ⟨p1, w1⟩ : ∃ p1, p1 = p + (-1 : Int32) := ⟨_, rfl⟩
  have e1 : p1.toInt = p.toInt - 1 := by rw [w1]; exact decp_iv (by clear w1 wy; omega)
  obtain ⟨p2, w2⟩ : ∃ p2, p2 = p1 + (-1 : Int32) := ⟨_, rfl⟩
  have e2 : p2.toInt = p1.toInt - 1 := by rw [w2]; exact decp_iv (by clear w1 w2 wy; omega)
  rw [← wy, ← w1, ← w2]
  clear wy w1 w2
  have t9 : (-9 : Int32).toInt = -9 := rfl
  have fin : ∀ (a : Int32) (g : Nat → Int32), s ≤ a.toInt → a.toInt ≤ n4 → BY g → Ok (if i8 = (0 : Int32) then (some (a, g)) else (inB (a + (-1 : Int32)) n4 (some (a + (-1 : Int32), upd g (a + (-1 : Int32)).toNatClampNeg (vp_nar .byte (45 : Int32)))))) (fun z => BY z.2) := by
    intro a g q1 q2 q3
    refine Ok_if (fun _ => Ok_some q3) (fun h => ?_)
    have hs1 : s ≠ 0 := fun e => h (hi.mp e)
    obtain ⟨a1, wa⟩ : ∃ a1, a1 = a + (-1 : Int32) := ⟨_, rfl⟩
    have e3 : a1.toInt = a.toInt - 1 := by rw [wa]; exact decp_iv (by clear wa; omega)
    rw [← wa]
    clear wa
    exact Ok_inB (vp_of (by omega) (by omega)) (Ok_some (BY_upd q3 _ _))
  refine Ok_inB (vp_of (by omega) (by omega)) (Ok_inB (vp_of (by omega) (by omega)) (Ok_jn (fun k wk => ?_)))
  rw [wk]
  refine Ok_if (fun h => ?_) (fun h => ?_)
  · have h := i32le h
    exact fin _ _ (by omega) (by omega) (BY_upd h5 _ _)
  · have h := i32nle h
    have hd2 : dg u = 2 := by unfold dg; rw [if_neg (by omega), if_pos (by omega)]
    exact Ok_inB (vp_of (by omega) (by omega)) (Ok_inB (vp_of (by omega) (by omega)) (fin _ _ (by omega) (by omega) (BY_upd (BY_upd h5 _ _) _ _)))
theorem gc_loop_1 {n4 : Nat} {s : Int} (hs : 0 ≤ s) {P : Int32 × (Nat → Int32) → Prop} {k1 : Int32 → Int32 → (Nat → Int32) → Option (Int32 × (Nat → Int32))} (hk : ∀ (x p : Int32) (f : Nat → Int32) (u : Nat), x.toInt = -(u : Int) → u < 100 → (dg u : Int) + s ≤ p.toInt → p.toInt ≤ n4 → BY f → Ok (k1 x p f) P) : ∀ (n : Nat) (x p : Int32) (f : Nat → Int32) (u : Nat), x.toInt = -(u : Int) → u ≤ 2147483648 → (dg u : Int) + s ≤ p.toInt → p.toInt ≤ n4 → BY f → dg u ≤ 2 * n → Ok (LJ6_getChars_ba4f3_L22_1 n4 n x p f k1) P := by
  intro n
  induction n with
  | zero => intro x p f u h1 hu h2 h3 h4 h5; have := dg_le u; omega
  | succ n ih =>
    intro x p f u h1 hu h2 h3 h4 h5
    show Ok (BJ6_getChars_ba4f3_L22_1 n4 x p f (fun a b c => LJ6_getChars_ba4f3_L22_1 n4 n a b c k1) k1) P
    unfold BJ6_getChars_ba4f3_L22_1
    have t : (-100 : Int32).toInt = -100 := rfl
    have t100 : (100 : Int32).toInt = 100 := rfl
    refine Ok_if (fun h => ?_) (fun h => ?_)
    · have h := i32lt h
      exact hk x p f u h1 (by omega) h2 h3 h4
    · have h := i32nlt h
      have hd := dg_div (u := u) (by omega) hu
      have hq := div100 h1
      have h6 := dg_le (u / 100)
      have hp : 3 ≤ p.toInt := by omega
      obtain ⟨p1, w1⟩ : ∃ p1, p1 = p + (-1 : Int32) := ⟨_, rfl⟩
      have e1 : p1.toInt = p.toInt - 1 := by rw [w1]; exact decp_iv (by clear w1; omega)
      obtain ⟨p2, w2⟩ : ∃ p2, p2 = p1 + (-1 : Int32) := ⟨_, rfl⟩
      have e2 : p2.toInt = p1.toInt - 1 := by rw [w2]; exact decp_iv (by clear w1 w2; omega)
      obtain ⟨v, hv⟩ : ∃ v, v = u / 100 := ⟨_, rfl⟩
      rw [← hv] at hq h6 hd
      have hv2 : v * 100 ≤ u ∧ u < v * 100 + 100 := by clear hq w1 w2; omega
      rw [← w1, ← w2]
      clear w1 w2
      refine Ok_nm (fun q wq => ?_)
      rw [← wq] at hq
      clear wq
      refine Ok_nm (fun r wr => ?_)
      have hr : r.toInt = u - v * 100 := by rw [wr]; exact rem100 hq h1 hv2 hu
      clear wr
      refine Ok_inB (vp_of (by omega) (by omega)) (Ok_inB (vp_of (by omega) (by omega)) (Ok_inB (vp_of (by omega) (by omega)) (Ok_inB (vp_of (by omega) (by omega)) ?_)))
      exact ih _ _ _ v hq (by omega) (by omega) (by omega) (BY_upd (BY_upd h4 _ _) _ _) (by omega)
theorem gc_end_1 {n4 : Nat} {s : Int} (hs : 0 ≤ s ∧ s ≤ 1) {i8 : Int32} (hi : s = 0 ↔ i8 = 0) {x p : Int32} {f : Nat → Int32} {u : Nat} (h1 : x.toInt = -(u : Int)) (h2 : u < 100) (h3 : (dg u : Int) + s ≤ p.toInt) (h4 : p.toInt ≤ n4) (h5 : BY f) : Ok (inB (-x) 100 (inB (p + (-1 : Int32)) n4 (jn (fun (a : Int32) (g : Nat → Int32) => if i8 = (0 : Int32) then (some (a, g)) else (inB (a + (-1 : Int32)) n4 (some (a + (-1 : Int32), upd g (a + (-1 : Int32)).toNatClampNeg (vp_nar .byte (45 : Int32)))))) (fun (k : Int32 → (Nat → Int32) → Option (Int32 × (Nat → Int32))) => if (-9 : Int32) ≤ x then (k (p + (-1 : Int32)) (upd f (p + (-1 : Int32)).toNatClampNeg (vp_nar .byte (nI (48 + (-x).toNatClampNeg % 10))))) else (inB (-x) 100 (inB ((p + (-1 : Int32)) + (-1 : Int32)) n4 (k ((p + (-1 : Int32)) + (-1 : Int32)) (upd (upd f (p + (-1 : Int32)).toNatClampNeg (vp_nar .byte (nI (48 + (-x).toNatClampNeg % 10)))) ((p + (-1 : Int32)) + (-1 : Int32)).toNatClampNeg (vp_nar .byte (nI (48 + (-x).toNatClampNeg / 10))))))))))) (fun z => BY z.2) := by
  have hd := dg_le u
  obtain ⟨y, wy⟩ : ∃ y, y = -x := ⟨_, rfl⟩
  have en : y.toInt = u := by rw [wy, neg_iv (by omega)]; omega
  obtain ⟨p1, w1⟩ : ∃ p1, p1 = p + (-1 : Int32) := ⟨_, rfl⟩
  have e1 : p1.toInt = p.toInt - 1 := by rw [w1]; exact decp_iv (by clear w1 wy; omega)
  obtain ⟨p2, w2⟩ : ∃ p2, p2 = p1 + (-1 : Int32) := ⟨_, rfl⟩
  have e2 : p2.toInt = p1.toInt - 1 := by rw [w2]; exact decp_iv (by clear w1 w2 wy; omega)
  rw [← wy, ← w1, ← w2]
  clear wy w1 w2
  have t9 : (-9 : Int32).toInt = -9 := rfl
  have fin : ∀ (a : Int32) (g : Nat → Int32), s ≤ a.toInt → a.toInt ≤ n4 → BY g → Ok (if i8 = (0 : Int32) then (some (a, g)) else (inB (a + (-1 : Int32)) n4 (some (a + (-1 : Int32), upd g (a + (-1 : Int32)).toNatClampNeg (vp_nar .byte (45 : Int32)))))) (fun z => BY z.2) := by
    intro a g q1 q2 q3
    refine Ok_if (fun _ => Ok_some q3) (fun h => ?_)
    have hs1 : s ≠ 0 := fun e => h (hi.mp e)
    obtain ⟨a1, wa⟩ : ∃ a1, a1 = a + (-1 : Int32) := ⟨_, rfl⟩
    have e3 : a1.toInt = a.toInt - 1 := by rw [wa]; exact decp_iv (by clear wa; omega)
    rw [← wa]
    clear wa
    exact Ok_inB (vp_of (by omega) (by omega)) (Ok_some (BY_upd q3 _ _))
  refine Ok_inB (vp_of (by omega) (by omega)) (Ok_inB (vp_of (by omega) (by omega)) (Ok_jn (fun k wk => ?_)))
  rw [wk]
  refine Ok_if (fun h => ?_) (fun h => ?_)
  · have h := i32le h
    exact fin _ _ (by omega) (by omega) (BY_upd h5 _ _)
  · have h := i32nle h
    have hd2 : dg u = 2 := by unfold dg; rw [if_neg (by omega), if_pos (by omega)]
    exact Ok_inB (vp_of (by omega) (by omega)) (Ok_inB (vp_of (by omega) (by omega)) (fin _ _ (by omega) (by omega) (BY_upd (BY_upd h5 _ _) _ _)))
