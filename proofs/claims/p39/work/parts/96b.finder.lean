/-! SETS OF PLACES, as numbers -/
def has (s : Int32) (x : Nat) : Bool := s.toBitVec.getLsbD x
theorem has_or (a b : Int32) (x : Nat) : has (a ||| b) x = (has a x || has b x) := by unfold has; rw [Int32.toBitVec_or, BitVec.getLsbD_or]
theorem has_and (a b : Int32) (x : Nat) : has (a &&& b) x = (has a x && has b x) := by unfold has; rw [Int32.toBitVec_and, BitVec.getLsbD_and]
theorem has_0 (x : Nat) : has 0 x = false := BitVec.getLsbD_zero
theorem shl_bv : ∀ k, k < 9 → ((1 : Int32) <<< (Int32.ofNat k &&& 31)).toBitVec = BitVec.twoPow 32 k := by decide +kernel
theorem smod_k : ∀ k, k < 9 → ((Int32.ofNat k &&& 31).toBitVec.smod 32).toNat = k := by decide +kernel
theorem one_bits : ∀ j, j < 32 → (1 : Int32).toBitVec.getLsbD j = decide (j = 0) := by decide +kernel
theorem ofN {i : Int32} {k : Nat} (h : i.toInt = k) (hk : k < 32) : i = Int32.ofNat k := Int32.toInt_inj.mp (by rw [h, ofNat_iv (by omega)])
theorem has_shl {i : Int32} {k x : Nat} (h : i.toInt = k) (hk : k < 9) (hx : x < 32) : has ((1 : Int32) <<< (i &&& 31)) x = decide (k = x) := by
  rw [ofN h (by omega)]
  unfold has
  rw [shl_bv k hk, BitVec.getLsbD_twoPow]
  by_cases e : k = x
  · rw [decide_eq_true e, decide_eq_true (show k < 32 by omega)]; rfl
  · rw [decide_eq_false e, Bool.and_false]
theorem and_one (v : Int32) : v &&& 1 = if has v 0 = true then 1 else 0 := by
  apply Int32.toBitVec_inj.mp
  apply BitVec.eq_of_getLsbD_eq
  intro j hj
  rw [Int32.toBitVec_and, BitVec.getLsbD_and, one_bits j hj]
  by_cases e : j = 0
  · subst e
    by_cases c : has v 0 = true
    · rw [if_pos c]
      have c2 : v.toBitVec.getLsbD 0 = true := c
      rw [c2]; rfl
    · rw [if_neg c]
      have c2 : v.toBitVec.getLsbD 0 = false := by
        have : ¬ v.toBitVec.getLsbD 0 = true := c
        simpa using this
      rw [c2]; rfl
  · rw [decide_eq_false e, Bool.and_false]
    split
    · rw [one_bits j hj, decide_eq_false e]
    · exact (has_0 j).symm
theorem has_shr {s i : Int32} {k : Nat} (h : i.toInt = k) (hk : k < 9) : has (s >>> (i &&& 31)) 0 = has s k := by
  rw [ofN h (by omega)]
  unfold has
  rw [Int32.toBitVec_shiftRight]
  show (s.toBitVec.sshiftRight ((Int32.ofNat k &&& 31).toBitVec.smod 32).toNat).getLsbD 0 = _
  rw [smod_k k hk, BitVec.getLsbD_sshiftRight, if_pos (by omega)]
  simp
theorem bit_iv {s i : Int32} {k : Nat} (h : i.toInt = k) (hk : k < 9) : ((s >>> (i &&& 31)) &&& (1 : Int32)) = if has s k = true then 1 else 0 := by
  rw [and_one, has_shr h hk]
theorem holds_iv {s i : Int32} {k : Nat} (h : i.toInt = k) (hk : k < 9) : Ok (fX6_holds s i) (fun z => z = if has s k = true then 1 else 0) := by
  unfold fX6_holds
  rw [bit_iv h hk]
  by_cases c : has s k = true
  · rw [if_pos c]
    exact Ok_if (fun _ => Ok_some rfl) (fun q => absurd rfl q)
  · rw [if_neg c]
    exact Ok_if (fun q => absurd q (by decide)) (fun _ => Ok_some rfl)
theorem and_z {a b : Int32} : (a &&& b) = 0 ↔ ∀ x, x < 32 → ¬ (has a x = true ∧ has b x = true) := by
  constructor
  · intro h x hx q
    have e := has_and a b x
    rw [h, has_0, q.1, q.2] at e
    exact absurd e (by decide)
  · intro h
    apply Int32.toBitVec_inj.mp
    apply BitVec.eq_of_getLsbD_eq
    intro j hj
    have e : has (a &&& b) j = false := by
      rw [has_and]
      have := h j hj
      cases q1 : has a j
      · rfl
      · cases q2 : has b j
        · rfl
        · exact absurd ⟨q1, q2⟩ this
    show has (a &&& b) j = has 0 j
    rw [e, has_0]
def isSet_ (s : Int32) (S : Nat → Prop) : Prop := ∀ x, x < 32 → (has s x = true ↔ S x)
theorem isSet_0 : isSet_ 0 nowhere := fun x _ => by rw [has_0]; exact ⟨fun h => absurd h (by decide), fun h => absurd h id⟩
theorem isSet_or {s i : Int32} {S : Nat → Prop} {k : Nat} (h : isSet_ s S) (hi : i.toInt = k) (hk : k < 9) : isSet_ (s ||| ((1 : Int32) <<< (i &&& 31))) (fun x => S x ∨ x = k) := by
  intro x hx
  rw [has_or, has_shl hi hk hx, Bool.or_eq_true, h x hx, decide_eq_true_eq]
  exact ⟨fun q => q.elim Or.inl (fun q => Or.inr q.symm), fun q => q.elim Or.inl (fun q => Or.inr q.symm)⟩
theorem isSet_one {i : Int32} {k : Nat} (hi : i.toInt = k) (hk : k < 9) : isSet_ ((1 : Int32) <<< (i &&& 31)) (fun x => x = k) := by
  intro x hx
  rw [has_shl hi hk hx, decide_eq_true_eq]
  exact ⟨fun q => q.symm, fun q => q.symm⟩
theorem isSet_.of {s : Int32} {S T : Nat → Prop} (h : isSet_ s S) (hT : ∀ x, x < 32 → (S x ↔ T x)) : isSet_ s T := fun x hx => (h x hx).trans (hT x hx)
/-! ways in a graph, on -/
theorem Cm.le2 {n g : Nat} {E : Nat → Nat → Prop} {A : Nat → Prop} {x k j : Nat} (h : Cm n E A g k x) (hj : k ≤ j) : Cm n E A g j x := by
  have := h.le (j - k)
  rw [show k + (j - k) = j by omega] at this
  exact this
theorem least_ex {p : Nat → Prop} : ∀ k, p k → ∃ j, j ≤ k ∧ p j ∧ ∀ i, i < j → ¬ p i := by
  intro k
  induction k using Nat.strongRecOn with
  | _ k ih =>
    intro h
    by_cases c : ∃ i, i < k ∧ p i
    · obtain ⟨i, h1, h2⟩ := c
      obtain ⟨j, j1, j2, j3⟩ := ih i h1 h2
      exact ⟨j, by omega, j2, j3⟩
    · exact ⟨k, Nat.le_refl _, h, fun i hi q => c ⟨i, hi, q⟩⟩
def exact_ (n : Nat) (E : Nat → Nat → Prop) (A : Nat → Prop) (g k x : Nat) : Prop := Cm n E A g k x ∧ ∀ i, i < k → ¬ Cm n E A g i x
theorem exact_chain {n g : Nat} {E : Nat → Nat → Prop} {A : Nat → Prop} (hg : g < n) : ∀ k x, exact_ n E A g k x → ∃ w : Nat → Nat, ∀ i, i ≤ k → exact_ n E A g i (w i) ∧ w i < n := by
  intro k
  induction k with
  | zero =>
    intro x h
    refine ⟨fun _ => x, fun i hi => ?_⟩
    have e : i = 0 := by omega
    subst e
    exact ⟨h, by have q : x = g := h.1; show x < n; omega⟩
  | succ k ih =>
    intro x h
    rcases h.1 with q | ⟨h1, h2, y, h3, h4, h5⟩
    · exact absurd q (h.2 k (by omega))
    · have hy : exact_ n E A g k y := ⟨h5, fun i hi q => h.2 (i + 1) (by omega) (Or.inr ⟨h1, h2, y, h3, h4, q⟩)⟩
      obtain ⟨w, hw⟩ := ih y hy
      refine ⟨upN w (k + 1) x, fun i hi => ?_⟩
      by_cases e : i = k + 1
      · rw [e, upN_eq]; exact ⟨h, h1⟩
      · rw [upN_ne w x e]; exact hw i (by omega)
theorem Cm.short {n g : Nat} {E : Nat → Nat → Prop} {A : Nat → Prop} (hg : g < n) {k x : Nat} (h : Cm n E A g k x) : ∃ j, j < n ∧ exact_ n E A g j x := by
  obtain ⟨j, j1, j2, j3⟩ := least_ex (p := fun k => Cm n E A g k x) k h
  have he : exact_ n E A g j x := ⟨j2, j3⟩
  obtain ⟨w, hw⟩ := exact_chain hg j x he
  have inj : ∀ a b, a < j + 1 → b < j + 1 → w a = w b → a = b := fun a b ha hb e => by
    have e1 := (hw a (by omega)).1
    have e2 := (hw b (by omega)).1
    rw [e] at e1
    rcases Nat.lt_trichotomy a b with c | c | c
    · exact absurd e1.1 (e2.2 a c)
    · exact c
    · exact absurd e2.1 (e1.2 b c)
  have := pig n (j + 1) w (fun a ha => (hw a (by omega)).2) inj
  exact ⟨j, by omega, he⟩
theorem Cm.orB {n g : Nat} {E : Nat → Nat → Prop} {A B : Nat → Prop} : ∀ k y, Cm n E A g k y → Cm n E (fun x => A x ∨ B x) g k y ∨ ∃ x, B x ∧ x < n ∧ Cm n E A g k x
  | 0, y, h => Or.inl h
  | k + 1, y, h => by
    rcases h with h | ⟨h1, h2, z, h3, h4, h5⟩
    · rcases Cm.orB k y h with q | ⟨x, x1, x0, x2⟩
      · exact Or.inl (Or.inl q)
      · exact Or.inr ⟨x, x1, x0, Or.inl x2⟩
    · rcases Cm.orB (B := B) k z h5 with q | ⟨x, x1, x0, x2⟩
      · by_cases c : B y
        · exact Or.inr ⟨y, c, h1, Or.inr ⟨h1, h2, z, h3, h4, h5⟩⟩
        · exact Or.inl (Or.inr ⟨h1, fun q2 => q2.elim h2 c, z, h3, h4, q⟩)
      · exact Or.inr ⟨x, x1, x0, Or.inl x2⟩
theorem Cm.step {n g x k : Nat} {E : Nat → Nat → Prop} {A : Nat → Prop} (h : Cm n E A g k x) (hxg : x ≠ g) : ∃ y j, y < n ∧ j < k ∧ E x y ∧ Cm n E (fun z => A z ∨ z = x) g j y := by
  obtain ⟨j, j1, j2, j3⟩ := least_ex (p := fun k => Cm n E A g k x) k h
  cases j with
  | zero => exact absurd j2 hxg
  | succ j =>
    rcases j2 with q | ⟨h1, h2, y, h3, h4, h5⟩
    · exact absurd q (j3 j (by omega))
    · rcases Cm.orB (B := fun z => z = x) j y h5 with q | ⟨z, z1, -, z2⟩
      · exact ⟨y, j, h3, by omega, h4, q⟩
      · rw [z1] at z2
        exact absurd z2 (j3 j (by omega))
theorem Cm.ofA {n g : Nat} {E : Nat → Nat → Prop} {A B : Nat → Prop} (h : ∀ x, x < n → (A x ↔ B x)) : ∀ (k x : Nat), Cm n E A g k x → Cm n E B g k x
  | 0, _, q => q
  | k + 1, x, q => by
    rcases q with q | ⟨h1, h2, y, h3, h4, h5⟩
    · exact Or.inl (Cm.ofA h k x q)
    · exact Or.inr ⟨h1, fun z => h2 ((h x h1).mpr z), y, h3, h4, Cm.ofA h k y h5⟩
theorem Cm.ofE {n g : Nat} {E E' : Nat → Nat → Prop} {A : Nat → Prop} (h : ∀ x y, x < n → y < n → (E x y ↔ E' x y)) : ∀ (k x : Nat), Cm n E A g k x → Cm n E' A g k x
  | 0, _, q => q
  | k + 1, x, q => by
    rcases q with q | ⟨h1, h2, y, h3, h4, h5⟩
    · exact Or.inl (Cm.ofE h k x q)
    · exact Or.inr ⟨h1, h2, y, h3, (h x y h1 h3).mp h4, Cm.ofE h k y h5⟩
theorem TRK.bnp {n s g K : Nat} {E : Nat → Nat → Prop} {rule : Int} {t : Nat → Nat} (h : TRK n s g E rule t K) {i : Nat} (hi : i < K) : Cm n E (bn t i) g (K - (i + 1)) (t (i + 1)) := by
  refine Cm.path h.2.1 h.2.2.2.1 h.1.2.1 (K - (i + 1)) (i + 1) (by omega) (fun j h1 h2 q => ?_)
  obtain ⟨a, a1, a2⟩ := q
  have := h.2.2.1 a j (by omega) (by omega) a2
  omega
theorem TRK.no {n s g K : Nat} {E : Nat → Nat → Prop} {rule : Int} {t : Nat → Nat} (h : TRK n s g E rule t K) : Cm n E nowhere g K s := by
  have := Cm.path (A := nowhere) h.2.1 h.2.2.2.1 h.1.2.1 K 0 (by omega) (fun _ _ _ => id)
  rw [h.1.1] at this
  exact this
theorem TRK.uni {n s g K K' : Nat} {E : Nat → Nat → Prop} {rule : Int} {t t' : Nat → Nat} (hr : 0 ≤ rule ∧ rule ≤ 2) (h : TRK n s g E rule t K) (h' : TRK n s g E rule t' K') : K = K' ∧ ∀ i, i ≤ K → t i = t' i := by
  have h0K : rule = 0 → K = K' := fun e => by
    have a := (h.2.2.2.2.1 e).1
    have b := (h'.2.2.2.2.1 e).1
    rcases Nat.lt_trichotomy K K' with c | c | c
    · exact absurd h.no (b K c)
    · exact c
    · exact absurd h'.no (a K' c)
  have step : ∀ i, i ≤ K → i ≤ K' → t i = t' i := by
    intro i
    induction i using Nat.strongRecOn with
    | _ i ih =>
      intro hi hi'
      cases i with
      | zero => rw [h.1.1, h'.1.1]
      | succ i =>
        have ei : ∀ j, j ≤ i → t j = t' j := fun j hj => ih j (by omega) (by omega) (by omega)
        have b1 : ∀ x, bn t i x ↔ bn t' i x := fun x => ⟨fun ⟨j, j1, j2⟩ => ⟨j, j1, by rw [← ei j j1]; exact j2⟩, fun ⟨j, j1, j2⟩ => ⟨j, j1, by rw [ei j j1]; exact j2⟩⟩
        have c1 := h.bnp (i := i) (by omega)
        have c2 := h'.bnp (i := i) (by omega)
        have e1 := h.2.2.2.1 i (by omega)
        have e2 := h'.2.2.2.1 i (by omega)
        have l1 := h.2.1 (i + 1) hi
        have l2 := h'.2.1 (i + 1) hi'
        rcases Nat.lt_trichotomy (t (i + 1)) (t' (i + 1)) with c | c | c
        · exfalso
          rcases (show rule = 0 ∨ rule = 1 ∨ rule = 2 by omega) with r | r | r
          · refine (h'.2.2.2.2.1 r).2 i (t (i + 1)) (by omega) l1 c (by rw [← ei i (by omega)]; exact e1) ?_
            have := Cm.anyA (B := nowhere) (fun _ q => absurd q id) _ _ c1
            rw [h0K r] at this
            exact this
          · exact h'.2.2.2.2.2.1 r i (t (i + 1)) _ (by omega) l1 c (by rw [← ei i (by omega)]; exact e1) (Cm.ofA (fun x _ => b1 x) _ _ c1)
          · exact h.2.2.2.2.2.2 r i (t' (i + 1)) _ (by omega) l2 c (by rw [ei i (by omega)]; exact e2) (Cm.ofA (fun x _ => (b1 x).symm) _ _ c2)
        · exact c
        · exfalso
          rcases (show rule = 0 ∨ rule = 1 ∨ rule = 2 by omega) with r | r | r
          · refine (h.2.2.2.2.1 r).2 i (t' (i + 1)) (by omega) l2 c (by rw [ei i (by omega)]; exact e2) ?_
            have := Cm.anyA (B := nowhere) (fun _ q => absurd q id) _ _ c2
            rw [← h0K r] at this
            exact this
          · exact h.2.2.2.2.2.1 r i (t' (i + 1)) _ (by omega) l2 c (by rw [ei i (by omega)]; exact e2) (Cm.ofA (fun x _ => (b1 x).symm) _ _ c2)
          · exact h'.2.2.2.2.2.2 r i (t (i + 1)) _ (by omega) l1 c (by rw [← ei i (by omega)]; exact e1) (Cm.ofA (fun x _ => b1 x) _ _ c1)
  have hK : K = K' := by
    rcases Nat.lt_trichotomy K K' with c | c | c
    · have e := step K (Nat.le_refl _) (by omega)
      rw [h.1.2.1, ← h'.1.2.1] at e
      have := h'.2.2.1 K' K (Nat.le_refl _) (by omega) e
      omega
    · exact c
    · have e := step K' (by omega) (Nat.le_refl _)
      rw [h'.1.2.1, ← h.1.2.1] at e
      have := h.2.2.1 K' K (by omega) (Nat.le_refl _) e
      omega
  exact ⟨hK, fun i hi => step i hi (by omega)⟩
theorem TRK.ofE {n s g K : Nat} {E E' : Nat → Nat → Prop} {rule : Int} {t : Nat → Nat} (h : TRK n s g E rule t K) (hE : ∀ x y, x < n → y < n → (E x y ↔ E' x y)) : TRK n s g E' rule t K := by
  have bk : ∀ x y, x < n → y < n → (E' x y ↔ E x y) := fun x y hx hy => (hE x y hx hy).symm
  have lt := h.2.1
  refine ⟨h.1, h.2.1, h.2.2.1, fun i hi => (hE _ _ (lt i (by omega)) (lt (i + 1) hi)).mp (h.2.2.2.1 i hi), fun e => ⟨fun k hk q => (h.2.2.2.2.1 e).1 k hk (Cm.ofE bk _ _ q), fun i p hi hp hlt hEp q => (h.2.2.2.2.1 e).2 i p hi hp hlt ((hE _ _ (lt i (by omega)) hp).mpr hEp) (Cm.ofE bk _ _ q)⟩, fun e i p k hi hp hlt hEp q => h.2.2.2.2.2.1 e i p k hi hp hlt ((hE _ _ (lt i (by omega)) hp).mpr hEp) (Cm.ofE bk _ _ q), fun e i p k hi hp hlt hEp q => h.2.2.2.2.2.2 e i p k hi hp hlt ((hE _ _ (lt i (by omega)) hp).mpr hEp) (Cm.ofE bk _ _ q)⟩
theorem ed_same {n : Nat} {R R' F F' : Nat → Int32} (hR : same R R') (hF : same F F') (hn : n ≤ 9) : ∀ x y, x < n → y < n → (ed R F x y ↔ ed R' F' x y) := fun x y hx hy => by
  unfold ed lf
  rw [hR x y (by omega) (by omega), hF x y (by omega) (by omega)]
theorem stepped_same {n s g : Nat} {R R' F F' F1 : Nat → Int32} {rule m : Int} (hR : same R R') (hF : same F F') (hn : n ≤ 9) (h : stepped n s g R rule F F1 m) : stepped n s g R' rule F' F1 m := by
  obtain ⟨t, K, hT, hm, hc⟩ := h
  refine ⟨t, K, hT.ofE (ed_same hR hF hn), ?_, carried_same hF hc⟩
  rw [hm]
  refine mnL_congr K (fun i hi => ?_)
  have a := hT.2.1 i (by omega)
  have b := hT.2.1 (i + 1) hi
  unfold lf
  rw [hR _ _ (by omega) (by omega), hF _ _ (by omega) (by omega)]
theorem tracks_same {n s g : Nat} {R R' F F' : Nat → Int32} (hR : same R R') (hF : same F F') (hn : n ≤ 9) (h : tracks n s g R F) : tracks n s g R' F' := by
  obtain ⟨k, hk⟩ := h
  exact ⟨k, Cm.ofE (ed_same hR hF hn) _ _ hk⟩
theorem stepped_uni {n s g : Nat} {R F F1 F2 : Nat → Int32} {rule m m' : Int} (hr : 0 ≤ rule ∧ rule ≤ 2) (h : stepped n s g R rule F F1 m) (h' : stepped n s g R rule F F2 m') : m = m' ∧ same F1 F2 := by
  obtain ⟨t, K, hT, hm, hc⟩ := h
  obtain ⟨t', K', hT', hm', hc'⟩ := h'
  obtain ⟨eK, et⟩ := hT.uni hr hT'
  subst eK
  have em : m = m' := by
    rw [hm, hm']
    have : ∀ k, k ≤ K → mnL (lf R F) t k = mnL (lf R F) t' k := by
      intro k
      induction k with
      | zero => intro _; rfl
      | succ k ih =>
        intro hk
        unfold mnL
        rw [ih (by omega), et k (by omega), et (k + 1) hk]
    exact this K (Nat.le_refl _)
  refine ⟨em, fun x y hx hy => ?_⟩
  rw [hc x y hx hy, hc' x y hx hy, em]
  have : ∀ k, k ≤ K → mvs t m' x y k = mvs t' m' x y k := by
    intro k
    induction k with
    | zero => intro _; rfl
    | succ k ih =>
      intro hk
      unfold mvs
      rw [ih (by omega), et k (by omega), et (k + 1) hk]
  rw [this K (Nat.le_refl _)]
theorem stepped.track {n s g : Nat} {R F F1 : Nat → Int32} {rule m : Int} (h : stepped n s g R rule F F1 m) : tracks n s g R F := by
  obtain ⟨t, K, hT, -, -⟩ := h
  exact ⟨K, hT.no⟩
theorem filled_uni {n s g : Nat} {R : Nat → Int32} {rule : Int} (hr : 0 ≤ rule ∧ rule ≤ 2) (hn : n ≤ 9) : ∀ (c c' : Nat) {F F' F1 F2 : Nat → Int32}, same F F' → filled n s g R rule c F F1 → filled n s g R rule c' F' F2 → c = c' ∧ same F1 F2
  | 0, 0, F, F', F1, F2, h, h1, h2 => ⟨rfl, by rw [h1.1, h2.1]; exact h⟩
  | 0, c' + 1, F, F', F1, F2, h, h1, h2 => by
    obtain ⟨_, _, q, -⟩ := h2
    exact absurd (tracks_same (fun _ _ _ _ => rfl) h.symm hn q.track) h1.2
  | c + 1, 0, F, F', F1, F2, h, h1, h2 => by
    obtain ⟨_, _, q, -⟩ := h1
    exact absurd (tracks_same (fun _ _ _ _ => rfl) h hn q.track) h2.2
  | c + 1, c' + 1, F, F', F1, F2, h, h1, h2 => by
    obtain ⟨A, m, q, k⟩ := h1
    obtain ⟨B, m', q', k'⟩ := h2
    have u := stepped_uni hr (stepped_same (fun _ _ _ _ => rfl) h hn q) q'
    have w := filled_uni hr hn c c' u.2 k k'
    exact ⟨by omega, w.2⟩
