/-! the rows of a method's code, decoded by one pass over its bytes -/
section DEC
variable {α β : Type}
def ckRb (c : ByteArray) (d : Nat) (m : List UInt8) : Prop := ∀ i b, m[i]? = some b → c.data.toList[d + i]? = some b
theorem ckRb_pre {c : ByteArray} {d : Nat} {m r : List UInt8} (h : ckRb c d (m ++ r)) : ckRb c d m := fun i b e => by
  refine h i b ?_
  obtain ⟨hl, -⟩ := List.getElem?_eq_some_iff.mp e
  rw [List.getElem?_append_left hl]
  exact e
theorem ckRb_suf {c : ByteArray} {d : Nat} {m r : List UInt8} (h : ckRb c d (m ++ r)) : ckRb c (d + m.length) r := fun i b e => by
  have q := h (m.length + i) b (by rw [List.getElem?_append_right (by omega), show m.length + i - m.length = i by omega]; exact e)
  rw [Nat.add_assoc]
  exact q
theorem ckRb_drop (c : ByteArray) (s : Nat) : ckRb c s (c.data.toList.drop s) := fun i b e => by
  rw [List.getElem?_drop] at e
  exact e
def shR (r r' : Jvm.ClassFile.Decoder α) : Prop := ∀ (c : ByteArray) (m : List UInt8) (d p : Nat), ckRb c d m → ∀ x p', Jvm.ClassFile.Reader.runAt r' ⟨⟨m⟩⟩ p = .ok (x, p') → Jvm.ClassFile.Reader.runAt r c (d + p) = .ok (x, d + p')
theorem runAt_pure (a : α) (c : ByteArray) (p : Nat) : Jvm.ClassFile.Reader.runAt (pure a : Jvm.ClassFile.Decoder α) c p = .ok (a, p) := rfl
theorem runAt_bind (r : Jvm.ClassFile.Decoder α) (f : α → Jvm.ClassFile.Decoder β) (c : ByteArray) (p : Nat) : Jvm.ClassFile.Reader.runAt (r >>= f) c p = (Jvm.ClassFile.Reader.runAt r c p).bind (fun q => Jvm.ClassFile.Reader.runAt (f q.1) c q.2) := rfl
theorem runAt_map (r : Jvm.ClassFile.Decoder α) (f : α → β) (c : ByteArray) (p : Nat) : Jvm.ClassFile.Reader.runAt (f <$> r) c p = (Jvm.ClassFile.Reader.runAt r c p).bind (fun q => .ok (f q.1, q.2)) := by
  show Jvm.ClassFile.Reader.runAt (f <$> r) c p = _
  cases h : Jvm.ClassFile.Reader.runAt r c p with
  | error e =>
    have h' : r c p = .error e := h
    show (f <$> r) c p = _
    have k : (f <$> r) c p = (f <$> (r c)) p := rfl
    rw [k]
    show StateT.map f (r c) p = _
    unfold StateT.map
    rw [h']
    rfl
  | ok q =>
    have h' : r c p = .ok q := h
    show (f <$> r) c p = _
    have k : (f <$> r) c p = (f <$> (r c)) p := rfl
    rw [k]
    show StateT.map f (r c) p = _
    unfold StateT.map
    rw [h']
    rfl
theorem shR_pure (a : α) : shR (pure a) (pure a) := by
  intro c m d p _ x p' e
  rw [runAt_pure] at e ⊢
  cases e
  rfl
theorem shR_bind {r r' : Jvm.ClassFile.Decoder α} {f f' : α → Jvm.ClassFile.Decoder β} (h1 : shR r r') (h2 : ∀ a, shR (f a) (f' a)) : shR (r >>= f) (r' >>= f') := by
  intro c m d p hb x p' e
  rw [runAt_bind] at e ⊢
  cases h : Jvm.ClassFile.Reader.runAt r' ⟨⟨m⟩⟩ p with
  | error y => rw [h] at e; cases e
  | ok q =>
    rw [h] at e
    rw [h1 c m d p hb q.1 q.2 h]
    exact h2 q.1 c m d q.2 hb x p' e
theorem shR_map {r r' : Jvm.ClassFile.Decoder α} (f : α → β) (h1 : shR r r') : shR (f <$> r) (f <$> r') := by
  intro c m d p hb x p' e
  rw [runAt_map] at e ⊢
  cases h : Jvm.ClassFile.Reader.runAt r' ⟨⟨m⟩⟩ p with
  | error y => rw [h] at e; cases e
  | ok q =>
    rw [h] at e
    rw [h1 c m d p hb q.1 q.2 h]
    have e' : (Except.ok (f q.1, q.2) : Except Jvm.ClassFile.DecodeError (β × Nat)) = .ok (x, p') := e
    cases e'
    rfl
end DEC
theorem u1_some {c : ByteArray} {p : Nat} {b : UInt8} (h : c.data.toList[p]? = some b) : Jvm.ClassFile.Reader.runAt (Jvm.ClassFile.Reader.u1 : Jvm.ClassFile.Decoder Nat) c p = .ok (b.toNat, p + 1) := by
  obtain ⟨hl, e⟩ := List.getElem?_eq_some_iff.mp h
  have hs : p < c.size := hl
  have e2 : c[p]'hs = b := e
  have k : ∀ (A : p < c.size → Jvm.ClassFile.Decoder Nat) (B : ¬ p < c.size → Jvm.ClassFile.Decoder Nat), Jvm.ClassFile.Reader.runAt (dite (p < c.size) A B) c p = Jvm.ClassFile.Reader.runAt (A hs) c p := fun A B => by rw [dif_pos hs]
  exact (k (fun h => (do set (p + 1); pure (c[p]'h).toNat)) (fun _ => throw (Jvm.ClassFile.HasTruncated.truncated p))).trans (by rw [e2]; rfl)
theorem u1_none {c : ByteArray} {p : Nat} (h : c.data.toList[p]? = none) : ∀ q, Jvm.ClassFile.Reader.runAt (Jvm.ClassFile.Reader.u1 : Jvm.ClassFile.Decoder Nat) c p ≠ .ok q := by
  have hs : ¬ p < c.size := fun w => by
    have hl : c.data.toList.length ≤ p := List.getElem?_eq_none_iff.mp h
    exact absurd w (Nat.not_lt.mpr hl)
  intro q e
  have k : ∀ (A : p < c.size → Jvm.ClassFile.Decoder Nat) (B : ¬ p < c.size → Jvm.ClassFile.Decoder Nat), Jvm.ClassFile.Reader.runAt (dite (p < c.size) A B) c p = Jvm.ClassFile.Reader.runAt (B hs) c p := fun A B => by rw [dif_neg hs]
  have e := (k (fun h => (do set (p + 1); pure (c[p]'h).toNat)) (fun _ => throw (Jvm.ClassFile.HasTruncated.truncated p))).symm.trans e
  cases e
theorem shR_u1 : shR (Jvm.ClassFile.Reader.u1 : Jvm.ClassFile.Decoder Nat) Jvm.ClassFile.Reader.u1 := by
  intro c m d p hb x p' e
  cases h : m[p]? with
  | none => exact absurd e (u1_none (c := ⟨⟨m⟩⟩) h _)
  | some b =>
    rw [u1_some (c := ⟨⟨m⟩⟩) h] at e
    cases e
    exact u1_some (hb p b h)
theorem shR_u2 : shR (Jvm.ClassFile.Reader.u2 : Jvm.ClassFile.Decoder Nat) Jvm.ClassFile.Reader.u2 := shR_bind shR_u1 (fun _ => shR_bind shR_u1 (fun _ => shR_pure _))
theorem shR_s1 : shR (Jvm.ClassFile.Reader.s1 : Jvm.ClassFile.Decoder Int) Jvm.ClassFile.Reader.s1 := shR_map _ shR_u1
theorem shR_s2 : shR (Jvm.ClassFile.Reader.s2 : Jvm.ClassFile.Decoder Int) Jvm.ClassFile.Reader.s2 := shR_map _ shR_u2
theorem first_sh {r r' : Jvm.ClassFile.Decoder Instr} {f f' : Nat → Jvm.ClassFile.Decoder Instr} (hr : r = Jvm.ClassFile.Reader.u1 >>= f) (hr' : r' = Jvm.ClassFile.Reader.u1 >>= f') {c : ByteArray} {d : Nat} {b : UInt8} {l : List UInt8} (hb : ckRb c d (b :: l)) (hf : shR (f b.toNat) (f' b.toNat)) : ∀ x p', Jvm.ClassFile.Reader.runAt r' ⟨⟨b :: l⟩⟩ 0 = .ok (x, p') → Jvm.ClassFile.Reader.runAt r c d = .ok (x, d + p') := by
  intro x p' e
  rw [hr', runAt_bind, u1_some (c := ⟨⟨b :: l⟩⟩) (p := 0) (b := b) rfl] at e
  rw [hr, runAt_bind, u1_some (p := d) (b := b) (hb 0 b rfl)]
  exact hf c (b :: l) d 1 hb x p' e
theorem ckA_cons {P : Nat → Prop} {x : Nat} {l : List Nat} (h1 : P x) (h2 : ∀ a ∈ l, P a) : ∀ a ∈ x :: l, P a := by
  intro a ha
  rcases List.mem_cons.mp ha with h | h
  · rw [h]; exact h1
  · exact h2 a h
theorem ckA_nil {P : Nat → Prop} : ∀ a ∈ ([] : List Nat), P a := fun _ h => by cases h
def ckL : List Nat := [1, 2, 3, 4, 5, 6, 7, 8, 9, 10, 16, 17, 18, 19, 20, 21, 22, 25, 26, 27, 28, 29, 30, 31, 32, 33, 42, 43, 44, 45, 46, 51, 54, 55, 58, 59, 60, 61, 62, 63, 64, 65, 66, 75, 76, 77, 78, 79, 84, 87, 88, 89, 90, 92, 96, 97, 100, 101, 104, 105, 108, 112, 116, 120, 122, 124, 126, 128, 130, 132, 133, 145, 146, 148, 153, 154, 155, 156, 157, 158, 159, 160, 161, 162, 163, 164, 165, 166, 167, 172, 173, 176, 177, 178, 180, 181, 182, 183, 184, 187, 190, 191, 192, 193, 198, 199]
def ckM : Nat := 1228987020292805176007557252973636931137872619272640753764350
theorem ckM_mem : ∀ a, a < 256 → Nat.testBit ckM a = true → a ∈ ckL := by decide +kernel
set_option maxRecDepth 20000 in
theorem dec_sh {c : ByteArray} {d : Nat} {b : UInt8} {l : List UInt8} {ins : Instr} {n : Nat} (hb : ckRb c d (b :: l)) (ho : b.toNat ∈ ckL) (h : decode ⟨⟨b :: l⟩⟩ 0 = .ok (ins, n)) : decode c d = .ok (ins, n) := by
  have k := first_sh (r := Jvm.ClassFile.Decoder.instr d) (r' := Jvm.ClassFile.Decoder.instr 0) rfl rfl hb (by
    revert ho
    generalize b.toNat = a
    revert a
    exact ckA_cons (shR_pure _) (ckA_cons (shR_pure _) (ckA_cons (shR_pure _) (ckA_cons (shR_pure _) (ckA_cons (shR_pure _) (ckA_cons (shR_pure _) (ckA_cons (shR_pure _) (ckA_cons (shR_pure _) (ckA_cons (shR_pure _) (ckA_cons (shR_pure _) (ckA_cons (shR_bind shR_s1 (fun _ => shR_pure _)) (ckA_cons (shR_bind shR_s2 (fun _ => shR_pure _)) (ckA_cons (shR_bind shR_u1 (fun _ => shR_pure _)) (ckA_cons (shR_bind shR_u2 (fun _ => shR_pure _)) (ckA_cons (shR_bind shR_u2 (fun _ => shR_pure _)) (ckA_cons (shR_bind shR_u1 (fun _ => shR_pure _)) (ckA_cons (shR_bind shR_u1 (fun _ => shR_pure _)) (ckA_cons (shR_bind shR_u1 (fun _ => shR_pure _)) (ckA_cons (shR_pure _) (ckA_cons (shR_pure _) (ckA_cons (shR_pure _) (ckA_cons (shR_pure _) (ckA_cons (shR_pure _) (ckA_cons (shR_pure _) (ckA_cons (shR_pure _) (ckA_cons (shR_pure _) (ckA_cons (shR_pure _) (ckA_cons (shR_pure _) (ckA_cons (shR_pure _) (ckA_cons (shR_pure _) (ckA_cons (shR_pure _) (ckA_cons (shR_pure _) (ckA_cons (shR_bind shR_u1 (fun _ => shR_pure _)) (ckA_cons (shR_bind shR_u1 (fun _ => shR_pure _)) (ckA_cons (shR_bind shR_u1 (fun _ => shR_pure _)) (ckA_cons (shR_pure _) (ckA_cons (shR_pure _) (ckA_cons (shR_pure _) (ckA_cons (shR_pure _) (ckA_cons (shR_pure _) (ckA_cons (shR_pure _) (ckA_cons (shR_pure _) (ckA_cons (shR_pure _) (ckA_cons (shR_pure _) (ckA_cons (shR_pure _) (ckA_cons (shR_pure _) (ckA_cons (shR_pure _) (ckA_cons (shR_pure _) (ckA_cons (shR_pure _) (ckA_cons (shR_pure _) (ckA_cons (shR_pure _) (ckA_cons (shR_pure _) (ckA_cons (shR_pure _) (ckA_cons (shR_pure _) (ckA_cons (shR_pure _) (ckA_cons (shR_pure _) (ckA_cons (shR_pure _) (ckA_cons (shR_pure _) (ckA_cons (shR_pure _) (ckA_cons (shR_pure _) (ckA_cons (shR_pure _) (ckA_cons (shR_pure _) (ckA_cons (shR_pure _) (ckA_cons (shR_pure _) (ckA_cons (shR_pure _) (ckA_cons (shR_pure _) (ckA_cons (shR_pure _) (ckA_cons (shR_pure _) (ckA_cons (shR_pure _) (ckA_cons (shR_bind shR_u1 (fun _ => shR_bind shR_s1 (fun _ => shR_pure _))) (ckA_cons (shR_pure _) (ckA_cons (shR_pure _) (ckA_cons (shR_pure _) (ckA_cons (shR_pure _) (ckA_cons (shR_bind shR_s2 (fun _ => shR_pure _)) (ckA_cons (shR_bind shR_s2 (fun _ => shR_pure _)) (ckA_cons (shR_bind shR_s2 (fun _ => shR_pure _)) (ckA_cons (shR_bind shR_s2 (fun _ => shR_pure _)) (ckA_cons (shR_bind shR_s2 (fun _ => shR_pure _)) (ckA_cons (shR_bind shR_s2 (fun _ => shR_pure _)) (ckA_cons (shR_bind shR_s2 (fun _ => shR_pure _)) (ckA_cons (shR_bind shR_s2 (fun _ => shR_pure _)) (ckA_cons (shR_bind shR_s2 (fun _ => shR_pure _)) (ckA_cons (shR_bind shR_s2 (fun _ => shR_pure _)) (ckA_cons (shR_bind shR_s2 (fun _ => shR_pure _)) (ckA_cons (shR_bind shR_s2 (fun _ => shR_pure _)) (ckA_cons (shR_bind shR_s2 (fun _ => shR_pure _)) (ckA_cons (shR_bind shR_s2 (fun _ => shR_pure _)) (ckA_cons (shR_bind shR_s2 (fun _ => shR_pure _)) (ckA_cons (shR_pure _) (ckA_cons (shR_pure _) (ckA_cons (shR_pure _) (ckA_cons (shR_pure _) (ckA_cons (shR_bind shR_u2 (fun _ => shR_pure _)) (ckA_cons (shR_bind shR_u2 (fun _ => shR_pure _)) (ckA_cons (shR_bind shR_u2 (fun _ => shR_pure _)) (ckA_cons (shR_bind shR_u2 (fun _ => shR_pure _)) (ckA_cons (shR_bind shR_u2 (fun _ => shR_pure _)) (ckA_cons (shR_bind shR_u2 (fun _ => shR_pure _)) (ckA_cons (shR_bind shR_u2 (fun _ => shR_pure _)) (ckA_cons (shR_pure _) (ckA_cons (shR_pure _) (ckA_cons (shR_bind shR_u2 (fun _ => shR_pure _)) (ckA_cons (shR_bind shR_u2 (fun _ => shR_pure _)) (ckA_cons (shR_bind shR_s2 (fun _ => shR_pure _)) (ckA_cons (shR_bind shR_s2 (fun _ => shR_pure _)) (ckA_nil)))))))))))))))))))))))))))))))))))))))))))))))))))))))))))))))))))))))))))))))))))))))))))))))))))))))))))
  have dk : ∀ (c : ByteArray) (d : Nat), decode c d = (Jvm.ClassFile.Reader.runAt (Jvm.ClassFile.Decoder.instr d) c d).bind (fun q => .ok (q.1, q.2 - d)) := fun _ _ => rfl
  rw [dk] at h ⊢
  cases e : Jvm.ClassFile.Reader.runAt (Jvm.ClassFile.Decoder.instr 0) ⟨⟨b :: l⟩⟩ 0 with
  | error y => rw [e] at h; cases h
  | ok q =>
    rw [e] at h
    rw [k q.1 q.2 e]
    have h' : (Except.ok (q.1, q.2 - 0) : Except Jvm.ClassFile.DecodeError (Instr × Nat)) = .ok (ins, n) := h
    cases h'
    show Except.ok (q.1, d + q.2 - d) = _
    rw [Nat.add_sub_cancel_left, Nat.sub_zero]
def ckO (c : ByteArray) (pc : Nat) (ins : Instr) (n : Nat) (b : UInt8) (m : List UInt8) : Bool := (Nat.testBit ckM b.toNat && decide (decode ⟨⟨b :: m⟩⟩ 0 = .ok (ins, n))) || decide (decode c pc = .ok (ins, n))
theorem ckO_ok {c : ByteArray} {pc : Nat} {ins : Instr} {n : Nat} {b : UInt8} {m : List UInt8} (h : ckO c pc ins n b m = true) (hb : ckRb c pc (b :: m)) : decode c pc = .ok (ins, n) := by
  unfold ckO at h
  rcases Bool.or_eq_true_iff.mp h with h | h
  · have h := Bool.and_eq_true_iff.mp h
    exact dec_sh hb (ckM_mem _ b.toNat_lt h.1) (of_decide_eq_true h.2)
  · exact of_decide_eq_true h
def ckW (l : List UInt8) (k : UInt8 → List UInt8 → Bool) : Bool := match l with
  | [] => false
  | b :: r => k b r
theorem ckW_ok {l : List UInt8} {k : UInt8 → List UInt8 → Bool} (h : ckW l k = true) : ∃ b r, l = b :: r ∧ k b r = true := by
  cases l with
  | nil => cases h
  | cons b r => exact ⟨b, r, rfl, h⟩
def ckD (c : ByteArray) : List (Nat × Instr × Nat) → Nat → List UInt8 → Bool
  | [], _, _ => true
  | (pc, ins, n) :: t, p, l => Nat.beq pc p && (match n with
    | 1 => ckW l (fun b r => ckO c pc ins 1 b [] && ckD c t (pc + 1) r)
    | 2 => ckW l (fun b r => ckW r (fun b1 r => ckO c pc ins 2 b [b1] && ckD c t (pc + 2) r))
    | 3 => ckW l (fun b r => ckW r (fun b1 r => ckW r (fun b2 r => ckO c pc ins 3 b [b1, b2] && ckD c t (pc + 3) r)))
    | n => decide (decode c pc = .ok (ins, n)) && ckD c t (pc + n) (l.drop n))
theorem ckRb_dropn {c : ByteArray} {p n : Nat} {l : List UInt8} (h : ckRb c p l) : ckRb c (p + n) (l.drop n) := fun i b e => by
  rw [List.getElem?_drop] at e
  rw [Nat.add_assoc]
  exact h _ b e
theorem ckD_ok {c : ByteArray} : ∀ (t : List (Nat × Instr × Nat)) (p : Nat) (l : List UInt8), ckD c t p l = true → ckRb c p l → ∀ q ∈ t, decode c q.1 = .ok q.2 := by
  intro t
  induction t with
  | nil => intro p l _ _ q hq; cases hq
  | cons q t ih =>
    obtain ⟨pc, ins, n⟩ := q
    intro p l h hb
    unfold ckD at h
    have h := Bool.and_eq_true_iff.mp h
    have e := Nat.eq_of_beq_eq_true h.1
    subst e
    have h := h.2
    have both : decode c pc = .ok (ins, n) → (∀ q ∈ t, decode c q.1 = .ok q.2) → ∀ q ∈ (pc, ins, n) :: t, decode c q.1 = .ok q.2 := by
      intro h1 h2 q hq
      rcases List.mem_cons.mp hq with e | e
      · rw [e]; exact h1
      · exact h2 q e
    split at h
    · obtain ⟨b, r, e, g⟩ := ckW_ok h
      have g := Bool.and_eq_true_iff.mp g
      subst e
      exact both (ckO_ok g.1 (ckRb_pre (m := [b]) hb)) (ih _ _ g.2 (ckRb_suf (m := [b]) hb))
    · obtain ⟨b, r, e, g⟩ := ckW_ok h
      obtain ⟨b1, r1, e1, g1⟩ := ckW_ok g
      have g1 := Bool.and_eq_true_iff.mp g1
      subst e e1
      exact both (ckO_ok g1.1 (ckRb_pre (m := [b, b1]) hb)) (ih _ _ g1.2 (ckRb_suf (m := [b, b1]) hb))
    · obtain ⟨b, r, e, g⟩ := ckW_ok h
      obtain ⟨b1, r1, e1, g1⟩ := ckW_ok g
      obtain ⟨b2, r2, e2, g2⟩ := ckW_ok g1
      have g2 := Bool.and_eq_true_iff.mp g2
      subst e e1 e2
      exact both (ckO_ok g2.1 (ckRb_pre (m := [b, b1, b2]) hb)) (ih _ _ g2.2 (ckRb_suf (m := [b, b1, b2]) hb))
    · have h := Bool.and_eq_true_iff.mp h
      exact both (of_decide_eq_true h.1) (ih _ _ h.2 (ckRb_dropn hb))
theorem ckD_all {c : ByteArray} {t : List (Nat × Instr × Nat)} {s : Nat} (h : ckD c t s (c.data.toList.drop s) = true) : ∀ q ∈ t, decode c q.1 = .ok q.2 := ckD_ok t s _ h (ckRb_drop c s)
