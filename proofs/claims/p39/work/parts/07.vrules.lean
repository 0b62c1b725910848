/-! the rows of V: an instruction, a row -/
section VR
variable {E : EX} {K : KX} {M : MX} {ρ : Type} {Q : ρ → State → Prop} {bc bs : Nat} {ws : va_W} {lv : List (Nat × Value)} {X : Option ρ}
def lvI (i : Nat) (v : Value) : List (Nat × Value) → List (Nat × Value)
  | [] => [(i, v)]
  | q :: t => if i < q.1 then (i, v) :: q :: t else q :: lvI i v t
def lvS (i : Nat) (v : Value) (lv : List (Nat × Value)) : List (Nat × Value) := lvI i v (lv.filter (fun q => !(q.1 == i) && !(q.1 + 1 == i && q.2.category == 2)))
def lvL (i : Nat) (v : Value) (lv : List (Nat × Value)) : List (Nat × Value) := lvI i v (lv.filter (fun q => !(q.1 == i) && (!(q.1 == i + 1) && !(q.1 + 1 == i && q.2.category == 2))))
theorem lvI_in {i : Nat} {v : Value} : ∀ {l : List (Nat × Value)} {q : Nat × Value}, q ∈ lvI i v l → q ∈ (i, v) :: l
  | [], _, h => h
  | a :: t, q, h => by
    unfold lvI at h
    split at h
    · exact h
    · rcases List.mem_cons.mp h with h | h
      · rw [h]; exact List.mem_cons_of_mem _ List.mem_cons_self
      · rcases List.mem_cons.mp (lvI_in h) with h | h
        · rw [h]; exact List.mem_cons_self
        · exact List.mem_cons_of_mem _ (List.mem_cons_of_mem _ h)
theorem lvS_has {ls : Array Slot} {n i : Nat} {v : Value} {lv : List (Nat × Value)} (h : lv_has ls n ((i, v) :: lv.filter (fun q => !(q.1 == i) && !(q.1 + 1 == i && q.2.category == 2)))) : lv_has ls n (lvS i v lv) := ⟨h.1, h.2.1, fun q hq => h.2.2 q (lvI_in hq)⟩
theorem lvL_has {ls : Array Slot} {n i : Nat} {v : Value} {lv : List (Nat × Value)} (h : lv_has ls n ((i, v) :: lv.filter (fun q => !(q.1 == i) && (!(q.1 == i + 1) && !(q.1 + 1 == i && q.2.category == 2))))) : lv_has ls n (lvL i v lv) := ⟨h.1, h.2.1, fun q hq => h.2.2 q (lvI_in hq)⟩
theorem V_none {pc : Nat} {st : List Value} : V E K M Q bc bs ws pc lv st none := fun _ z hz => by cases hz
/-- a value gets a name -/
def nm {α β : Type} (a : α) (f : α → β) : β := f a
theorem V_nmI {x : Int32} {st : List Value} {pc : Nat} {F : Int32 → Option ρ} (k : ∀ y : Int32, V E K M Q bc bs ws pc lv (.int y :: st) (F y)) : V E K M Q bc bs ws pc lv (.int x :: st) (nm x F) := k x
theorem V_nmL {x : Int64} {st : List Value} {pc : Nat} {F : Int64 → Option ρ} (k : ∀ y : Int64, V E K M Q bc bs ws pc lv (.long y :: st) (F y)) : V E K M Q bc bs ws pc lv (.long x :: st) (nm x F) := k x
/-- a place where roads meet -/
def jn {α β : Type} (k : α) (b : α → β) : β := b k
theorem V_jn {α : Type} {st : List Value} {pc : Nat} {k0 : α} {B : α → Option ρ} (J : α → Prop) (hJ : J k0) (k : ∀ k1 : α, J k1 → V E K M Q bc bs ws pc lv st (B k1)) : V E K M Q bc bs ws pc lv st (jn k0 B) := k k0 hJ
/-- an index is in its row, or there is no answer -/
def inB {β : Type} (i : Int32) (n : Nat) (x : Option β) : Option β := if i < 0 ∨ n ≤ i.toNatClampNeg then none else x
theorem inB_some {β : Type} {i : Int32} {n : Nat} {x : Option β} {z : β} (h : inB i n x = some z) : vp_in i n ∧ x = some z := by
  unfold inB at h
  split at h
  · cases h
  · exact ⟨by assumption, h⟩
/-- a guard -/
def gd {β : Type} (b : Prop) (i : Decidable b) (x : Option β) : Option β := if b then x else none
theorem V_pick {pc : Nat} {st : List Value} (ks : List Nat) (lv' : List (Nat × Value)) (h : lv_pick lv ks = lv') (k : V E K M Q bc bs ws pc lv' st X) : V E K M Q bc bs ws pc lv st X := by
  intro ok z hz H locs cells slots ls hP hD hS hl h1 h2
  exact k ok z hz H locs cells slots ls hP hD hS (lv_sub hl ks h) h1 h2
theorem V_world {pc : Nat} {st : List Value} (is : List Nat) (ws' : va_W) (hn : va_nd is = true) (h : is.filterMap (fun i => ws[i]?) = ws') (hm : is.map (fun i => ws[i]?) = ws'.map some) (k : V E K M Q bc bs ws' pc lv st X) : V E K M Q bc bs ws pc lv st X := by
  intro ok z hz H locs cells slots ls hP hD hS hl h1 h2
  exact k ok z hz H locs cells slots ls (hP.sub is h) (hD.sub is hn hm) hS hl h1 h2
theorem V_less {pc : Nat} {st : List Value} (bc' bs' : Nat) (hc : bc' ≤ bc) (hs : bs' ≤ bs) (k : V E K M Q bc' bs' ws pc lv st X) : V E K M Q bc bs ws pc lv st X := by
  intro ok z hz H locs cells slots ls hP hD hS hl h1 h2
  exact k ok z hz H locs cells slots ls hP hD hS hl (by omega) (by omega)
theorem V_eq {pc : Nat} {st : List Value} {X' : Option ρ} (h : X = X') (k : V E K M Q bc bs ws pc lv st X') : V E K M Q bc bs ws pc lv st X := h ▸ k
theorem V_iadd {x y : Int32} {st : List Value} {pc : Nat} (hd : decode M.b pc = .ok (.iadd, 1)) (pc' : Nat) (hp : pc + 1 = pc')  (k : V E K M Q bc bs ws pc' lv (.int (x + y) :: st) X) : V E K M Q bc bs ws pc lv (.int y :: .int x :: st) X := by
  subst hp
  intro ok z hz H locs cells slots ls hP hD hS hl h1 h2
  exact lv_iadd ok.1 ok.2.1 hd (k ok z hz H locs cells slots ls hP hD hS hl h1 h2)

theorem V_isub {x y : Int32} {st : List Value} {pc : Nat} (hd : decode M.b pc = .ok (.isub, 1)) (pc' : Nat) (hp : pc + 1 = pc')  (k : V E K M Q bc bs ws pc' lv (.int (x - y) :: st) X) : V E K M Q bc bs ws pc lv (.int y :: .int x :: st) X := by
  subst hp
  intro ok z hz H locs cells slots ls hP hD hS hl h1 h2
  exact lv_isub ok.1 ok.2.1 hd (k ok z hz H locs cells slots ls hP hD hS hl h1 h2)

theorem V_imul {x y : Int32} {st : List Value} {pc : Nat} (hd : decode M.b pc = .ok (.imul, 1)) (pc' : Nat) (hp : pc + 1 = pc')  (k : V E K M Q bc bs ws pc' lv (.int (x * y) :: st) X) : V E K M Q bc bs ws pc lv (.int y :: .int x :: st) X := by
  subst hp
  intro ok z hz H locs cells slots ls hP hD hS hl h1 h2
  exact lv_imul ok.1 ok.2.1 hd (k ok z hz H locs cells slots ls hP hD hS hl h1 h2)

theorem V_iand {x y : Int32} {st : List Value} {pc : Nat} (hd : decode M.b pc = .ok (.iand, 1)) (pc' : Nat) (hp : pc + 1 = pc')  (k : V E K M Q bc bs ws pc' lv (.int (x &&& y) :: st) X) : V E K M Q bc bs ws pc lv (.int y :: .int x :: st) X := by
  subst hp
  intro ok z hz H locs cells slots ls hP hD hS hl h1 h2
  exact lv_iand ok.1 ok.2.1 hd (k ok z hz H locs cells slots ls hP hD hS hl h1 h2)

theorem V_ior {x y : Int32} {st : List Value} {pc : Nat} (hd : decode M.b pc = .ok (.ior, 1)) (pc' : Nat) (hp : pc + 1 = pc')  (k : V E K M Q bc bs ws pc' lv (.int (x ||| y) :: st) X) : V E K M Q bc bs ws pc lv (.int y :: .int x :: st) X := by
  subst hp
  intro ok z hz H locs cells slots ls hP hD hS hl h1 h2
  exact lv_ior ok.1 ok.2.1 hd (k ok z hz H locs cells slots ls hP hD hS hl h1 h2)

theorem V_ishl {x y : Int32} {st : List Value} {pc : Nat} (hd : decode M.b pc = .ok (.ishl, 1)) (pc' : Nat) (hp : pc + 1 = pc')  (k : V E K M Q bc bs ws pc' lv (.int (x <<< (y &&& 31)) :: st) X) : V E K M Q bc bs ws pc lv (.int y :: .int x :: st) X := by
  subst hp
  intro ok z hz H locs cells slots ls hP hD hS hl h1 h2
  exact lv_ishl ok.1 ok.2.1 hd (k ok z hz H locs cells slots ls hP hD hS hl h1 h2)

theorem V_ishr {x y : Int32} {st : List Value} {pc : Nat} (hd : decode M.b pc = .ok (.ishr, 1)) (pc' : Nat) (hp : pc + 1 = pc')  (k : V E K M Q bc bs ws pc' lv (.int (x >>> (y &&& 31)) :: st) X) : V E K M Q bc bs ws pc lv (.int y :: .int x :: st) X := by
  subst hp
  intro ok z hz H locs cells slots ls hP hD hS hl h1 h2
  exact lv_ishr ok.1 ok.2.1 hd (k ok z hz H locs cells slots ls hP hD hS hl h1 h2)

theorem V_ladd {x y : Int64} {st : List Value} {pc : Nat} (hd : decode M.b pc = .ok (.ladd, 1)) (pc' : Nat) (hp : pc + 1 = pc')  (k : V E K M Q bc bs ws pc' lv (.long (x + y) :: st) X) : V E K M Q bc bs ws pc lv (.long y :: .long x :: st) X := by
  subst hp
  intro ok z hz H locs cells slots ls hP hD hS hl h1 h2
  exact lv_ladd ok.1 ok.2.1 hd (k ok z hz H locs cells slots ls hP hD hS hl h1 h2)

theorem V_lmul {x y : Int64} {st : List Value} {pc : Nat} (hd : decode M.b pc = .ok (.lmul, 1)) (pc' : Nat) (hp : pc + 1 = pc')  (k : V E K M Q bc bs ws pc' lv (.long (x * y) :: st) X) : V E K M Q bc bs ws pc lv (.long y :: .long x :: st) X := by
  subst hp
  intro ok z hz H locs cells slots ls hP hD hS hl h1 h2
  exact lv_lmul ok.1 ok.2.1 hd (k ok z hz H locs cells slots ls hP hD hS hl h1 h2)

theorem V_ineg {x : Int32} {st : List Value} {pc : Nat} (hd : decode M.b pc = .ok (.ineg, 1)) (pc' : Nat) (hp : pc + 1 = pc')  (k : V E K M Q bc bs ws pc' lv (.int (-x) :: st) X) : V E K M Q bc bs ws pc lv (.int x :: st) X := by
  subst hp
  intro ok z hz H locs cells slots ls hP hD hS hl h1 h2
  exact lv_ineg ok.1 ok.2.1 hd (k ok z hz H locs cells slots ls hP hD hS hl h1 h2)

theorem V_i2l {x : Int32} {st : List Value} {pc : Nat} (hd : decode M.b pc = .ok (.i2l, 1)) (pc' : Nat) (hp : pc + 1 = pc')  (k : V E K M Q bc bs ws pc' lv (.long x.toInt64 :: st) X) : V E K M Q bc bs ws pc lv (.int x :: st) X := by
  subst hp
  intro ok z hz H locs cells slots ls hP hD hS hl h1 h2
  exact lv_i2l ok.1 ok.2.1 hd rfl (k ok z hz H locs cells slots ls hP hD hS hl h1 h2)

theorem V_i2b {x : Int32} {st : List Value} {pc : Nat} (hd : decode M.b pc = .ok (.i2b, 1)) (pc' : Nat) (hp : pc + 1 = pc')  (k : V E K M Q bc bs ws pc' lv (.int x.toInt8.toInt32 :: st) X) : V E K M Q bc bs ws pc lv (.int x :: st) X := by
  subst hp
  intro ok z hz H locs cells slots ls hP hD hS hl h1 h2
  exact lv_i2b ok.1 ok.2.1 hd rfl (k ok z hz H locs cells slots ls hP hD hS hl h1 h2)

theorem V_i2c {x : Int32} {st : List Value} {pc : Nat} (hd : decode M.b pc = .ok (.i2c, 1)) (pc' : Nat) (hp : pc + 1 = pc')  (k : V E K M Q bc bs ws pc' lv (.int (x.toUInt32 % 65536).toInt32 :: st) X) : V E K M Q bc bs ws pc lv (.int x :: st) X := by
  subst hp
  intro ok z hz H locs cells slots ls hP hD hS hl h1 h2
  exact lv_i2c ok.1 ok.2.1 hd rfl (k ok z hz H locs cells slots ls hP hD hS hl h1 h2)

theorem V_iushr {x y : Int32} {st : List Value} {pc : Nat} (hd : decode M.b pc = .ok (.iushr, 1)) (pc' : Nat) (hp : pc + 1 = pc')  (k : V E K M Q bc bs ws pc' lv (.int (x.toUInt32 >>> (y.toUInt32 &&& Int32.toUInt32 31)).toInt32 :: st) X) : V E K M Q bc bs ws pc lv (.int y :: .int x :: st) X := by
  subst hp
  intro ok z hz H locs cells slots ls hP hD hS hl h1 h2
  exact lv_iushr ok.1 ok.2.1 hd rfl (k ok z hz H locs cells slots ls hP hD hS hl h1 h2)

theorem V_idiv {x y : Int32} (hne : ¬ y = 0) {st : List Value} {pc : Nat} (hd : decode M.b pc = .ok (.idiv, 1)) (pc' : Nat) (hp : pc + 1 = pc')  (k : V E K M Q bc bs ws pc' lv (.int (x / y) :: st) X) : V E K M Q bc bs ws pc lv (.int y :: .int x :: st) X := by
  subst hp
  intro ok z hz H locs cells slots ls hP hD hS hl h1 h2
  exact lv_idiv ok.1 ok.2.1 hd hne (k ok z hz H locs cells slots ls hP hD hS hl h1 h2)

theorem V_irem {x y : Int32} (hne : ¬ y = 0) {st : List Value} {pc : Nat} (hd : decode M.b pc = .ok (.irem, 1)) (pc' : Nat) (hp : pc + 1 = pc')  (k : V E K M Q bc bs ws pc' lv (.int (x - x / y * y) :: st) X) : V E K M Q bc bs ws pc lv (.int y :: .int x :: st) X := by
  subst hp
  intro ok z hz H locs cells slots ls hP hD hS hl h1 h2
  exact lv_irem ok.1 ok.2.1 hd hne (k ok z hz H locs cells slots ls hP hD hS hl h1 h2)

theorem V_iconst {n : Int} (v : Int32) (hv : Int32.ofInt n = v) {st : List Value} {pc : Nat} (hd : decode M.b pc = .ok (.iconst n, 1)) (pc' : Nat) (hp : pc + 1 = pc')  (k : V E K M Q bc bs ws pc' lv (.int v :: st) X) : V E K M Q bc bs ws pc lv (st) X := by
  subst hp
  intro ok z hz H locs cells slots ls hP hD hS hl h1 h2
  exact lv_iconst ok.1 ok.2.1 hd hv (k ok z hz H locs cells slots ls hP hD hS hl h1 h2)

theorem V_lconst {n : Fin 2} (v : Int64) (hv : Int64.ofNat (n : Nat) = v) {st : List Value} {pc : Nat} (hd : decode M.b pc = .ok (.lconst n, 1)) (pc' : Nat) (hp : pc + 1 = pc')  (k : V E K M Q bc bs ws pc' lv (.long v :: st) X) : V E K M Q bc bs ws pc lv (st) X := by
  subst hp
  intro ok z hz H locs cells slots ls hP hD hS hl h1 h2
  exact lv_lconst ok.1 ok.2.1 hd hv (k ok z hz H locs cells slots ls hP hD hS hl h1 h2)

theorem V_bipush {n : Int} (v : Int32) (hv : (Int8.ofInt n).toInt32 = v) {st : List Value} {pc : Nat} (hd : decode M.b pc = .ok (.bipush n, 2)) (pc' : Nat) (hp : pc + 2 = pc')  (k : V E K M Q bc bs ws pc' lv (.int v :: st) X) : V E K M Q bc bs ws pc lv (st) X := by
  subst hp
  intro ok z hz H locs cells slots ls hP hD hS hl h1 h2
  exact lv_bipush ok.1 ok.2.1 hd hv (k ok z hz H locs cells slots ls hP hD hS hl h1 h2)

theorem V_sipush {n : Int} (v : Int32) (hv : (Int16.ofInt n).toInt32 = v) {st : List Value} {pc : Nat} (hd : decode M.b pc = .ok (.sipush n, 3)) (pc' : Nat) (hp : pc + 3 = pc')  (k : V E K M Q bc bs ws pc' lv (.int v :: st) X) : V E K M Q bc bs ws pc lv (st) X := by
  subst hp
  intro ok z hz H locs cells slots ls hP hD hS hl h1 h2
  exact lv_sipush ok.1 ok.2.1 hd hv (k ok z hz H locs cells slots ls hP hD hS hl h1 h2)

theorem V_ldc {i : Nat} {v : Int32} (hw : Cond.constant M.y.cls i v ∈ TB) {st : List Value} {pc : Nat} (hd : decode M.b pc = .ok (.ldc i, 2)) (pc' : Nat) (hp : pc + 2 = pc')  (k : V E K M Q bc bs ws pc' lv (.int v :: st) X) : V E K M Q bc bs ws pc lv (st) X := by
  subst hp
  intro ok z hz H locs cells slots ls hP hD hS hl h1 h2
  exact lv_ldc ok.1 ok.2.1 ok.2.2.2.1 (ok.2.2.2.2.1 _ hw) hd (k ok z hz H locs cells slots ls hP hD hS hl h1 h2)

theorem V_ldcw {i : Nat} {v : Int32} (hw : Cond.constant M.y.cls i v ∈ TB) {st : List Value} {pc : Nat} (hd : decode M.b pc = .ok (.ldc_w i, 3)) (pc' : Nat) (hp : pc + 3 = pc')  (k : V E K M Q bc bs ws pc' lv (.int v :: st) X) : V E K M Q bc bs ws pc lv (st) X := by
  subst hp
  intro ok z hz H locs cells slots ls hP hD hS hl h1 h2
  exact lv_ldcw ok.1 ok.2.1 ok.2.2.2.1 (ok.2.2.2.2.1 _ hw) hd (k ok z hz H locs cells slots ls hP hD hS hl h1 h2)

theorem V_ldc2 {i : Nat} {v : Int64} (hw : Cond.constantLong M.y.cls i v ∈ TB) {st : List Value} {pc : Nat} (hd : decode M.b pc = .ok (.ldc2_w i, 3)) (pc' : Nat) (hp : pc + 3 = pc')  (k : V E K M Q bc bs ws pc' lv (.long v :: st) X) : V E K M Q bc bs ws pc lv (st) X := by
  subst hp
  intro ok z hz H locs cells slots ls hP hD hS hl h1 h2
  exact lv_ldc2 ok.1 ok.2.1 ok.2.2.2.1 (ok.2.2.2.2.1 _ hw) hd (k ok z hz H locs cells slots ls hP hD hS hl h1 h2)

theorem V_null  {st : List Value} {pc : Nat} (hd : decode M.b pc = .ok (.aconst_null, 1)) (pc' : Nat) (hp : pc + 1 = pc')  (k : V E K M Q bc bs ws pc' lv (.null :: st) X) : V E K M Q bc bs ws pc lv (st) X := by
  subst hp
  intro ok z hz H locs cells slots ls hP hD hS hl h1 h2
  exact lv_null ok.1 ok.2.1 hd (k ok z hz H locs cells slots ls hP hD hS hl h1 h2)

theorem V_iload_n {i : Fin 4} {x : Int32}  {st : List Value} {pc : Nat} (hd : decode M.b pc = .ok (.iload_n i, 1)) (pc' : Nat) (hp : pc + 1 = pc') (j : Nat) (hj : lv[j]? = some ((i : Nat), Value.int x)) (k : V E K M Q bc bs ws pc' lv (.int x :: st) X) : V E K M Q bc bs ws pc lv (st) X := by
  subst hp
  intro ok z hz H locs cells slots ls hP hD hS hl h1 h2
  exact lv_iload_n ok.1 ok.2.1 hd rfl (lv_at hl j hj) (k ok z hz H locs cells slots ls hP hD hS hl h1 h2)

theorem V_iload {i : Nat} {x : Int32}  {st : List Value} {pc : Nat} (hd : decode M.b pc = .ok (.iload i, 2)) (pc' : Nat) (hp : pc + 2 = pc') (j : Nat) (hj : lv[j]? = some (i, Value.int x)) (k : V E K M Q bc bs ws pc' lv (.int x :: st) X) : V E K M Q bc bs ws pc lv (st) X := by
  subst hp
  intro ok z hz H locs cells slots ls hP hD hS hl h1 h2
  exact lv_iload ok.1 ok.2.1 hd (lv_at hl j hj) (k ok z hz H locs cells slots ls hP hD hS hl h1 h2)

theorem V_lload_n {i : Fin 4} {x : Int64}  {st : List Value} {pc : Nat} (hd : decode M.b pc = .ok (.lload_n i, 1)) (pc' : Nat) (hp : pc + 1 = pc') (j : Nat) (hj : lv[j]? = some ((i : Nat), Value.long x)) (k : V E K M Q bc bs ws pc' lv (.long x :: st) X) : V E K M Q bc bs ws pc lv (st) X := by
  subst hp
  intro ok z hz H locs cells slots ls hP hD hS hl h1 h2
  exact lv_lload_n ok.1 ok.2.1 hd rfl (lv_at hl j hj) (k ok z hz H locs cells slots ls hP hD hS hl h1 h2)

theorem V_lload {i : Nat} {x : Int64}  {st : List Value} {pc : Nat} (hd : decode M.b pc = .ok (.lload i, 2)) (pc' : Nat) (hp : pc + 2 = pc') (j : Nat) (hj : lv[j]? = some (i, Value.long x)) (k : V E K M Q bc bs ws pc' lv (.long x :: st) X) : V E K M Q bc bs ws pc lv (st) X := by
  subst hp
  intro ok z hz H locs cells slots ls hP hD hS hl h1 h2
  exact lv_lload ok.1 ok.2.1 hd (lv_at hl j hj) (k ok z hz H locs cells slots ls hP hD hS hl h1 h2)

theorem V_aload_n {i : Fin 4} {x : Nat}  {st : List Value} {pc : Nat} (hd : decode M.b pc = .ok (.aload_n i, 1)) (pc' : Nat) (hp : pc + 1 = pc') (j : Nat) (hj : lv[j]? = some ((i : Nat), Value.ref x)) (k : V E K M Q bc bs ws pc' lv (.ref x :: st) X) : V E K M Q bc bs ws pc lv (st) X := by
  subst hp
  intro ok z hz H locs cells slots ls hP hD hS hl h1 h2
  exact lv_aload_n ok.1 ok.2.1 hd rfl (lv_at hl j hj) (k ok z hz H locs cells slots ls hP hD hS hl h1 h2)

theorem V_aload {i : Nat} {x : Nat}  {st : List Value} {pc : Nat} (hd : decode M.b pc = .ok (.aload i, 2)) (pc' : Nat) (hp : pc + 2 = pc') (j : Nat) (hj : lv[j]? = some (i, Value.ref x)) (k : V E K M Q bc bs ws pc' lv (.ref x :: st) X) : V E K M Q bc bs ws pc lv (st) X := by
  subst hp
  intro ok z hz H locs cells slots ls hP hD hS hl h1 h2
  exact lv_aload ok.1 ok.2.1 hd (lv_at hl j hj) (k ok z hz H locs cells slots ls hP hD hS hl h1 h2)

theorem V_aload_nN {i : Fin 4}  {st : List Value} {pc : Nat} (hd : decode M.b pc = .ok (.aload_n i, 1)) (pc' : Nat) (hp : pc + 1 = pc') (j : Nat) (hj : lv[j]? = some ((i : Nat), Value.null)) (k : V E K M Q bc bs ws pc' lv (.null :: st) X) : V E K M Q bc bs ws pc lv (st) X := by
  subst hp
  intro ok z hz H locs cells slots ls hP hD hS hl h1 h2
  exact lv_aload_nN ok.1 ok.2.1 hd rfl (lv_at hl j hj) (k ok z hz H locs cells slots ls hP hD hS hl h1 h2)

theorem V_aloadN {i : Nat}  {st : List Value} {pc : Nat} (hd : decode M.b pc = .ok (.aload i, 2)) (pc' : Nat) (hp : pc + 2 = pc') (j : Nat) (hj : lv[j]? = some (i, Value.null)) (k : V E K M Q bc bs ws pc' lv (.null :: st) X) : V E K M Q bc bs ws pc lv (st) X := by
  subst hp
  intro ok z hz H locs cells slots ls hP hD hS hl h1 h2
  exact lv_aloadN ok.1 ok.2.1 hd (lv_at hl j hj) (k ok z hz H locs cells slots ls hP hD hS hl h1 h2)

theorem V_dup {v : Value} (hv : v.category = 1) {st : List Value} {pc : Nat} (hd : decode M.b pc = .ok (.dup, 1)) (pc' : Nat) (hp : pc + 1 = pc')  (k : V E K M Q bc bs ws pc' lv (v :: v :: st) X) : V E K M Q bc bs ws pc lv (v :: st) X := by
  subst hp
  intro ok z hz H locs cells slots ls hP hD hS hl h1 h2
  exact lv_dup ok.1 ok.2.1 hd hv (k ok z hz H locs cells slots ls hP hD hS hl h1 h2)

theorem V_dup_x1 {v w : Value} (hv : v.category = 1) (hw : w.category = 1) {st : List Value} {pc : Nat} (hd : decode M.b pc = .ok (.dup_x1, 1)) (pc' : Nat) (hp : pc + 1 = pc')  (k : V E K M Q bc bs ws pc' lv (v :: w :: v :: st) X) : V E K M Q bc bs ws pc lv (v :: w :: st) X := by
  subst hp
  intro ok z hz H locs cells slots ls hP hD hS hl h1 h2
  exact lv_dup_x1 ok.1 ok.2.1 hd hv hw (k ok z hz H locs cells slots ls hP hD hS hl h1 h2)

theorem V_dup2 {v w : Value} (hv : v.category = 1) (hw : w.category = 1) {st : List Value} {pc : Nat} (hd : decode M.b pc = .ok (.dup2, 1)) (pc' : Nat) (hp : pc + 1 = pc')  (k : V E K M Q bc bs ws pc' lv (v :: w :: v :: w :: st) X) : V E K M Q bc bs ws pc lv (v :: w :: st) X := by
  subst hp
  intro ok z hz H locs cells slots ls hP hD hS hl h1 h2
  exact lv_dup2_11 ok.1 ok.2.1 hd hv hw (k ok z hz H locs cells slots ls hP hD hS hl h1 h2)

theorem V_pop {v : Value} (hv : v.category = 1) {st : List Value} {pc : Nat} (hd : decode M.b pc = .ok (.pop, 1)) (pc' : Nat) (hp : pc + 1 = pc')  (k : V E K M Q bc bs ws pc' lv (st) X) : V E K M Q bc bs ws pc lv (v :: st) X := by
  subst hp
  intro ok z hz H locs cells slots ls hP hD hS hl h1 h2
  exact lv_pop ok.1 ok.2.1 hd hv (k ok z hz H locs cells slots ls hP hD hS hl h1 h2)

theorem V_pop2 {v : Value} (hv : v.category = 2) {st : List Value} {pc : Nat} (hd : decode M.b pc = .ok (.pop2, 1)) (pc' : Nat) (hp : pc + 1 = pc')  (k : V E K M Q bc bs ws pc' lv (st) X) : V E K M Q bc bs ws pc lv (v :: st) X := by
  subst hp
  intro ok z hz H locs cells slots ls hP hD hS hl h1 h2
  exact lv_pop2_2 ok.1 ok.2.1 hd hv (k ok z hz H locs cells slots ls hP hD hS hl h1 h2)

theorem V_icmp_eq {x y : Int32} {off : Int} {i : Decidable (x = y)} {st : List Value} {pc : Nat} {XT XF : Option ρ} (hd : decode M.b pc = .ok (.if_icmp .eq off, 3)) (tgt : Nat) (ht : (pc : Int) + off = (tgt : Int)) (pc' : Nat) (hp : pc + 3 = pc') (kt : V E K M Q bc bs ws tgt lv st XT) (kf : V E K M Q bc bs ws pc' lv st XF) : V E K M Q bc bs ws pc lv (.int y :: .int x :: st) (@ite _ (x = y) i XT XF) := by
  subst hp
  intro ok z hz H locs cells slots ls hP hD hS hl h1 h2
  exact lv_icmp_eq ok.1 ok.2.1 hd ht (fun h => kt ok z (by rw [← hz, if_pos h]) H locs cells slots ls hP hD hS hl h1 h2) (fun h => kf ok z (by rw [← hz, if_neg h]) H locs cells slots ls hP hD hS hl h1 h2)

theorem V_if_eq {x : Int32} {off : Int} {i : Decidable (x = (0 : Int32))} {st : List Value} {pc : Nat} {XT XF : Option ρ} (hd : decode M.b pc = .ok (.ifCond .eq off, 3)) (tgt : Nat) (ht : (pc : Int) + off = (tgt : Int)) (pc' : Nat) (hp : pc + 3 = pc') (kt : V E K M Q bc bs ws tgt lv st XT) (kf : V E K M Q bc bs ws pc' lv st XF) : V E K M Q bc bs ws pc lv (.int x :: st) (@ite _ (x = (0 : Int32)) i XT XF) := by
  subst hp
  intro ok z hz H locs cells slots ls hP hD hS hl h1 h2
  exact lv_if_eq ok.1 ok.2.1 hd ht (fun h => kt ok z (by rw [← hz, if_pos h]) H locs cells slots ls hP hD hS hl h1 h2) (fun h => kf ok z (by rw [← hz, if_neg h]) H locs cells slots ls hP hD hS hl h1 h2)

theorem V_icmp_ne {x y : Int32} {off : Int} {i : Decidable (x = y)} {st : List Value} {pc : Nat} {XT XF : Option ρ} (hd : decode M.b pc = .ok (.if_icmp .ne off, 3)) (tgt : Nat) (ht : (pc : Int) + off = (tgt : Int)) (pc' : Nat) (hp : pc + 3 = pc') (kt : V E K M Q bc bs ws tgt lv st XF) (kf : V E K M Q bc bs ws pc' lv st XT) : V E K M Q bc bs ws pc lv (.int y :: .int x :: st) (@ite _ (x = y) i XT XF) := by
  subst hp
  intro ok z hz H locs cells slots ls hP hD hS hl h1 h2
  exact lv_icmp_ne ok.1 ok.2.1 hd ht (fun h => kt ok z (by rw [← hz, if_neg h]) H locs cells slots ls hP hD hS hl h1 h2) (fun h => kf ok z (by rw [← hz, if_pos h]) H locs cells slots ls hP hD hS hl h1 h2)

theorem V_if_ne {x : Int32} {off : Int} {i : Decidable (x = (0 : Int32))} {st : List Value} {pc : Nat} {XT XF : Option ρ} (hd : decode M.b pc = .ok (.ifCond .ne off, 3)) (tgt : Nat) (ht : (pc : Int) + off = (tgt : Int)) (pc' : Nat) (hp : pc + 3 = pc') (kt : V E K M Q bc bs ws tgt lv st XF) (kf : V E K M Q bc bs ws pc' lv st XT) : V E K M Q bc bs ws pc lv (.int x :: st) (@ite _ (x = (0 : Int32)) i XT XF) := by
  subst hp
  intro ok z hz H locs cells slots ls hP hD hS hl h1 h2
  exact lv_if_ne ok.1 ok.2.1 hd ht (fun h => kt ok z (by rw [← hz, if_neg h]) H locs cells slots ls hP hD hS hl h1 h2) (fun h => kf ok z (by rw [← hz, if_pos h]) H locs cells slots ls hP hD hS hl h1 h2)

theorem V_icmp_lt {x y : Int32} {off : Int} {i : Decidable (x < y)} {st : List Value} {pc : Nat} {XT XF : Option ρ} (hd : decode M.b pc = .ok (.if_icmp .lt off, 3)) (tgt : Nat) (ht : (pc : Int) + off = (tgt : Int)) (pc' : Nat) (hp : pc + 3 = pc') (kt : V E K M Q bc bs ws tgt lv st XT) (kf : V E K M Q bc bs ws pc' lv st XF) : V E K M Q bc bs ws pc lv (.int y :: .int x :: st) (@ite _ (x < y) i XT XF) := by
  subst hp
  intro ok z hz H locs cells slots ls hP hD hS hl h1 h2
  exact lv_icmp_lt ok.1 ok.2.1 hd ht (fun h => kt ok z (by rw [← hz, if_pos h]) H locs cells slots ls hP hD hS hl h1 h2) (fun h => kf ok z (by rw [← hz, if_neg h]) H locs cells slots ls hP hD hS hl h1 h2)

theorem V_if_lt {x : Int32} {off : Int} {i : Decidable (x < (0 : Int32))} {st : List Value} {pc : Nat} {XT XF : Option ρ} (hd : decode M.b pc = .ok (.ifCond .lt off, 3)) (tgt : Nat) (ht : (pc : Int) + off = (tgt : Int)) (pc' : Nat) (hp : pc + 3 = pc') (kt : V E K M Q bc bs ws tgt lv st XT) (kf : V E K M Q bc bs ws pc' lv st XF) : V E K M Q bc bs ws pc lv (.int x :: st) (@ite _ (x < (0 : Int32)) i XT XF) := by
  subst hp
  intro ok z hz H locs cells slots ls hP hD hS hl h1 h2
  exact lv_if_lt ok.1 ok.2.1 hd ht (fun h => kt ok z (by rw [← hz, if_pos h]) H locs cells slots ls hP hD hS hl h1 h2) (fun h => kf ok z (by rw [← hz, if_neg h]) H locs cells slots ls hP hD hS hl h1 h2)

theorem V_icmp_ge {x y : Int32} {off : Int} {i : Decidable (y ≤ x)} {st : List Value} {pc : Nat} {XT XF : Option ρ} (hd : decode M.b pc = .ok (.if_icmp .ge off, 3)) (tgt : Nat) (ht : (pc : Int) + off = (tgt : Int)) (pc' : Nat) (hp : pc + 3 = pc') (kt : V E K M Q bc bs ws tgt lv st XT) (kf : V E K M Q bc bs ws pc' lv st XF) : V E K M Q bc bs ws pc lv (.int y :: .int x :: st) (@ite _ (y ≤ x) i XT XF) := by
  subst hp
  intro ok z hz H locs cells slots ls hP hD hS hl h1 h2
  exact lv_icmp_ge ok.1 ok.2.1 hd ht (fun h => kt ok z (by rw [← hz, if_pos h]) H locs cells slots ls hP hD hS hl h1 h2) (fun h => kf ok z (by rw [← hz, if_neg h]) H locs cells slots ls hP hD hS hl h1 h2)

theorem V_if_ge {x : Int32} {off : Int} {i : Decidable ((0 : Int32) ≤ x)} {st : List Value} {pc : Nat} {XT XF : Option ρ} (hd : decode M.b pc = .ok (.ifCond .ge off, 3)) (tgt : Nat) (ht : (pc : Int) + off = (tgt : Int)) (pc' : Nat) (hp : pc + 3 = pc') (kt : V E K M Q bc bs ws tgt lv st XT) (kf : V E K M Q bc bs ws pc' lv st XF) : V E K M Q bc bs ws pc lv (.int x :: st) (@ite _ ((0 : Int32) ≤ x) i XT XF) := by
  subst hp
  intro ok z hz H locs cells slots ls hP hD hS hl h1 h2
  exact lv_if_ge ok.1 ok.2.1 hd ht (fun h => kt ok z (by rw [← hz, if_pos h]) H locs cells slots ls hP hD hS hl h1 h2) (fun h => kf ok z (by rw [← hz, if_neg h]) H locs cells slots ls hP hD hS hl h1 h2)

theorem V_icmp_gt {x y : Int32} {off : Int} {i : Decidable (y < x)} {st : List Value} {pc : Nat} {XT XF : Option ρ} (hd : decode M.b pc = .ok (.if_icmp .gt off, 3)) (tgt : Nat) (ht : (pc : Int) + off = (tgt : Int)) (pc' : Nat) (hp : pc + 3 = pc') (kt : V E K M Q bc bs ws tgt lv st XT) (kf : V E K M Q bc bs ws pc' lv st XF) : V E K M Q bc bs ws pc lv (.int y :: .int x :: st) (@ite _ (y < x) i XT XF) := by
  subst hp
  intro ok z hz H locs cells slots ls hP hD hS hl h1 h2
  exact lv_icmp_gt ok.1 ok.2.1 hd ht (fun h => kt ok z (by rw [← hz, if_pos h]) H locs cells slots ls hP hD hS hl h1 h2) (fun h => kf ok z (by rw [← hz, if_neg h]) H locs cells slots ls hP hD hS hl h1 h2)

theorem V_if_gt {x : Int32} {off : Int} {i : Decidable ((0 : Int32) < x)} {st : List Value} {pc : Nat} {XT XF : Option ρ} (hd : decode M.b pc = .ok (.ifCond .gt off, 3)) (tgt : Nat) (ht : (pc : Int) + off = (tgt : Int)) (pc' : Nat) (hp : pc + 3 = pc') (kt : V E K M Q bc bs ws tgt lv st XT) (kf : V E K M Q bc bs ws pc' lv st XF) : V E K M Q bc bs ws pc lv (.int x :: st) (@ite _ ((0 : Int32) < x) i XT XF) := by
  subst hp
  intro ok z hz H locs cells slots ls hP hD hS hl h1 h2
  exact lv_if_gt ok.1 ok.2.1 hd ht (fun h => kt ok z (by rw [← hz, if_pos h]) H locs cells slots ls hP hD hS hl h1 h2) (fun h => kf ok z (by rw [← hz, if_neg h]) H locs cells slots ls hP hD hS hl h1 h2)

theorem V_icmp_le {x y : Int32} {off : Int} {i : Decidable (x ≤ y)} {st : List Value} {pc : Nat} {XT XF : Option ρ} (hd : decode M.b pc = .ok (.if_icmp .le off, 3)) (tgt : Nat) (ht : (pc : Int) + off = (tgt : Int)) (pc' : Nat) (hp : pc + 3 = pc') (kt : V E K M Q bc bs ws tgt lv st XT) (kf : V E K M Q bc bs ws pc' lv st XF) : V E K M Q bc bs ws pc lv (.int y :: .int x :: st) (@ite _ (x ≤ y) i XT XF) := by
  subst hp
  intro ok z hz H locs cells slots ls hP hD hS hl h1 h2
  exact lv_icmp_le ok.1 ok.2.1 hd ht (fun h => kt ok z (by rw [← hz, if_pos h]) H locs cells slots ls hP hD hS hl h1 h2) (fun h => kf ok z (by rw [← hz, if_neg h]) H locs cells slots ls hP hD hS hl h1 h2)

theorem V_if_le {x : Int32} {off : Int} {i : Decidable (x ≤ (0 : Int32))} {st : List Value} {pc : Nat} {XT XF : Option ρ} (hd : decode M.b pc = .ok (.ifCond .le off, 3)) (tgt : Nat) (ht : (pc : Int) + off = (tgt : Int)) (pc' : Nat) (hp : pc + 3 = pc') (kt : V E K M Q bc bs ws tgt lv st XT) (kf : V E K M Q bc bs ws pc' lv st XF) : V E K M Q bc bs ws pc lv (.int x :: st) (@ite _ (x ≤ (0 : Int32)) i XT XF) := by
  subst hp
  intro ok z hz H locs cells slots ls hP hD hS hl h1 h2
  exact lv_if_le ok.1 ok.2.1 hd ht (fun h => kt ok z (by rw [← hz, if_pos h]) H locs cells slots ls hP hD hS hl h1 h2) (fun h => kf ok z (by rw [← hz, if_neg h]) H locs cells slots ls hP hD hS hl h1 h2)

theorem V_goto {off : Int} {st : List Value} {pc : Nat} (hd : decode M.b pc = .ok (.goto off, 3)) (tgt : Nat) (ht : (pc : Int) + off = (tgt : Int)) (k : V E K M Q bc bs ws tgt lv st X) : V E K M Q bc bs ws pc lv st X := by
  intro ok z hz H locs cells slots ls hP hD hS hl h1 h2
  exact lv_goto ok.1 ok.2.1 hd ht (k ok z hz H locs cells slots ls hP hD hS hl h1 h2)

theorem V_ifnull {x : Nat} {off : Int} {st : List Value} {pc : Nat} (hd : decode M.b pc = .ok (.ifnull off, 3)) (pc' : Nat) (hp : pc + 3 = pc')  (k : V E K M Q bc bs ws pc' lv (st) X) : V E K M Q bc bs ws pc lv (.ref x :: st) X := by
  subst hp
  intro ok z hz H locs cells slots ls hP hD hS hl h1 h2
  exact lv_ifnull ok.1 ok.2.1 hd (k ok z hz H locs cells slots ls hP hD hS hl h1 h2)

theorem V_ifnonnull {x : Nat} {off : Int} {st : List Value} {pc : Nat} (hd : decode M.b pc = .ok (.ifnonnull off, 3)) (tgt : Nat) (ht : (pc : Int) + off = (tgt : Int)) (k : V E K M Q bc bs ws tgt lv st X) : V E K M Q bc bs ws pc lv (.ref x :: st) X := by
  intro ok z hz H locs cells slots ls hP hD hS hl h1 h2
  exact lv_ifnonnull ok.1 ok.2.1 hd ht (k ok z hz H locs cells slots ls hP hD hS hl h1 h2)

theorem V_ifnullN  {off : Int} {st : List Value} {pc : Nat} (hd : decode M.b pc = .ok (.ifnull off, 3)) (tgt : Nat) (ht : (pc : Int) + off = (tgt : Int)) (k : V E K M Q bc bs ws tgt lv st X) : V E K M Q bc bs ws pc lv (.null :: st) X := by
  intro ok z hz H locs cells slots ls hP hD hS hl h1 h2
  exact lv_ifnullN ok.1 ok.2.1 hd ht (k ok z hz H locs cells slots ls hP hD hS hl h1 h2)

theorem V_ifnonnullN  {off : Int} {st : List Value} {pc : Nat} (hd : decode M.b pc = .ok (.ifnonnull off, 3)) (pc' : Nat) (hp : pc + 3 = pc')  (k : V E K M Q bc bs ws pc' lv (st) X) : V E K M Q bc bs ws pc lv (.null :: st) X := by
  subst hp
  intro ok z hz H locs cells slots ls hP hD hS hl h1 h2
  exact lv_ifnonnullN ok.1 ok.2.1 hd (k ok z hz H locs cells slots ls hP hD hS hl h1 h2)

theorem V_istore_n {x : Int32} {k0 : Fin 4} {st : List Value} {pc : Nat} (hd : decode M.b pc = .ok (.istore_n k0, 1)) (pc' : Nat) (hp : pc + 1 = pc') (lv' : List (Nat × Value)) (hn : (k0 : Nat) < M.n) (hlv : lvS (k0 : Nat) (.int x) lv = lv') (k : V E K M Q bc bs ws pc' lv' st X) : V E K M Q bc bs ws pc lv (.int x :: st) X := by
  subst hp
  intro ok z hz H locs cells slots ls hP hD hS hl h1 h2
  exact lv_istore_n ok.1 ok.2.1 hd rfl hl hn rfl (fun ls' hl' => k ok z hz H locs cells slots ls' hP hD hS (by rw [← hlv]; exact lvS_has hl') h1 h2)

theorem V_istore {x : Int32} {k0 : Nat} {st : List Value} {pc : Nat} (hd : decode M.b pc = .ok (.istore k0, 2)) (pc' : Nat) (hp : pc + 2 = pc') (lv' : List (Nat × Value)) (hn : k0 < M.n) (hlv : lvS k0 (.int x) lv = lv') (k : V E K M Q bc bs ws pc' lv' st X) : V E K M Q bc bs ws pc lv (.int x :: st) X := by
  subst hp
  intro ok z hz H locs cells slots ls hP hD hS hl h1 h2
  exact lv_istore ok.1 ok.2.1 hd hl hn rfl (fun ls' hl' => k ok z hz H locs cells slots ls' hP hD hS (by rw [← hlv]; exact lvS_has hl') h1 h2)

theorem V_astore_n {x : Nat} {k0 : Fin 4} {st : List Value} {pc : Nat} (hd : decode M.b pc = .ok (.astore_n k0, 1)) (pc' : Nat) (hp : pc + 1 = pc') (lv' : List (Nat × Value)) (hn : (k0 : Nat) < M.n) (hlv : lvS (k0 : Nat) (.ref x) lv = lv') (k : V E K M Q bc bs ws pc' lv' st X) : V E K M Q bc bs ws pc lv (.ref x :: st) X := by
  subst hp
  intro ok z hz H locs cells slots ls hP hD hS hl h1 h2
  exact lv_astore_n ok.1 ok.2.1 hd rfl hl hn rfl (fun ls' hl' => k ok z hz H locs cells slots ls' hP hD hS (by rw [← hlv]; exact lvS_has hl') h1 h2)

theorem V_astore {x : Nat} {k0 : Nat} {st : List Value} {pc : Nat} (hd : decode M.b pc = .ok (.astore k0, 2)) (pc' : Nat) (hp : pc + 2 = pc') (lv' : List (Nat × Value)) (hn : k0 < M.n) (hlv : lvS k0 (.ref x) lv = lv') (k : V E K M Q bc bs ws pc' lv' st X) : V E K M Q bc bs ws pc lv (.ref x :: st) X := by
  subst hp
  intro ok z hz H locs cells slots ls hP hD hS hl h1 h2
  exact lv_astore ok.1 ok.2.1 hd hl hn rfl (fun ls' hl' => k ok z hz H locs cells slots ls' hP hD hS (by rw [← hlv]; exact lvS_has hl') h1 h2)

theorem V_astore_nN {k0 : Fin 4} {st : List Value} {pc : Nat} (hd : decode M.b pc = .ok (.astore_n k0, 1)) (pc' : Nat) (hp : pc + 1 = pc') (lv' : List (Nat × Value)) (hn : (k0 : Nat) < M.n) (hlv : lvS (k0 : Nat) (.null) lv = lv') (k : V E K M Q bc bs ws pc' lv' st X) : V E K M Q bc bs ws pc lv (.null :: st) X := by
  subst hp
  intro ok z hz H locs cells slots ls hP hD hS hl h1 h2
  exact lv_astore_nN ok.1 ok.2.1 hd rfl hl hn rfl (fun ls' hl' => k ok z hz H locs cells slots ls' hP hD hS (by rw [← hlv]; exact lvS_has hl') h1 h2)

theorem V_astoreN {k0 : Nat} {st : List Value} {pc : Nat} (hd : decode M.b pc = .ok (.astore k0, 2)) (pc' : Nat) (hp : pc + 2 = pc') (lv' : List (Nat × Value)) (hn : k0 < M.n) (hlv : lvS k0 (.null) lv = lv') (k : V E K M Q bc bs ws pc' lv' st X) : V E K M Q bc bs ws pc lv (.null :: st) X := by
  subst hp
  intro ok z hz H locs cells slots ls hP hD hS hl h1 h2
  exact lv_astoreN ok.1 ok.2.1 hd hl hn rfl (fun ls' hl' => k ok z hz H locs cells slots ls' hP hD hS (by rw [← hlv]; exact lvS_has hl') h1 h2)

theorem V_lstore_n {x : Int64} {k0 : Fin 4} {st : List Value} {pc : Nat} (hd : decode M.b pc = .ok (.lstore_n k0, 1)) (pc' : Nat) (hp : pc + 1 = pc') (lv' : List (Nat × Value)) (hn : (k0 : Nat) + 1 < M.n) (hlv : lvL (k0 : Nat) (.long x) lv = lv') (k : V E K M Q bc bs ws pc' lv' st X) : V E K M Q bc bs ws pc lv (.long x :: st) X := by
  subst hp
  intro ok z hz H locs cells slots ls hP hD hS hl h1 h2
  exact lv_lstore_n ok.1 ok.2.1 hd rfl hl hn rfl (fun ls' hl' => k ok z hz H locs cells slots ls' hP hD hS (by rw [← hlv]; exact lvL_has hl') h1 h2)

theorem V_lstore {x : Int64} {k0 : Nat} {st : List Value} {pc : Nat} (hd : decode M.b pc = .ok (.lstore k0, 2)) (pc' : Nat) (hp : pc + 2 = pc') (lv' : List (Nat × Value)) (hn : k0 + 1 < M.n) (hlv : lvL k0 (.long x) lv = lv') (k : V E K M Q bc bs ws pc' lv' st X) : V E K M Q bc bs ws pc lv (.long x :: st) X := by
  subst hp
  intro ok z hz H locs cells slots ls hP hD hS hl h1 h2
  exact lv_lstore ok.1 ok.2.1 hd hl hn rfl (fun ls' hl' => k ok z hz H locs cells slots ls' hP hD hS (by rw [← hlv]; exact lvL_has hl') h1 h2)

theorem V_iinc {i : Nat} {n : Int} {x : Int32} {st : List Value} {pc : Nat} (hd : decode M.b pc = .ok (.iinc i n, 3)) (pc' : Nat) (hp : pc + 3 = pc') (j : Nat) (hj : lv[j]? = some (i, Value.int x)) (v : Int32) (hv : x + Int32.ofInt n = v) (lv' : List (Nat × Value)) (hn : i < M.n) (hlv : lvS i (.int v) lv = lv') (k : V E K M Q bc bs ws pc' lv' st X) : V E K M Q bc bs ws pc lv st X := by
  subst hp
  intro ok z hz H locs cells slots ls hP hD hS hl h1 h2
  exact lv_iinc ok.1 ok.2.1 hd hl hj hv hn rfl (fun ls' hl' => k ok z hz H locs cells slots ls' hP hD hS (by rw [← hlv]; exact lvS_has hl') h1 h2)
/-! cells -/
def cfact (ci : Nat) (C : String) (T : u_T) (N : Nat) (ty : Nat → FieldType) : Prop := classes[ci]? = some (C, T, N) ∧ (∀ w ∈ u_ws C T N, w ∈ TB) ∧ (∀ k, k < N → parseFieldDescriptor (T k).2.2.1 = some (ty k)) ∧ (∀ a, a < N → ∀ b, b < N → a ≠ b → (T a).2.1 ≠ (T b).2.1)
/-- a field as the class's own words name it -/
def gfact (own : String) (idx ci k : Nat) : Prop := ∃ (C : String) (T : u_T) (N : Nat) (ty : Nat → FieldType), cfact ci C T N ty ∧ k < N ∧ Cond.fieldLink own idx (T k).1 (T k).2.1 (T k).2.2.1 ∈ TB
/-- a field of a nest mate -/
def gfactN (own : String) (idx ci k : Nat) : Prop := ∃ (C : String) (T : u_T) (N : Nat) (ty : Nat → FieldType) (host : String), cfact ci C T N ty ∧ k < N ∧ (own, idx, (T k).1, (T k).2.1, (T k).2.2.1, host) ∈ nestF
def pfact (own : String) (idx ci k : Nat) (tk : FieldType) (fin : Bool) : Prop := ∃ (C : String) (T : u_T) (N : Nat) (ty : Nat → FieldType), cfact ci C T N ty ∧ k < N ∧ Cond.fieldLink own idx (T k).1 (T k).2.1 (T k).2.2.1 ∈ TB ∧ ty k = tk ∧ (T k).2.2.2 = fin ∧ (fin = true → (T k).1 = own)
def pfactN (own : String) (idx ci k : Nat) (tk : FieldType) : Prop := ∃ (C : String) (T : u_T) (N : Nat) (ty : Nat → FieldType) (host : String), cfact ci C T N ty ∧ k < N ∧ (own, idx, (T k).1, (T k).2.1, (T k).2.2.1, host) ∈ nestF ∧ ty k = tk ∧ (T k).2.2.2 = false
def nfact (own : String) (idx ci N : Nat) (fs : List Value) : Prop := ∃ (C : String) (T : u_T) (ty : Nat → FieldType), cfact ci C T N ty ∧ Cond.classLink own idx C ∈ TB ∧ Cond.instantiable C N ∈ TB ∧ Cond.initialized C ∈ TB ∧ (∀ j, j < N → defaultValue (ty j) = vp_V fs j)
theorem V_get {idx ci k : Nat} (g : gfact M.y.cls idx ci k) {a : Nat} {fs : List Value} {v : Value} (q0 : Nat) (he : ws[q0]? = some (a, .inr (ci, fs))) (hv : fs[k]? = some v) {st : List Value} {pc : Nat} (hd : decode M.b pc = .ok (.getfield idx, 3)) (pc' : Nat) (hp : pc + 3 = pc') (kk : V E K M Q bc bs ws pc' lv (v :: st) X) : V E K M Q bc bs ws pc lv (.ref a :: st) X := by
  subst hp
  intro ok z hz H locs cells slots ls hP hD hS hl h1 h2
  obtain ⟨C, T, N, ty, ⟨f1, f2, -, -⟩, hk, hw⟩ := g
  exact va_get (D := E.1) (cl := classes) ok.1 ok.2.1 ok.2.2.2.2.1 f2 ok.2.2.2.1 ok.2.2.2.2.2.2.2.2.2.1 hP q0 he f1 k hk (ok.2.2.2.2.1 _ hw) (fun _ h => h) hv hd (kk ok z hz H locs cells slots ls hP hD hS hl h1 h2)
theorem V_getN {idx ci k : Nat} (g : gfactN M.y.cls idx ci k) {a : Nat} {fs : List Value} {v : Value} (q0 : Nat) (he : ws[q0]? = some (a, .inr (ci, fs))) (hv : fs[k]? = some v) {st : List Value} {pc : Nat} (hd : decode M.b pc = .ok (.getfield idx, 3)) (pc' : Nat) (hp : pc + 3 = pc') (kk : V E K M Q bc bs ws pc' lv (v :: st) X) : V E K M Q bc bs ws pc lv (.ref a :: st) X := by
  subst hp
  intro ok z hz H locs cells slots ls hP hD hS hl h1 h2
  obtain ⟨C, T, N, ty, host, ⟨f1, f2, -, -⟩, hk, hw⟩ := g
  have hw2 := ok.2.2.2.2.2.2.2.2.2.2.2.1 _ hw
  exact va_getN (D := E.1) (cl := classes) ok.1 ok.2.1 ok.2.2.2.2.1 f2 ok.2.2.2.1 ok.2.2.2.2.2.2.2.2.2.1 hP q0 he f1 k hk (va_Nw.use rfl hw2) (fun _ h => h) hv hd (kk ok z hz H locs cells slots ls hP hD hS hl h1 h2)
theorem V_put {idx ci k : Nat} {tk : FieldType} (g : pfact M.y.cls idx ci k tk false) {a : Nat} {fs : List Value} {v : Value} (q0 : Nat) (he : ws[q0]? = some (a, .inr (ci, fs))) (hn : narrow tk v = v) (hfit : fits tk v = true) (hlen : k < fs.length) {st : List Value} {pc : Nat} (hd : decode M.b pc = .ok (.putfield idx, 3)) (pc' : Nat) (hp : pc + 3 = pc') (ws' : va_W) (hws : ws.set q0 (a, .inr (ci, fs.set k v)) = ws') (kk : V E K M Q bc bs ws' pc' lv st X) : V E K M Q bc bs ws pc lv (v :: .ref a :: st) X := by
  subst hp; subst hws
  intro ok z hz H locs cells slots ls hP hD hS hl h1 h2
  obtain ⟨C, T, N, ty, ⟨f1, f2, f3, f4⟩, hk, hw, ht, hf, -⟩ := g
  exact va_put (D := E.1) (cl := classes) ok.1 ok.2.1 ok.2.2.2.2.1 f2 ty f3 f4 ok.2.2.2.1 ok.2.2.2.2.2.2.2.2.2.1 hP hD hS q0 he f1 k hk (ok.2.2.2.2.1 _ hw) (fun _ h => h) hf (by rw [← ht]; exact f3 k hk) hn hfit hlen hd (fun H1 locs1 hP hD hS => kk ok z hz H1 locs1 cells slots ls hP hD hS hl h1 h2)
theorem V_putF {idx ci k : Nat} {tk : FieldType} (g : pfact M.y.cls idx ci k tk true) (hini : M.y.name = "<init>") {a : Nat} {fs : List Value} {v : Value} (q0 : Nat) (he : ws[q0]? = some (a, .inr (ci, fs))) (hn : narrow tk v = v) (hfit : fits tk v = true) (hlen : k < fs.length) {st : List Value} {pc : Nat} (hd : decode M.b pc = .ok (.putfield idx, 3)) (pc' : Nat) (hp : pc + 3 = pc') (ws' : va_W) (hws : ws.set q0 (a, .inr (ci, fs.set k v)) = ws') (kk : V E K M Q bc bs ws' pc' lv st X) : V E K M Q bc bs ws pc lv (v :: .ref a :: st) X := by
  subst hp; subst hws
  intro ok z hz H locs cells slots ls hP hD hS hl h1 h2
  obtain ⟨C, T, N, ty, ⟨f1, f2, f3, f4⟩, hk, hw, ht, hf, ho⟩ := g
  exact va_putF (D := E.1) (cl := classes) ok.1 ok.2.1 ok.2.2.2.2.1 f2 ty f3 f4 ok.2.2.2.1 ok.2.2.2.2.2.2.2.2.2.1 hP hD hS q0 he f1 k hk (ok.2.2.2.2.1 _ hw) (fun _ h => h) hf ((ok.2.2.2.2.2.2.2.2.1 hini).trans hini) (ho rfl) (by rw [← ht]; exact f3 k hk) hn hfit hlen hd (fun H1 locs1 hP hD hS => kk ok z hz H1 locs1 cells slots ls hP hD hS hl h1 h2)
theorem V_putN {idx ci k : Nat} {tk : FieldType} (g : pfactN M.y.cls idx ci k tk) {a : Nat} {fs : List Value} {v : Value} (q0 : Nat) (he : ws[q0]? = some (a, .inr (ci, fs))) (hn : narrow tk v = v) (hfit : fits tk v = true) (hlen : k < fs.length) {st : List Value} {pc : Nat} (hd : decode M.b pc = .ok (.putfield idx, 3)) (pc' : Nat) (hp : pc + 3 = pc') (ws' : va_W) (hws : ws.set q0 (a, .inr (ci, fs.set k v)) = ws') (kk : V E K M Q bc bs ws' pc' lv st X) : V E K M Q bc bs ws pc lv (v :: .ref a :: st) X := by
  subst hp; subst hws
  intro ok z hz H locs cells slots ls hP hD hS hl h1 h2
  obtain ⟨C, T, N, ty, host, ⟨f1, f2, f3, f4⟩, hk, hw, ht, hf⟩ := g
  have hw2 := ok.2.2.2.2.2.2.2.2.2.2.2.1 _ hw
  exact va_putN (D := E.1) (cl := classes) ok.1 ok.2.1 ok.2.2.2.2.1 f2 ty f3 f4 ok.2.2.2.1 ok.2.2.2.2.2.2.2.2.2.1 hP hD hS q0 he f1 k hk (va_Nw.use rfl hw2) (fun _ h => h) hf (by rw [← ht]; exact f3 k hk) hn hfit hlen hd (fun H1 locs1 hP hD hS => kk ok z hz H1 locs1 cells slots ls hP hD hS hl h1 h2)
theorem V_new {idx ci N : Nat} {fs : List Value} (g : nfact M.y.cls idx ci N fs) {st : List Value} {pc : Nat} (hd : decode M.b pc = .ok (.new idx, 3)) (pc' : Nat) (hp : pc + 3 = pc') (bc' bs' : Nat) (hc : bc' + 1 ≤ bc) (hs : bs' + N ≤ bs) (kk : ∀ q : Nat, V E K M Q bc' bs' (ws ++ [(q, .inr (ci, fs))]) pc' lv (.ref q :: st) X) : V E K M Q bc bs ws pc lv st X := by
  subst hp
  intro ok z hz H locs cells slots ls hP hD hS hl h1 h2
  obtain ⟨C, T, ty, ⟨f1, f2, f3, f4⟩, w1, w2, w3, hfs⟩ := g
  exact va_new (D := E.1) (cl := classes) ok.1 ok.2.1 ok.2.2.2.2.1 f2 ty f3 ok.2.2.2.1 (ok.2.2.2.2.1 _ w1) (ok.2.2.2.2.1 _ w2) (ok.2.2.2.2.1 _ w3) ok.2.2.2.2.2.2.2.2.2.1 hP hD hS ok.2.2.2.2.2.2.2.2.2.2.1 f1 hfs (by omega) (by omega) hd (fun q H1 hP hD hS => kk q ok z hz H1 locs (cells + 1) (slots + N) ls hP hD hS hl (by omega) (by omega))
theorem V_iald {a n : Nat} {f : Nat → Int32} {i : Int32} (q0 : Nat) (he : ws[q0]? = some (a, .inl (E.2.1, n, .inl f))) {st : List Value} {pc : Nat} (hd : decode M.b pc = .ok (.iaload, 1)) (pc' : Nat) (hp : pc + 1 = pc') (kk : V E K M Q bc bs ws pc' lv (.int (f i.toNatClampNeg) :: st) X) : V E K M Q bc bs ws pc lv (.int i :: .ref a :: st) (inB i n X) := by
  subst hp
  intro ok z hz H locs cells slots ls hP hD hS hl h1 h2
  obtain ⟨hin, hz⟩ := inB_some hz
  exact va_iald (D := E.1) (cl := classes) ok.1 ok.2.1 ok.2.2.2.2.2.2.2.2.2.1 hP q0 0 he rfl hin hd (kk ok z hz H locs cells slots ls hP hD hS hl h1 h2)
theorem V_bald {a n : Nat} {f : Nat → Int32} {i : Int32} (q0 : Nat) (he : ws[q0]? = some (a, .inl (E.2.2.1, n, .inl f))) {st : List Value} {pc : Nat} (hd : decode M.b pc = .ok (.baload, 1)) (pc' : Nat) (hp : pc + 1 = pc') (kk : V E K M Q bc bs ws pc' lv (.int (f i.toNatClampNeg) :: st) X) : V E K M Q bc bs ws pc lv (.int i :: .ref a :: st) (inB i n X) := by
  subst hp
  intro ok z hz H locs cells slots ls hP hD hS hl h1 h2
  obtain ⟨hin, hz⟩ := inB_some hz
  exact va_bald (D := E.1) (cl := classes) ok.1 ok.2.1 ok.2.2.2.2.2.2.2.2.2.1 hP q0 1 he rfl hin hd (kk ok z hz H locs cells slots ls hP hD hS hl h1 h2)
theorem V_iast {a n : Nat} {f : Nat → Int32} {i x : Int32} (q0 : Nat) (he : ws[q0]? = some (a, .inl (E.2.1, n, .inl f))) {st : List Value} {pc : Nat} (hd : decode M.b pc = .ok (.iastore, 1)) (pc' : Nat) (hp : pc + 1 = pc') (ws' : va_W) (hws : ws.set q0 (a, .inl (E.2.1, n, .inl (upd f i.toNatClampNeg x))) = ws') (kk : V E K M Q bc bs ws' pc' lv st X) : V E K M Q bc bs ws pc lv (.int x :: .int i :: .ref a :: st) (inB i n X) := by
  subst hp; subst hws
  intro ok z hz H locs cells slots ls hP hD hS hl h1 h2
  obtain ⟨hin, hz⟩ := inB_some hz
  exact va_iast (D := E.1) (cl := classes) ok.1 ok.2.1 ok.2.2.2.2.2.2.2.2.2.1 hP hD hS q0 0 he rfl hin hd (fun H1 locs1 hP hD hS => kk ok z hz H1 locs1 cells slots ls hP hD hS hl h1 h2)
theorem V_bast {a n : Nat} {f : Nat → Int32} {i x : Int32} (q0 : Nat) (he : ws[q0]? = some (a, .inl (E.2.2.1, n, .inl f))) {st : List Value} {pc : Nat} (hd : decode M.b pc = .ok (.bastore, 1)) (pc' : Nat) (hp : pc + 1 = pc') (ws' : va_W) (hws : ws.set q0 (a, .inl (E.2.2.1, n, .inl (upd f i.toNatClampNeg (vp_nar .byte x)))) = ws') (kk : V E K M Q bc bs ws' pc' lv st X) : V E K M Q bc bs ws pc lv (.int x :: .int i :: .ref a :: st) (inB i n X) := by
  subst hp; subst hws
  intro ok z hz H locs cells slots ls hP hD hS hl h1 h2
  obtain ⟨hin, hz⟩ := inB_some hz
  exact va_bast (D := E.1) (cl := classes) ok.1 ok.2.1 ok.2.2.2.2.2.2.2.2.2.1 hP hD hS q0 1 he rfl hin hd (fun H1 locs1 hP hD hS => kk ok z hz H1 locs1 cells slots ls hP hD hS hl h1 h2)
theorem V_alen {a : Nat} {y : vp_A} (q0 : Nat) (he : ws[q0]? = some (a, .inl (E.2.1, y))) (v : Int32) (hv : Int32.ofNat y.1 = v) {st : List Value} {pc : Nat} (hd : decode M.b pc = .ok (.arraylength, 1)) (pc' : Nat) (hp : pc + 1 = pc') (kk : V E K M Q bc bs ws pc' lv (.int v :: st) X) : V E K M Q bc bs ws pc lv (.ref a :: st) X := by
  subst hp
  intro ok z hz H locs cells slots ls hP hD hS hl h1 h2
  exact va_alen (D := E.1) (cl := classes) ok.1 ok.2.1 ok.2.2.2.2.2.2.2.2.2.1 hP q0 0 he rfl hv hd (kk ok z hz H locs cells slots ls hP hD hS hl h1 h2)
theorem V_alenB {a : Nat} {y : vp_A} (q0 : Nat) (he : ws[q0]? = some (a, .inl (E.2.2.1, y))) (v : Int32) (hv : Int32.ofNat y.1 = v) {st : List Value} {pc : Nat} (hd : decode M.b pc = .ok (.arraylength, 1)) (pc' : Nat) (hp : pc + 1 = pc') (kk : V E K M Q bc bs ws pc' lv (.int v :: st) X) : V E K M Q bc bs ws pc lv (.ref a :: st) X := by
  subst hp
  intro ok z hz H locs cells slots ls hP hD hS hl h1 h2
  exact va_alen (D := E.1) (cl := classes) ok.1 ok.2.1 ok.2.2.2.2.2.2.2.2.2.1 hP q0 1 he rfl hv hd (kk ok z hz H locs cells slots ls hP hD hS hl h1 h2)
theorem tys_same {D : va_G} {cl : List vw_C} {tys : List (ClassId × FieldType)} {U : State} {t0 : Nat} {c0 cA : ClassId} {ty : FieldType} (h0 : tys[t0]? = some (c0, ty)) (hp : ty = .int ∨ ty = .byte) (h : va_K D cl (tys ++ [(cA, ty)]) U) : cA = c0 := by
  have h1 := (h.2 t0 (c0, ty) (by rw [List.getElem?_append_left (List.getElem?_eq_some_iff.mp h0).1]; exact h0)).2
  have h2 := (h.2 tys.length (cA, ty) (by simp)).2
  rcases hp with rfl | rfl <;> exact Option.some.inj (h2.symm.trans h1)
/-- a new int array: its length is no less than 0 and at most N0 -/
def nN {β : Type} (n : Int32) (N0 : Nat) (x : Option β) : Option β := if n < 0 ∨ N0 < n.toNatClampNeg then none else x
theorem nN_some {β : Type} {i : Int32} {n : Nat} {x : Option β} {z : β} (h : nN i n x = some z) : (¬ i < 0) ∧ i.toNatClampNeg ≤ n ∧ x = some z := by
  unfold nN at h
  split at h
  · cases h
  · rename_i g
    exact ⟨fun a => g (Or.inl a), Nat.le_of_not_lt (fun a => g (Or.inr a)), h⟩
theorem V_newi {n : Int32} {N0 : Nat} (hN : N0 * 4 ≤ 536870912) (hw : Cond.arrayClass .int ∈ TB) {st : List Value} {pc : Nat} (hd : decode M.b pc = .ok (.newarray .int, 2)) (pc' : Nat) (hp : pc + 2 = pc') (bc' bs' : Nat) (hc : bc' + 1 ≤ bc) (hs : bs' + N0 ≤ bs) (kk : ∀ q : Nat, V E K M Q bc' bs' (ws ++ [(q, .inl (E.2.1, n.toNatClampNeg, .inl (fun _ => 0)))]) pc' lv (.ref q :: st) X) : V E K M Q bc bs ws pc lv (.int n :: st) (nN n N0 X) := by
  subst hp
  intro ok z hz H locs cells slots ls hP hD hS hl h1 h2
  obtain ⟨hn, hle, hz⟩ := nN_some hz
  refine va_newa (D := E.1) (cl := classes) (tys := E.tys) (atype := .int) (ty := .int) (N' := n.toNatClampNeg) (a0 := (n.toNatClampNeg, .inl (fun _ => 0))) ok.1 ok.2.1 (ok.2.2.2.2.1 _ hw) rfl ok.2.2.2.2.2.2.2.2.2.1 hP hD hS ok.2.2.2.2.2.2.2.2.2.2.1 (fun _ => rfl) hn rfl (by show n.toNatClampNeg * 4 ≤ _; omega) (by omega) (by omega) hd (fun q cA H1 hK1 hP1 hD1 hS1 => ?_)
  have e := tys_same (t0 := 0) rfl (Or.inl rfl) hK1
  subst e
  exact kk q ok z hz H1 locs (cells + 1) (slots + n.toNatClampNeg) ls hP1 hD1 hS1 hl (by omega) (by omega)
/-- .. of a known length -/
theorem V_newc {n : Int32} (N0 : Nat) (hn : ¬ n < 0) (hN' : n.toNatClampNeg = N0) (hN : N0 * 4 ≤ 536870912) (hw : Cond.arrayClass .int ∈ TB) {st : List Value} {pc : Nat} (hd : decode M.b pc = .ok (.newarray .int, 2)) (pc' : Nat) (hp : pc + 2 = pc') (bc' bs' : Nat) (hc : bc' + 1 ≤ bc) (hs : bs' + N0 ≤ bs) (kk : ∀ q : Nat, V E K M Q bc' bs' (ws ++ [(q, .inl (E.2.1, N0, .inl (fun _ => 0)))]) pc' lv (.ref q :: st) X) : V E K M Q bc bs ws pc lv (.int n :: st) X := by
  subst hp
  intro ok z hz H locs cells slots ls hP hD hS hl h1 h2
  refine va_newa (D := E.1) (cl := classes) (tys := E.tys) (atype := .int) (ty := .int) (N' := N0) (a0 := (N0, .inl (fun _ => 0))) ok.1 ok.2.1 (ok.2.2.2.2.1 _ hw) rfl ok.2.2.2.2.2.2.2.2.2.1 hP hD hS ok.2.2.2.2.2.2.2.2.2.2.1 (fun _ => rfl) hn hN' (by show N0 * 4 ≤ _; omega) (by omega) (by omega) hd (fun q cA H1 hK1 hP1 hD1 hS1 => ?_)
  have e := tys_same (t0 := 0) rfl (Or.inl rfl) hK1
  subst e
  exact kk q ok z hz H1 locs (cells + 1) (slots + N0) ls hP1 hD1 hS1 hl (by omega) (by omega)
theorem V_newb {n : Int32} {N0 : Nat} (hN : N0 ≤ 536870912) (hw : Cond.arrayClass .byte ∈ TB) {st : List Value} {pc : Nat} (hd : decode M.b pc = .ok (.newarray .byte, 2)) (pc' : Nat) (hp : pc + 2 = pc') (bc' bs' : Nat) (hc : bc' + 1 ≤ bc) (hs : bs' + N0 ≤ bs) (kk : ∀ q : Nat, V E K M Q bc' bs' (ws ++ [(q, .inl (E.2.2.1, n.toNatClampNeg, .inl (fun _ => 0)))]) pc' lv (.ref q :: st) X) : V E K M Q bc bs ws pc lv (.int n :: st) (nN n N0 X) := by
  subst hp
  intro ok z hz H locs cells slots ls hP hD hS hl h1 h2
  obtain ⟨hn, hle, hz⟩ := nN_some hz
  refine va_newa (D := E.1) (cl := classes) (tys := E.tys) (atype := .byte) (ty := .byte) (N' := n.toNatClampNeg) (a0 := (n.toNatClampNeg, .inl (fun _ => 0))) ok.1 ok.2.1 (ok.2.2.2.2.1 _ hw) rfl ok.2.2.2.2.2.2.2.2.2.1 hP hD hS ok.2.2.2.2.2.2.2.2.2.2.1 (fun _ => rfl) hn rfl (by show n.toNatClampNeg * 1 ≤ _; omega) (by omega) (by omega) hd (fun q cA H1 hK1 hP1 hD1 hS1 => ?_)
  have e := tys_same (t0 := 1) rfl (Or.inr rfl) hK1
  subst e
  exact kk q ok z hz H1 locs (cells + 1) (slots + n.toNatClampNeg) ls hP1 hD1 hS1 hl (by omega) (by omega)
theorem V_objinit {idx : Nat} (w1 : Cond.methodLink M.y.cls idx Lib.objectInit ∈ TB) (w2 : Cond.instanceMethod Lib.objectInit ∈ TB) (w3 : Cond.code Lib.objectInit ⟨#[0xb1]⟩ 1 none ∈ TB) (hf : 1 ≤ M.rm.frames) {a : Nat} {st : List Value} (hr : 2 * (F0 K.m 0 #[] st).monitorRoom + (st.map fun v => v.category).sum + 12 ≤ M.rm.locals) {pc : Nat} (hd : decode M.b pc = .ok (.invokespecial idx, 3)) (pc' : Nat) (hp : pc + 3 = pc') (kk : V E K M Q bc bs ws pc' lv st X) : V E K M Q bc bs ws pc lv (.ref a :: st) X := by
  subst hp
  intro ok z hz H locs cells slots ls hP hD hS hl h1 h2
  refine W.objInit ok.1 ok.2.1 ok.2.2.2.1 (ok.2.2.2.2.1 _ w1) (ok.2.2.2.2.1 _ w2) (ok.2.2.2.2.1 _ w3) rfl (by rw [ok.2.2.1]; exact hl.1) rfl hd hf hr ?_
  exact kk ok z hz H locs cells slots ls hP hD hS hl h1 h2
theorem V_mmax {idx : Nat} (w1 : Cond.methodLink M.y.cls idx Lib.Math.max.name ∈ TB) (w2 : Cond.static Lib.Math.max.name ∈ TB) (w3 : Cond.initialized "java/lang/Math" ∈ TB) (w4 : Cond.code Lib.Math.max.name Lib.Math.max.code 2 (some .int) ∈ TB) (hf : 1 ≤ M.rm.frames) {st : List Value} (hr : (st.map fun v => v.category).sum + 13 ≤ M.rm.locals) {x y : Int32} {pc : Nat} (hd : decode M.b pc = .ok (.invokestatic idx, 3)) (pc' : Nat) (hp : pc + 3 = pc') (kk : V E K M Q bc bs ws pc' lv (.int (if x < y then y else x) :: st) X) : V E K M Q bc bs ws pc lv (.int y :: .int x :: st) X := by
  subst hp
  intro ok z hz H locs cells slots ls hP hD hS hl h1 h2
  exact va_mmax ok.1 ok.2.1 (ok.2.2.1.trans hl.1.symm) ok.2.2.2.1 (ok.2.2.2.2.1 _ w1) (ok.2.2.2.2.1 _ w2) (ok.2.2.2.2.1 _ w3) (ok.2.2.2.2.1 _ w4) hf hr (by omega) (by omega) hd (kk ok z hz H locs cells slots ls hP hD hS hl h1 h2)
theorem V_mmin {idx : Nat} (w1 : Cond.methodLink M.y.cls idx Lib.Math.min.name ∈ TB) (w2 : Cond.static Lib.Math.min.name ∈ TB) (w3 : Cond.initialized "java/lang/Math" ∈ TB) (w4 : Cond.code Lib.Math.min.name Lib.Math.min.code 2 (some .int) ∈ TB) (hf : 1 ≤ M.rm.frames) {st : List Value} (hr : (st.map fun v => v.category).sum + 13 ≤ M.rm.locals) {x y : Int32} {pc : Nat} (hd : decode M.b pc = .ok (.invokestatic idx, 3)) (pc' : Nat) (hp : pc + 3 = pc') (kk : V E K M Q bc bs ws pc' lv (.int (if y < x then y else x) :: st) X) : V E K M Q bc bs ws pc lv (.int y :: .int x :: st) X := by
  subst hp
  intro ok z hz H locs cells slots ls hP hD hS hl h1 h2
  exact va_mmin ok.1 ok.2.1 (ok.2.2.1.trans hl.1.symm) ok.2.2.2.1 (ok.2.2.2.2.1 _ w1) (ok.2.2.2.2.1 _ w2) (ok.2.2.2.2.1 _ w3) (ok.2.2.2.2.1 _ w4) hf hr (by omega) (by omega) hd (kk ok z hz H locs cells slots ls hP hD hS hl h1 h2)
/-! contracts -/
def WdT (E : EX) (A : Nat → Prop) (ws : va_W) (t : State) : Prop := va_P E.1 classes ws t.heap ∧ va_K E.1 classes E.tys t ∧ va_D A ws
def QR (E : EX) (A : Nat → Prop) {σ : Type} (ZZ : σ → Option Value → va_W → Prop) (z : σ) : Array Value → State → Outcome → State → Prop := fun _ st oc t => (∃ (v : Option Value) (w : va_W), oc = .returned v ∧ ZZ z v w ∧ WdT E A w t) ∧ va_F A st t
def Wd (E : EX) (ws : va_W) (sz : Nat) (U : State) : Prop := U.heap.size = sz ∧ va_P E.1 classes ws U.heap ∧ va_K E.1 classes E.tys U ∧ va_D (fun _ => True) ws ∧ GR E (va_A ws sz) U U.heap
def Ct (E : EX) (l : Launch) (M : MX) (avs : List Value) (ws : va_W) {σ : Type} (X : Option σ) (ZZ : σ → Option Value → va_W → Prop) : Prop :=
  ∀ z, X = some z → ∀ sz : Nat, Met l M.y (M.wc :: TB) M.rm (va_Pc avs (Wd E ws sz)) (QR E (va_A ws sz) ZZ z) M.rm.cells M.rm.slots (va_A ws sz)
def Qm (E : EX) (K : KX) (M : MX) {σ : Type} (ZZ : σ → Option Value → va_W → Prop) (z : σ) : State → Prop := MQ K.below (QR E K.A ZZ z) K.a K.s M.rm.cells M.rm.slots K.A
theorem Wd_blind {E : EX} {avs : List Value} {ws : va_W} {sz : Nat} : FrameBlind (va_Pc avs (Wd E ws sz)) := by
  intro a U g mk h
  obtain ⟨e, h1, h2, h3, h4, h5⟩ := h
  exact ⟨e, h1, h2, va_K.moved (u := U) (U := U.calling g mk a) (Vm.Alike.refl U.vm) h3, h4, GR.same (u := U) (U := U.calling g mk a) rfl h5⟩
theorem Ct_of {E : EX} {l : Launch} {M : MX} {avs : List Value} {ws : va_W} {σ : Type} {X : Option σ} {ZZ : σ → Option Value → va_W → Prop} (hl : l.stackTraces = false) (hp : plainName M.y.cls = true) (hs : (lg_sl avs).length ≤ M.n) (body : ∀ K : KX, K.l.stackTraces = false → V E K M (Qm E K M ZZ) M.rm.cells M.rm.slots ws 0 (lv_args 0 avs) [] X) : Ct E l M avs ws X ZZ := by
  intro z hz sz
  refine Met.ofW (cc := M.b) (maxL := M.n) (ret := M.ret) hp rfl ?_
  intro p e s m args below meth c s₁ B hml hv
  obtain ⟨rfl, hsz, hP, hK, hD0, hG⟩ := hv
  have hts := atoms_spec (ws := M.wc :: TB) B.pre
  subst hsz
  have hD := hD0.self (sz := s.heap.size)
  rw [lg_entry_eq]
  exact body (p, l, e, s, m, avs.toArray, below, meth, c, va_A ws s.heap.size) hl ⟨B.exec, B.bytes, hml, findClass_of_methodNamed B.named, fun w hw => hts w (List.mem_cons_of_mem _ hw), B.notSynchronized, B.returns, hl, (fun _ => (name_of_methodNamed B.named B.method).1), hK, fun q h => Or.inr h, hG⟩ z hz s.heap [] 0 0 _ hP hD va_S.rf (lv_entry avs hs) (by omega) (by omega)
/-! ends -/
theorem ret_Q {σ : Type} {ZZ : σ → Option Value → va_W → Prop} {z : σ} {v : Option Value} {H : Heap} {locs : List Loc} (ok : okX E K M) (hP : va_P E.1 classes ws H) (hD : va_D K.A ws) (hS : va_S K.A K.s.heap H locs) (hZ : ZZ z v ws) : ∀ t : State, t.heap = H → K.s.WarmedH t.vm → QR E K.A ZZ z K.a K.s (.returned v) t := by
  intro t ht hW
  exact ⟨⟨v, ws, rfl, hZ, by rw [ht]; exact hP, va_K.moved hW.alike ok.2.2.2.2.2.2.2.2.2.1, hD⟩, hS.F ht⟩
theorem V_iret {ZZ : ρ → Option Value → va_W → Prop} {z0 : ρ} {v : Int32} {pc : Nat} (hret : M.ret = some .int) (hd : decode M.b pc = .ok (.ireturn, 1)) (hZ : ZZ z0 (some (.int v)) ws) : V E K M (Qm E K M ZZ) bc bs ws pc lv [.int v] (some z0) := by
  intro ok z hz H locs cells slots ls hP hD hS hl h1 h2
  cases hz
  refine W.widen (k := M.rm.cells) (n := M.rm.slots) (by omega) (by omega) ?_
  exact W.iret ok.1 ok.2.1 (ok.2.2.2.2.2.2.1.trans hret) (ret_Q ok hP hD hS hZ) hS.2.2 hd ok.2.2.2.2.2.1
theorem V_zret {ZZ : ρ → Option Value → va_W → Prop} {z0 : ρ} {v : Int32} {pc : Nat} {ty : FieldType} (hret : M.ret = some ty) (hn : narrow ty (.int v) = .int v) (hd : decode M.b pc = .ok (.ireturn, 1)) (hZ : ZZ z0 (some (.int v)) ws) : V E K M (Qm E K M ZZ) bc bs ws pc lv [.int v] (some z0) := by
  intro ok z hz H locs cells slots ls hP hD hS hl h1 h2
  cases hz
  refine W.widen (k := M.rm.cells) (n := M.rm.slots) (by omega) (by omega) ?_
  exact W.zret ok.1 ok.2.1 (ok.2.2.2.2.2.2.1.trans hret) hn (ret_Q ok hP hD hS hZ) hS.2.2 hd ok.2.2.2.2.2.1
theorem V_lret {ZZ : ρ → Option Value → va_W → Prop} {z0 : ρ} {v : Int64} {pc : Nat} (hret : M.ret = some .long) (hd : decode M.b pc = .ok (.lreturn, 1)) (hZ : ZZ z0 (some (.long v)) ws) : V E K M (Qm E K M ZZ) bc bs ws pc lv [.long v] (some z0) := by
  intro ok z hz H locs cells slots ls hP hD hS hl h1 h2
  cases hz
  refine W.widen (k := M.rm.cells) (n := M.rm.slots) (by omega) (by omega) ?_
  exact W.lret ok.1 ok.2.1 (ok.2.2.2.2.2.2.1.trans hret) (ret_Q ok hP hD hS hZ) hS.2.2 hd ok.2.2.2.2.2.1
theorem V_vret {ZZ : ρ → Option Value → va_W → Prop} {z0 : ρ} {pc : Nat} (hret : M.ret = none) (hd : decode M.b pc = .ok (.return_, 1)) (hZ : ZZ z0 none ws) : V E K M (Qm E K M ZZ) bc bs ws pc lv [] (some z0) := by
  intro ok z hz H locs cells slots ls hP hD hS hl h1 h2
  cases hz
  refine W.widen (k := M.rm.cells) (n := M.rm.slots) (by omega) (by omega) ?_
  exact W.vret ok.1 ok.2.1 (ok.2.2.2.2.2.2.1.trans hret) (ret_Q ok hP hD hS hZ) hS.2.2 hd ok.2.2.2.2.2.1
theorem V_aret {ZZ : ρ → Option Value → va_W → Prop} {z0 : ρ} {v : Value} {pc : Nat} {ty : FieldType} (hret : M.ret = some ty) (hrt : (∃ n, ty = .object n) ∨ ∃ t, ty = .array t) (hv : v = .null ∨ ∃ a, v = .ref a) (hd : decode M.b pc = .ok (.areturn, 1)) (hZ : ZZ z0 (some v) ws) : V E K M (Qm E K M ZZ) bc bs ws pc lv [v] (some z0) := by
  intro ok z hz H locs cells slots ls hP hD hS hl h1 h2
  cases hz
  refine W.widen (k := M.rm.cells) (n := M.rm.slots) (by omega) (by omega) ?_
  exact W.aret ok.1 ok.2.1 (ok.2.2.2.2.2.2.1.trans hret) hrt hv (ret_Q ok hP hD hS hZ) hS.2.2 hd ok.2.2.2.2.2.1
/-! calls -/
def mfact (M : MX) (n : Nat) : Prop := plainName M.y.cls = true ∧ (M.y.cls ≠ "java/lang/invoke/MethodHandle" ∧ M.y.cls ≠ "java/lang/invoke/VarHandle") ∧ (parseMethodDescriptor M.y.desc).map (fun d => d.parameters.length) = some n ∧ M.wc ∈ TB ∧ Cond.initialized M.y.cls ∈ TB
theorem good_y {M : MX} {n : Nat} (h : mfact M n) : GoodIn TB (M.wc :: TB) := fun w hw => (List.mem_cons.mp hw).elim (fun e => by rw [e]; exact tb_good _ h.2.2.2.1) (tb_good w)
theorem callB_V {M' : MX} {n idx : Nat} (ok : okX E K M) (h : mfact M' n) (hw : Cond.methodLink M.y.cls idx M'.y ∈ TB) (hR : M'.rm.frames + 1 ≤ M.rm.frames ∧ 8 + (M'.n + 11) + M'.rm.locals ≤ M.rm.locals) : CallB M.rm K.s K.a M.y.cls idx M'.y M'.b M'.n M'.ret (M'.wc :: TB) M'.rm M'.rm.cells M'.rm.slots n :=
  callB_of n ok.2.2.2.2.1 (good_y h) rfl rfl rfl (ok.2.2.2.2.1 _ h.2.2.2.2) (ok.2.2.2.2.1 _ hw) ⟨h.2.1.1, h.2.1.2, h.2.2.1⟩ hR
theorem pc_of {avs : List Value} {wcs : va_W} {H : Heap} {locs : List Loc} (ok : okX E K M) (hP : va_P E.1 classes ws H) (hD : va_D K.A ws) (hS : va_S K.A K.s.heap H locs) (isC : List Nat) (hC : isC.map (fun i => ws[i]?) = wcs.map some) (hnC : va_nd isC = true) (U : State) (hU : U.heap = H) (hW : K.s.WarmedH U.vm) : va_Pc avs (Wd E wcs H.size) avs.toArray U := by
  have hFr := va_free hD hS ok.2.2.2.2.2.2.2.2.2.2.1 isC hC
  have hPc : va_P E.1 classes wcs H := by
    intro k q hk
    have h1 : (isC.map (fun i => ws[i]?))[k]? = some (some q) := by rw [hC, List.getElem?_map, hk]; rfl
    rw [List.getElem?_map] at h1
    cases hi : isC[k]? with
    | none => rw [hi] at h1; cases h1
    | some i => rw [hi] at h1; exact hP i q (Option.some.inj h1)
  refine ⟨rfl, by rw [hU], by rw [hU]; exact hPc, va_K.moved hW.alike ok.2.2.2.2.2.2.2.2.2.1, (hD.sub isC hnC hC).weaken (fun _ _ _ _ => trivial), ?_⟩
  rw [hU]
  exact GR.step hW (fun a h1 h2 => hS.2.1 a h1 h2) hFr ok.2.2.2.2.2.2.2.2.2.2.2
theorem V_after {σ : Type} {wcs wr : va_W} {ZZ : σ → Option Value → va_W → Prop} {z' : σ} {z : ρ} {Y : Option ρ} {H : Heap} {locs : List Loc} {cells slots mc ms bc' bs' : Nat} {ls : Array Slot} {pc pc' : Nat} {stk rest : List Value} {a : Array Value} (ok : okX E K M) (hP : va_P E.1 classes ws H) (hD : va_D K.A ws) (hS : va_S K.A K.s.heap H locs) (hl : lv_has ls M.n lv)
    (isC isR : List Nat) (hC : isC.map (fun i => ws[i]?) = wcs.map some) (hR : isR.map (fun i => ws[i]?) = wr.map some) (hn : va_nd isR = true) (hdis : ∀ i ∈ isR, i ∉ isC)
    (hr : va_Run K.p K.l K.e M.rm K.s K.m K.a K.below K.meth K.c H locs cells slots mc ms (F0 K.m pc ls stk) rest (QR E (va_A wcs H.size) ZZ z' a) (va_A wcs H.size)) (hp : pc + 3 = pc')
    (h1 : cells + mc + bc' ≤ M.rm.cells) (h2 : slots + ms + bs' ≤ M.rm.slots) (hz : Y = some z)
    (kk : ∀ (v : Option Value) (w1 : va_W), ZZ z' v w1 → V E K M Q bc' bs' (wr ++ w1) pc' lv (v.toList ++ rest) Y) : W K.p K.l K.e M.rm K.s K.m K.a K.below K.meth K.c H locs cells slots (Q z) (F0 K.m pc ls stk) := by
  subst hp
  have hFr := va_free hD hS ok.2.2.2.2.2.2.2.2.2.2.1 isC hC
  intro T hT Xs
  obtain ⟨v, st₀, t, T', L, h0, X', hL, e1, e2, ⟨⟨v', w1, hv, hZ, hP1, hK1, hD1⟩, hF⟩, st⟩ := hr T hT Xs
  cases hv
  obtain ⟨k1, k2, k3⟩ := vx_keep h0 e1 hS (fun q _ h => hFr q h) hFr hL hF
  have hj := va_join hP hD isC isR hC hR hn hdis k2 hFr (by rw [e1]; exact hP1) hD1
  obtain ⟨t2, a1, b1⟩ := kk v w1 hZ ok z hz T'.heap (locs ++ L) (cells + mc) (slots + ms) ls hj.1 hj.2 k3 hl h1 h2 T' rfl X'
  exact ⟨t2, st t2 a1, b1⟩
theorem bind_get {α β : Type} {x : Option α} {f : α → Option β} {z : β} (h : x.bind f = some z) : ∃ y, x = some y ∧ f y = some z := by
  cases x with
  | none => cases h
  | some y => exact ⟨y, rfl, h⟩
/-- a call by the receiver's class -/
theorem V_callV {σ : Type} {M' : MX} {b : Nat} {As : List Value} {wcs wr : va_W} {X' : Option σ} {F : σ → Option ρ} {ZZ : σ → Option Value → va_W → Prop} {n idx : Nat} {rest : List Value} {pc : Nat} (mf : mfact M' n) (w1 : Cond.methodLink M.y.cls idx M'.y ∈ TB) (w2 : Cond.instanceMethod M'.y ∈ TB) (w3 : Cond.selects M'.y.cls M'.y M'.y ∈ TB)
    (hR0 : M'.rm.frames + 1 ≤ M.rm.frames ∧ 8 + (M'.n + 11) + M'.rm.locals ≤ M.rm.locals) (hd : decode M.b pc = .ok (.invokevirtual idx, 3)) (pc' : Nat) (hp : pc + 3 = pc') (ct : Ct E K.l M' (.ref b :: As) wcs X' ZZ) (hn : As.length = n)
    (isC isR : List Nat) (hC : isC.map (fun i => ws[i]?) = wcs.map some) (hnC : va_nd isC = true) (hR : isR.map (fun i => ws[i]?) = wr.map some) (hnR : va_nd isR = true) (hdis : ∀ i ∈ isR, i ∉ isC)
    {q0 ci : Nat} {fs : List Value} {cq : vw_C} (he : wcs[q0]? = some (b, .inr (ci, fs))) (hci : classes[ci]? = some cq) (hcq : cq.1 = M'.y.cls) {stk : List Value} (hstk : stk = As.reverse ++ .ref b :: rest) (hrest : (rest.map fun v => v.category).sum ≤ 8)
    (bc' bs' : Nat) (hbc : bc' + M'.rm.cells ≤ bc) (hbs : bs' + M'.rm.slots ≤ bs) (kk : ∀ (z' : σ) (v : Option Value) (w : va_W), ZZ z' v w → V E K M Q bc' bs' (wr ++ w) pc' lv (v.toList ++ rest) (F z')) : V E K M Q bc bs ws pc lv stk (X'.bind F) := by
  subst hstk
  intro ok z hz H locs cells slots ls hP hD hS hl h1 h2
  obtain ⟨z', hz', hF⟩ := bind_get hz
  have hPw := pc_of (avs := .ref b :: As) ok hP hD hS isC hC hnC
  have hrecv : ∃ cell : Cell, H[b]? = some cell ∧ cell.vm.isStatics = false ∧ K.s.vm.findClass M'.y.cls = some cell.cls := by
    have h1 : (isC.map (fun i => ws[i]?))[q0]? = some (some (b, .inr (ci, fs))) := by rw [hC, List.getElem?_map, he]; rfl
    rw [List.getElem?_map] at h1
    cases hi : isC[q0]? with
    | none => rw [hi] at h1; cases h1
    | some i => rw [hi] at h1; rw [← hcq]; exact va_recv ok.2.2.2.2.2.2.2.2.2.1 hP hci (Option.some.inj h1)
  refine V_after ok hP hD hS hl isC isR hC hR hnR hdis (va_runV (C := M'.y.cls) (As := As) (rest := rest) (n := n) ⟨ok.1, ok.2.1, ok.2.2.1, ok.2.2.2.1, ok.2.2.2.2.1⟩ (ct z' hz' H.size) ⟨callB_V ok mf w1 hR0, ok.2.2.2.2.1 _ w2, ok.2.2.2.2.1 _ w3⟩ ⟨Wd_blind, hrecv, hPw⟩ rfl hn hl.1 rfl (lv_room hrest) hd ⟨by omega, by omega⟩) hp (bc' := bc') (bs' := bs') (by omega) (by omega) hF (fun v w h => kk z' v w h)
theorem V_callS {σ : Type} {M' : MX} {As : List Value} {wcs wr : va_W} {X' : Option σ} {F : σ → Option ρ} {ZZ : σ → Option Value → va_W → Prop} {n idx : Nat} {rest : List Value} {pc : Nat} (mf : mfact M' n) (w1 : Cond.methodLink M.y.cls idx M'.y ∈ TB) (w2 : Cond.static M'.y ∈ TB)
    (hR0 : M'.rm.frames + 1 ≤ M.rm.frames ∧ 8 + (M'.n + 11) + M'.rm.locals ≤ M.rm.locals) (hd : decode M.b pc = .ok (.invokestatic idx, 3)) (pc' : Nat) (hp : pc + 3 = pc') (ct : Ct E K.l M' As wcs X' ZZ) (hn : As.length = n)
    (isC isR : List Nat) (hC : isC.map (fun i => ws[i]?) = wcs.map some) (hnC : va_nd isC = true) (hR : isR.map (fun i => ws[i]?) = wr.map some) (hnR : va_nd isR = true) (hdis : ∀ i ∈ isR, i ∉ isC) {stk : List Value} (hstk : stk = As.reverse ++ rest) (hrest : (rest.map fun v => v.category).sum ≤ 8)
    (bc' bs' : Nat) (hbc : bc' + M'.rm.cells ≤ bc) (hbs : bs' + M'.rm.slots ≤ bs) (kk : ∀ (z' : σ) (v : Option Value) (w : va_W), ZZ z' v w → V E K M Q bc' bs' (wr ++ w) pc' lv (v.toList ++ rest) (F z')) : V E K M Q bc bs ws pc lv stk (X'.bind F) := by
  subst hstk
  intro ok z hz H locs cells slots ls hP hD hS hl h1 h2
  obtain ⟨z', hz', hF⟩ := bind_get hz
  have hPw := pc_of (avs := As) ok hP hD hS isC hC hnC
  refine V_after ok hP hD hS hl isC isR hC hR hnR hdis (va_runS (As := As) (rest := rest) (n := n) ⟨ok.1, ok.2.1, ok.2.2.1, ok.2.2.2.1, ok.2.2.2.2.1⟩ (ct z' hz' H.size) ⟨callB_V ok mf w1 hR0, ok.2.2.2.2.1 _ w2⟩ ⟨Wd_blind, hPw⟩ rfl hn hl.1 rfl (lv_room hrest) hd ⟨by omega, by omega⟩) hp (bc' := bc') (bs' := bs') (by omega) (by omega) hF (fun v w h => kk z' v w h)
end VR
