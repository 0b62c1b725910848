/-! THE PACKED JUDGEMENT: V, over the kit's W; its rows; contracts Ct -/
/-- 'selects' of the private methods of the class above StringBuilder: out of the tables' own words (selects_up) -/
def xsel : List Cond := ["ensureCapacityInternal", "newCapacity", "putStringAt", "inflateIfNeededFor"].zip ["(I)V", "(I)I", "(ILjava/lang/String;)V", "(Ljava/lang/String;)V"] |>.map fun q => Cond.selects "java/lang/StringBuilder" ⟨"java/lang/AbstractStringBuilder", q.1, q.2⟩ ⟨"java/lang/AbstractStringBuilder", q.1, q.2⟩
def TB : List Cond := (lw_tbl ++ xsel).filter goodWord
theorem tb_in {w : Cond} (i : Nat) (h : lw_tbl[i]? = some w) (g : goodWord w = true) : w ∈ TB := List.mem_filter.mpr ⟨List.mem_append_left _ (List.mem_of_getElem? h), g⟩
theorem tb_inx {w : Cond} (h : w ∈ xsel) (g : goodWord w = true) : w ∈ TB := List.mem_filter.mpr ⟨List.mem_append_right _ h, g⟩
theorem tb_good : GoodIn TB TB := fun w h => ⟨h, good_of_word (List.mem_filter.mp h).2⟩
abbrev classes : List vw_C := [(RX6, TX6, 8), (RX2, TX2, 5), (RX1, TX1, 1), (RX5, TX5, 3), (RX4, TX4, 2), (RX3, TX3, 3), (RJ4, TJ4, 4), (RJ0, TJ0, 4), (RX7, TX7, 2), (RX8, TX8, 9)]
abbrev EX : Type := va_G × ClassId × ClassId × (Nat → Nat) × (Nat → Nat) × Nat × Nat
abbrev KX : Type := Program × Launch × Env × State × MethodId × Array Value × List Frame × Method × Code × (Nat → Prop)
abbrev KX.p (K : KX) : Program := K.1
abbrev KX.l (K : KX) : Launch := K.2.1
abbrev KX.e (K : KX) : Env := K.2.2.1
abbrev KX.s (K : KX) : State := K.2.2.2.1
abbrev KX.m (K : KX) : MethodId := K.2.2.2.2.1
abbrev KX.a (K : KX) : Array Value := K.2.2.2.2.2.1
abbrev KX.below (K : KX) : List Frame := K.2.2.2.2.2.2.1
abbrev KX.meth (K : KX) : Method := K.2.2.2.2.2.2.2.1
abbrev KX.c (K : KX) : Code := K.2.2.2.2.2.2.2.2.1
abbrev KX.A (K : KX) : Nat → Prop := K.2.2.2.2.2.2.2.2.2
abbrev MX : Type := MethodName × ByteArray × Nat × Option FieldType × Room
abbrev MX.y (M : MX) : MethodName := M.1
abbrev MX.b (M : MX) : ByteArray := M.2.1
abbrev MX.n (M : MX) : Nat := M.2.2.1
abbrev MX.ret (M : MX) : Option FieldType := M.2.2.2.1
abbrev MX.rm (M : MX) : Room := M.2.2.2.2
def MX.wc (M : MX) : Cond := .code M.y M.b M.n M.ret
/-- the words that speak of a nest's private members, of casts -/
def nestF : List (String × Nat × String × String × String × String) := [("Brookmill", 48, "Brookmill$Net", "many", "I", "Brookmill"), ("Brookmill$PartFinder", 35, "Brookmill$Net", "many", "I", "Brookmill"), ("Brookmill$Cuts", 22, "Brookmill$Net", "many", "I", "Brookmill"), ("Brookmill$TrackFinder", 90, "Brookmill$Net", "many", "I", "Brookmill"), ("Brookmill$Cuts", 9, "Brookmill$Net", "source", "I", "Brookmill"), ("Brookmill$PartFinder", 24, "Brookmill$Net", "source", "I", "Brookmill"), ("Brookmill", 64, "Brookmill$Net", "source", "I", "Brookmill"), ("Brookmill$TrackFinder", 61, "Brookmill$Net", "source", "I", "Brookmill"), ("Brookmill$Cuts", 19, "Brookmill$Net", "goal", "I", "Brookmill"), ("Brookmill$PartFinder", 28, "Brookmill$Net", "goal", "I", "Brookmill"), ("Brookmill", 67, "Brookmill$Net", "goal", "I", "Brookmill"), ("Brookmill$TrackFinder", 64, "Brookmill$Net", "goal", "I", "Brookmill"), ("Brookmill$Cuts", 42, "Brookmill$Net", "rooms", "LBrookmill$Grid;", "Brookmill"), ("Brookmill", 86, "Brookmill$Net", "rooms", "LBrookmill$Grid;", "Brookmill"), ("Brookmill$TrackFinder", 91, "Brookmill$Net", "rooms", "LBrookmill$Grid;", "Brookmill"), ("Brookmill", 70, "Brookmill$Net", "flows", "LBrookmill$Grid;", "Brookmill"), ("Brookmill$PartFinder", 77, "Brookmill$Net", "flows", "LBrookmill$Grid;", "Brookmill"), ("Brookmill$TrackFinder", 99, "Brookmill$Net", "flows", "LBrookmill$Grid;", "Brookmill"), ("Brookmill$Cuts", 63, "Brookmill$Net", "flows", "LBrookmill$Grid;", "Brookmill"), ("Brookmill$TrackFinder", 26, "Brookmill$Row", "length", "I", "Brookmill"), ("Brookmill$PartFinder", 87, "Brookmill$Row", "length", "I", "Brookmill"), ("Brookmill$Net", 47, "Brookmill$Row", "length", "I", "Brookmill"), ("Brookmill", 304, "Brookmill$Row", "length", "I", "Brookmill"), ("Brookmill", 205, "Brookmill$TrackFinder", "found", "LBrookmill$Row;", "Brookmill"), ("Brookmill", 313, "Brookmill$PartFinder", "row", "LBrookmill$Row;", "Brookmill"), ("Brookmill", 139, "Brookmill$PartFinder", "amount", "I", "Brookmill"), ("Brookmill", 222, "Brookmill$PartFinder", "isRing", "Z", "Brookmill"), ("BrookmillLaw", 13, "BrookmillLaw$Out", "n", "J", "BrookmillLaw"), ("BrookmillLaw", 69, "BrookmillLaw$Out", "s", "Ljava/lang/String;", "BrookmillLaw")]
def nestM : List (String × Nat × MethodName × String) := [("Brookmill", 9, ⟨"Brookmill$Net", "<init>", "()V"⟩, "Brookmill"), ("Brookmill$Net", 9, ⟨"Brookmill$Grid", "<init>", "()V"⟩, "Brookmill"), ("Brookmill", 21, ⟨"Brookmill$TrackFinder", "<init>", "()V"⟩, "Brookmill"), ("Brookmill$TrackFinder", 11, ⟨"Brookmill$Row", "<init>", "()V"⟩, "Brookmill"), ("Brookmill", 28, ⟨"Brookmill$PartFinder", "<init>", "()V"⟩, "Brookmill"), ("Brookmill$PartFinder", 11, ⟨"Brookmill$Row", "<init>", "()V"⟩, "Brookmill"), ("Brookmill$PartFinder", 70, ⟨"Brookmill", "holds", "(II)Z"⟩, "Brookmill"), ("Brookmill$Cuts", 15, ⟨"Brookmill", "holds", "(II)Z"⟩, "Brookmill"), ("Brookmill$TrackFinder", 102, ⟨"Brookmill", "holds", "(II)Z"⟩, "Brookmill"), ("BrookmillLaw", 114, ⟨"BrookmillLaw$Out", "<init>", "()V"⟩, "BrookmillLaw")]
def nestC : List (String × String) := [("java/lang/IllegalArgumentException", "java/lang/IllegalArgumentException"), ("[B", "java/lang/Cloneable"), ("java/lang/ArrayIndexOutOfBoundsException", "java/lang/ArrayIndexOutOfBoundsException"), ("java/lang/IndexOutOfBoundsException", "java/lang/IndexOutOfBoundsException"), ("java/lang/ArrayIndexOutOfBoundsException", "java/lang/IndexOutOfBoundsException"), ("java/lang/StringIndexOutOfBoundsException", "java/lang/IndexOutOfBoundsException")]
def nestD : List MethodName := [⟨"java/lang/RuntimeException", "<init>", "()V"⟩, ⟨"java/lang/RuntimeException", "<init>", "(Ljava/lang/String;)V"⟩, ⟨"java/lang/Exception", "<init>", "()V"⟩, ⟨"java/lang/Exception", "<init>", "(Ljava/lang/String;)V"⟩, ⟨"java/lang/Throwable", "<init>", "()V"⟩, ⟨"java/lang/Throwable", "<init>", "(Ljava/lang/String;)V"⟩, ⟨"java/lang/IndexOutOfBoundsException", "<init>", "()V"⟩, ⟨"java/lang/IndexOutOfBoundsException", "<init>", "(Ljava/lang/String;)V"⟩]
def nestB : List Cond := nestC.map (fun q => .castable q.1 q.2) ++ nestD.map .declares
/-- String constants: owner, place, text; their lengths and bytes -/
def strs : List (String × Nat × String) := [("Brookmill", 334, "a number out of bounds"), ("Brookmill", 321, "no such place"), ("Brookmill", 328, "the same place twice"), ("BrookmillModel", 114, ""), ("BrookmillModel", 112, " "), ("BrookmillModel", 123, ":"), ("BrookmillModel", 107, "-")]
def strL : List Nat := [22, 13, 20, 0, 1, 1, 1]
def strB : List (List Int32) := [[97, 32, 110, 117, 109, 98, 101, 114, 32, 111, 117, 116, 32, 111, 102, 32, 98, 111, 117, 110, 100, 115], [110, 111, 32, 115, 117, 99, 104, 32, 112, 108, 97, 99, 101], [116, 104, 101, 32, 115, 97, 109, 101, 32, 112, 108, 97, 99, 101, 32, 116, 119, 105, 99, 101], [], [32], [58], [45]]
/-- what every method may take as given: words of nests, String constants, statics -/
def GR (E : EX) (A : Nat → Prop) (U : State) (H : Heap) : Prop :=
  (∀ q ∈ nestF, va_Nw (.fieldLinkNest q.1 q.2.1 q.2.2.1 q.2.2.2.1 q.2.2.2.2.1 q.2.2.2.2.2) U) ∧ (∀ q ∈ nestM, va_Nw (.methodLinkNest q.1 q.2.1 q.2.2.1 q.2.2.2) U) ∧
  vk_S 7 strL strB E.2.2.2.1 E.2.2.2.2.1 A U H ∧ (∀ i : Nat, ∀ q, strs[i]? = some q → vk_R q.1 q.2.1 q.2.2 (E.2.2.2.1 i) U) ∧
  va_Z "java/lang/String" "COMPACT_STRINGS" "Z" (.int 1) A U H ∧
  va_Z "java/lang/Integer" "DigitOnes" "[B" (.ref E.2.2.2.2.2.1) A U H ∧ va_T .byte E.2.2.2.2.2.1 100 (fun k => .int (nI (48 + k % 10))) A U H ∧
  va_Z "java/lang/Integer" "DigitTens" "[B" (.ref E.2.2.2.2.2.2) A U H ∧ va_T .byte E.2.2.2.2.2.2 100 (fun k => .int (nI (48 + k / 10))) A U H ∧
  vx_Zq Bundle.tN "UNASSIGNED_STACK" Bundle.steD A U H ∧ vx_Zq Bundle.tN "SUPPRESSED_SENTINEL" Bundle.listD A U H ∧
  (∀ q ∈ nestC, va_Nw (.castable q.1 q.2) U) ∧ (∀ q ∈ nestD, va_Nw (.declares q) U) ∧ va_Nc "java/lang/IllegalArgumentException" "java/lang/IndexOutOfBoundsException" U
theorem GR.same {E : EX} {A : Nat → Prop} {u U : State} {H : Heap} (hv : u.vm = U.vm) (h : GR E A u H) : GR E A U H := by
  have ha : u.vm.Alike U.vm := by rw [hv]; exact Vm.Alike.refl U.vm
  obtain ⟨h1, h2, h3, h4, h5, h6, h7, h8, h9, h10, h11, h12, h13, h14⟩ := h
  exact ⟨fun q hq => va_Nw.same rfl hv (h1 q hq), fun q hq => va_Nw.same rfl hv (h2 q hq), vk_S.moved ha h3, fun i q hq => vk_R.same hv.symm (h4 i q hq), va_Z.moved ha h5, va_Z.moved ha h6, va_T.moved ha h7, va_Z.moved ha h8, va_T.moved ha h9, vx_Zq.moved ha h10, vx_Zq.moved ha h11, fun q hq => va_Nw.same rfl hv (h12 q hq), fun q hq => va_Nw.same rfl hv (h13 q hq), va_Nc.moved ha h14⟩
theorem GR.step {E : EX} {A B : Nat → Prop} {s U : State} {H0 H : Heap} (hW : s.WarmedH U.vm) (hq : ∀ a : Nat, a < H0.size → ¬ A a → H[a]? = H0[a]?) (hAB : ∀ q, B q → A q) (h : GR E A s H0) : GR E B U H := by
  have ha : s.vm.Alike U.vm := hW.alike
  obtain ⟨h1, h2, h3, h4, h5, h6, h7, h8, h9, h10, h11, h12, h13, h14⟩ := h
  exact ⟨fun q hq => va_Nw.warmF hW (h1 q hq), fun q hq => va_Nw.warmM hW (h2 q hq), vk_S.narrow (vk_S.moved ha (vk_S.kept h3 hq)) hAB, fun i q hq => vk_R.warm hW (h4 i q hq), va_Z.narrow (va_Z.moved ha (va_Z.kept h5 hq)) hAB, va_Z.narrow (va_Z.moved ha (va_Z.kept h6 hq)) hAB, va_T.narrow (va_T.moved ha (va_T.kept h7 hq)) hAB, va_Z.narrow (va_Z.moved ha (va_Z.kept h8 hq)) hAB, va_T.narrow (va_T.moved ha (va_T.kept h9 hq)) hAB, vx_Zq.narrow (vx_Zq.moved ha (vx_Zq.kept h10 hq)) hAB, vx_Zq.narrow (vx_Zq.moved ha (vx_Zq.kept h11 hq)) hAB, fun q hq => va_Nw.warmC hW (h12 q hq), fun q hq => va_Nw.warmD hW (h13 q hq), va_Nc.moved ha h14⟩
abbrev EX.tys (E : EX) : List (ClassId × FieldType) := [(E.2.1, .int), (E.2.2.1, .byte)]
def okX (E : EX) (K : KX) (M : MX) : Prop :=
  K.p.tables.exec = Jvm.exec ∧ K.c.code = M.b ∧ K.c.maxLocals = M.n ∧ K.s.vm.findClass M.y.cls = some K.m.cls ∧ (∀ w ∈ TB, w.before K.a K.s = true) ∧ K.meth.locks = false ∧ K.meth.sig.returnType = M.ret ∧ K.l.stackTraces = false ∧ (M.y.name = "<init>" → K.meth.name = M.y.name) ∧
  va_K E.1 classes E.tys K.s ∧ (∀ q : Nat, K.s.heap.size ≤ q → K.A q) ∧ GR E K.A K.s K.s.heap
def V (E : EX) (K : KX) (M : MX) {ρ : Type} (Q : ρ → State → Prop) (bc bs : Nat) (ws : va_W) (pc : Nat) (lv : List (Nat × Value)) (st : List Value) (X : Option ρ) : Prop :=
  okX E K M → ∀ z, X = some z → ∀ (H : Heap) (locs : List Loc) (cells slots : Nat) (ls : Array Slot), va_P E.1 classes ws H → va_D K.A ws → va_S K.A K.s.heap H locs → lv_has ls M.n lv → cells + bc ≤ M.rm.cells → slots + bs ≤ M.rm.slots →
    W K.p K.l K.e M.rm K.s K.m K.a K.below K.meth K.c H locs cells slots (Q z) (F0 K.m pc ls st)
