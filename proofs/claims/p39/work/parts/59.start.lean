/-! THE CLAIM OUT OF ONE WALK OF THE LAW'S BODY. Your part is whole_start (and what it stands on); all else here is the same for every law, but numbers. -/
def R_law : String := "BrookmillLaw"
def lw_P (b : Addr) (xs : List Int32) (args : Array Value) (s : State) : Prop := args = #[.ref b] ∧ s.IntsAt b xs ∧ xs.length ≤ 320 ∧ (Jvm.Cond.and given_1 narrow_1).before args s = true
def lw_Q (_ : Array Value) (s : State) (o : Outcome) (t : State) : Prop := o = .returned (some (.int 1)) ∧ Framed s o t [] 600128 7301098
def lw_Z (below : List Frame) (a : Array Value) (s : State) : State → Prop := fun t => ∃ o, t.status = .running ∧ Ended t below o ∧ lw_Q a s o t
/-- the law's own end, with 1 on the stack, nothing written that was there before, its room as the claim has it -/
theorem lw_ret {p : Program} {l : Launch} {e : Env} {s : State} {m : MethodId} {below : List Frame} {meth : Method} {c : Code} {b : Nat} (hx : p.tables.exec = Jvm.exec) (hb : c.code = code) (hr : meth.sig.returnType = ret) (hlocks : meth.locks = false) {pc : Nat} {H : Heap} {ls : Array Slot} (hdg : decode code pc = .ok (.ireturn, 1)) : W p l e room_1 s m #[Value.ref b] below meth c H [] 600128 7301098 (lw_Z below #[Value.ref b] s) (F0 m pc ls [.int 1]) := by
  intro T hT X
  obtain ⟨fs, hret, hrun, hended, hW, hframe⟩ := X.leave (v := some (.int 1)) (hlocks := hlocks) (fun h => by rw [hr] at h; cases h)
  have hmeth' : T.vm.method? m = some meth := X.method'
  refine ⟨T.setFrames fs, ?_, .returned (some (.int 1)), hrun, hended, rfl, ⟨_, rfl⟩, hW, hframe⟩
  jvm_step X.here [X.here.top, hx, hb, hdg, hmeth', hr, ret, narrow_b1]
  (try refine ⟨rfl, ?_⟩); (try refine ⟨rfl, ?_⟩)
  first | (intro acts; rw [hret _ acts rfl rfl rfl]) | rw [hret _ _ rfl rfl rfl]
  exact Steps.refl _
/-- what holds at the law's entry: the machine, the code, the tables' words (any of lw_tbl by 'hts w (by decide +kernel)'), the script of L ints xs at the cell b, what the Statement gives of the start (any of its parts by flat_of_before) -/
def lw_At (p : Program) (s : State) (m : MethodId) (meth : Method) (c : Code) (b L : Nat) (xs : Nat → Int32) : Prop :=
  p.tables.exec = Jvm.exec ∧ c.code = code ∧ meth.sig.returnType = ret ∧ c.maxLocals = 7 ∧ s.vm.findClass R_law = some m.cls ∧ (∀ w ∈ lw_tbl, w.before #[Value.ref b] s = true) ∧ va_X b L xs s s.heap ∧ b < s.heap.size ∧ meth.locks = false ∧ (Jvm.Cond.and given_1 narrow_1).before #[Value.ref b] s = true
/-! the rows of V for the law's own body -/
def QL (K : KX) (b : Nat) : Unit → State → Prop := fun _ => lw_Z K.below #[Value.ref b] K.s
/-- what the law's body stands on: its script, the cells that it may write -/
def lawAt (K : KX) (b L : Nat) (xs : Nat → Int32) : Prop := va_X b L xs K.s K.s.heap ∧ b < K.s.heap.size ∧ ¬ K.A b ∧ (∀ q, K.A q → K.s.heap.size ≤ q) ∧ K.a = #[Value.ref b]
section VLAW
variable {E : EX} {K : KX} {M : MX} {ρ : Type} {Q : ρ → State → Prop} {bc bs : Nat} {ws : va_W} {lv : List (Nat × Value)} {X : Option ρ} {b L : Nat} {xs : Nat → Int32}
theorem V_sld (hA : lawAt K b L xs) {i : Int32} {st : List Value} {pc : Nat} (hd : decode M.b pc = .ok (.iaload, 1)) (pc' : Nat) (hp : pc + 1 = pc') (kk : V E K M Q bc bs ws pc' lv (.int (xs i.toNatClampNeg) :: st) X) : V E K M Q bc bs ws pc lv (.int i :: .ref b :: st) (inB i L X) := by
  subst hp
  intro ok z hz H locs cells slots ls hP hD hS hl h1 h2
  obtain ⟨hin, hz⟩ := inB_some hz
  exact va_sld ok.1 ok.2.1 hA.1 hA.2.1 hA.2.2.1 hS hin hd (kk ok z hz H locs cells slots ls hP hD hS hl h1 h2)
theorem V_slen (hA : lawAt K b L xs) {st : List Value} {pc : Nat} (hd : decode M.b pc = .ok (.arraylength, 1)) (pc' : Nat) (hp : pc + 1 = pc') (kk : V E K M Q bc bs ws pc' lv (.int (Int32.ofNat L) :: st) X) : V E K M Q bc bs ws pc lv (.ref b :: st) X := by
  subst hp
  intro ok z hz H locs cells slots ls hP hD hS hl h1 h2
  exact va_slen ok.1 ok.2.1 hA.1 hA.2.1 hA.2.2.1 hS hd (kk ok z hz H locs cells slots ls hP hD hS hl h1 h2)
theorem V_lcmp {x y : Int64} {st : List Value} {pc : Nat} (hd : decode M.b pc = .ok (.lcmp, 1)) (pc' : Nat) (hp : pc + 1 = pc') (kk : V E K M Q bc bs ws pc' lv (.int (lg_cmp x y) :: st) X) : V E K M Q bc bs ws pc lv (.long y :: .long x :: st) X := by
  subst hp
  intro ok z hz H locs cells slots ls hP hD hS hl h1 h2
  exact W.lcmp ok.1 ok.2.1 hd (kk ok z hz H locs cells slots ls hP hD hS hl h1 h2)
theorem V_lawret (hA : lawAt K b L xs) {pc : Nat} (hd : decode cL_law pc = .ok (.ireturn, 1)) : V E K (yL_law, cL_law, 7, some FieldType.boolean, room_1) (QL K b) bc bs ws pc lv [.int 1] (some ()) := by
  intro ok z hz H locs cells slots ls hP hD hS hl h1 h2
  have e := hA.2.2.2.2
  have h3 : cells + bc ≤ 600128 := h1
  have h4 : slots + bs ≤ 7301098 := h2
  rw [e]
  refine va_forget (fun q hq => hA.2.2.2.1 _ (hS.2.2 q hq)) (W.widen (k := 600128) (n := 7301098) (by omega) (by omega) ?_)
  exact lw_ret ok.1 ok.2.1 ok.2.2.2.2.2.2.1 ok.2.2.2.2.2.1 hd
end VLAW
