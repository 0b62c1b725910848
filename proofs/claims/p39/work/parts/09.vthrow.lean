/-! methods that may throw -/
section VT
variable {E : EX} {K : KX} {M : MX} {ρ τ : Type} {Q : ρ → State → Prop} {bc bs : Nat} {ws : va_W} {lv : List (Nat × Value)} {X : Option ρ}
def xb {α β : Type} (x : Option (String ⊕ α)) (f : α → Option (String ⊕ β)) : Option (String ⊕ β) := x.bind (Sum.elim (fun e => some (.inl e)) f)
def x0 {α β : Type} (x : Option (String ⊕ α)) (f : α → Option β) : Option β := x.bind (Sum.elim (fun _ => none) f)
def xc {α β : Type} (x : Option (String ⊕ α)) (h : String → Option β) (f : α → Option β) : Option β := x.bind (Sum.elim h f)
def XT (E : EX) (A : Nat → Prop) (ws : va_W) {σ : Type} (z : String ⊕ σ) : String → State → State → Prop := fun en st t => z = .inl en ∧ WdT E A ws t ∧ va_F A st t
def RT (E : EX) (A : Nat → Prop) {σ : Type} (ZZ : σ → Option Value → va_W → Prop) (z : String ⊕ σ) : Array Value → State → Outcome → State → Prop := fun a st oc t => ∃ y, z = .inr y ∧ QR E A ZZ y a st oc t
def CtX (E : EX) (l : Launch) (M : MX) (avs : List Value) (ws : va_W) {σ : Type} (X : Option (String ⊕ σ)) (ZZ : σ → Option Value → va_W → Prop) : Prop :=
  ∀ z, X = some z → ∀ sz : Nat, vx_Met l M.y (M.wc :: TB) M.rm (va_Pc avs (Wd E ws sz)) (RT E (va_A ws sz) ZZ z) (XT E (va_A ws sz) ws z) M.rm.cells M.rm.slots (va_A ws sz)
def Qx (E : EX) (K : KX) (M : MX) (ws0 : va_W) {σ : Type} (ZZ : σ → Option Value → va_W → Prop) (z : String ⊕ σ) : State → Prop := vx_MQ K.below (RT E K.A ZZ z) (XT E K.A ws0 z) K.a K.s M.rm.cells M.rm.slots K.A
theorem CtX_of {E : EX} {l : Launch} {M : MX} {avs : List Value} {ws : va_W} {σ : Type} {X : Option (String ⊕ σ)} {ZZ : σ → Option Value → va_W → Prop} (hl : l.stackTraces = false) (hp : plainName M.y.cls = true) (hs : (lg_sl avs).length ≤ M.n) (body : ∀ K : KX, K.l.stackTraces = false → (∀ x ∈ K.c.exceptionTable.toList, False) → V E K M (Qx E K M ws ZZ) M.rm.cells M.rm.slots ws 0 (lv_args 0 avs) [] X) : CtX E l M avs ws X ZZ := by
  intro z hz sz
  refine vx_ofW (cc := M.b) (maxL := M.n) (ret := M.ret) hp rfl ?_
  intro p e s m args below meth c s₁ B hml htab hv
  obtain ⟨rfl, hsz, hP, hK, hD0, hG⟩ := hv
  have hts := atoms_spec (ws := M.wc :: TB) B.pre
  subst hsz
  have hD := hD0.self (sz := s.heap.size)
  rw [lg_entry_eq]
  exact body (p, l, e, s, m, avs.toArray, below, meth, c, va_A ws s.heap.size) hl htab ⟨B.exec, B.bytes, hml, findClass_of_methodNamed B.named, fun w hw => hts w (List.mem_cons_of_mem _ hw), B.notSynchronized, B.returns, hl, (fun _ => (name_of_methodNamed B.named B.method).1), hK, fun q h => Or.inr h, hG⟩ z hz s.heap [] 0 0 _ hP hD va_S.rf (lv_entry avs hs) (by omega) (by omega)
/-- a way that throws not, in a method that may throw -/
theorem V_retX {ws0 : va_W} {ZZ : τ → Option Value → va_W → Prop} {z0 : τ} {st : List Value} {pc : Nat} (k : V E K M (Qm E K M ZZ) bc bs ws pc lv st (some z0)) : V E K M (Qx E K M ws0 ZZ) bc bs ws pc lv st (some (.inr z0)) := by
  intro ok z hz H locs cells slots ls hP hD hS hl h1 h2
  cases hz
  intro T hT Xs
  obtain ⟨t, a1, o, b1, b2, b3, b4⟩ := k ok z0 rfl H locs cells slots ls hP hD hS hl h1 h2 T hT Xs
  exact ⟨t, a1, o, b1, b2, Or.inl ⟨⟨z0, rfl, b3⟩, b4⟩⟩
def tfact (own cls text : String) (ik ist ic : Nat) (names : List String) (i : Nat) : Prop := Bundle.fit cls = true ∧ (∀ n ∈ names, Bundle.fit n = true) ∧ Cond.classLink own ik cls ∈ TB ∧ Cond.initialized cls ∈ TB ∧ strs[i]? = some (own, ist, text) ∧ (∀ w ∈ (vx_atS own ic cls names).filter goodWord, w ∈ TB) ∧ (∀ w ∈ (vx_atS own ic cls names).filter (fun w => !goodWord w), w ∈ nestB) ∧ (∀ w ∈ Cond.classLink own ik cls :: Cond.initialized cls :: vx_atS own ic cls names, vx_ot w = true)
theorem nestB_ok (ok : okX E K M) : ∀ w ∈ nestB, w.before K.a K.s = true := by
  intro w hw
  rcases List.mem_append.mp hw with h | h
  · obtain ⟨q, hq, rfl⟩ := List.mem_map.mp h
    exact va_Nw.use rfl ((okG ok).2.2.2.2.2.2.2.2.2.2.2.1 q hq)
  · obtain ⟨q, hq, rfl⟩ := List.mem_map.mp h
    exact va_Nw.use rfl ((okG ok).2.2.2.2.2.2.2.2.2.2.2.2.1 q hq)
theorem V_throw {ZZ : τ → Option Value → va_W → Prop} {cls text : String} {ik ist ic i : Nat} {names : List String} {pc : Nat} (tf : tfact M.y.cls cls text ik ist ic names i) (htab : ∀ x ∈ K.c.exceptionTable.toList, False) (d0 : decode M.b pc = .ok (.new ik, 3)) (d3 : decode M.b (pc + 3) = .ok (.dup, 1)) (d4 : decode M.b (pc + 4) = .ok (.ldc_w ist, 3)) (d7 : decode M.b (pc + 7) = .ok (.invokespecial ic, 3)) (d10 : decode M.b (pc + 10) = .ok (.athrow, 1))
    (hfr : names.length + 3 < M.rm.frames) (hlo : 13 * (names.length + 1) + 43 ≤ M.rm.locals) (hbc : 1 ≤ bc) (hbs : 6 ≤ bs) : V E K M (Qx E K M ws ZZ) bc bs ws pc lv [] (some (.inl cls)) := by
  intro ok z hz H locs cells slots ls hP hD hS hl h1 h2
  cases hz
  obtain ⟨t1, t2, t3, t4, t5, t6, t7, t8⟩ := tf
  have hr : vk_R M.y.cls ist text (E.2.2.2.1 i) K.s := (okG ok).2.2.2.1 i (M.y.cls, ist, text) t5
  refine vx_throwSW ok.1 ok.2.1 ok.2.2.2.2.2.2.2.1 ok.2.2.2.1 t1 t2 (ok.2.2.2.2.1 _ t3) (ok.2.2.2.2.1 _ t4) hr (vx_hat (fun w hw => ok.2.2.2.2.1 _ (t6 w hw)) t7 (nestB_ok ok)) t8 (okG ok).2.2.2.2.2.2.2.2.2.1 (okG ok).2.2.2.2.2.2.2.2.2.2.1 hS (hl.1.trans ok.2.2.1.symm) d0 d3 d4 d7 d10 (fun x hx => (htab x hx).elim) hfr (by simpa using hlo) (by omega) (by omega) ok.2.2.2.2.2.1 ?_ hS.2.2 (by omega) (by omega)
  intro t hal hsz hkeep
  refine ⟨rfl, ⟨fun k q hq => (hP k q hq).kept (hkeep _ (vx_lt hP hq)), va_K.moved hal ok.2.2.2.2.2.2.2.2.2.1, hD⟩, Nat.le_trans hS.1 hsz, fun q h3 h4 => ?_⟩
  rw [hkeep q (Nat.lt_of_lt_of_le h3 hS.1)]
  exact hS.2.1 q h3 h4
theorem V_afterX {σ : Type} {wcs wr : va_W} {ZZ : σ → Option Value → va_W → Prop} {z' : String ⊕ σ} {Qf : State → Prop} {H : Heap} {locs : List Loc} {cells slots mc ms : Nat} {ls : Array Slot} {pc pc' : Nat} {stk rest : List Value} {a : Array Value} (ok : okX E K M) (hP : va_P E.1 classes ws H) (hD : va_D K.A ws) (hS : va_S K.A K.s.heap H locs)
    (isC isR : List Nat) (hC : isC.map (fun i => ws[i]?) = wcs.map some) (hR : isR.map (fun i => ws[i]?) = wr.map some) (hn : va_nd isR = true) (hdis : ∀ i ∈ isR, i ∉ isC)
    (hr : vx_Run K.p K.l K.e M.rm K.s K.m K.a K.below K.meth K.c H locs cells slots mc ms (F0 K.m pc ls stk) rest (RT E (va_A wcs H.size) ZZ z' a) (XT E (va_A wcs H.size) wcs z') (va_A wcs H.size)) (hp : pc + 3 = pc')
    (kx : ∀ (en : String) (q9 : Addr) (ce : Cell) (H1 : Heap) (locs1 : List Loc), z' = .inl en → va_P E.1 classes (wr ++ wcs) H1 → va_D K.A (wr ++ wcs) → va_S K.A K.s.heap H1 locs1 → H1[q9]? = some ce → ce.vm = .none → K.s.vm.findClass en = some ce.cls → vx_W K.p K.l K.e M.rm K.s K.m K.a K.below K.meth K.c H1 locs1 (cells + mc) (slots + ms) Qf (F0 K.m pc ls rest) q9)
    (kk : ∀ (y : σ) (v : Option Value) (w1 : va_W) (H1 : Heap) (locs1 : List Loc), z' = .inr y → ZZ y v w1 → va_P E.1 classes (wr ++ w1) H1 → va_D K.A (wr ++ w1) → va_S K.A K.s.heap H1 locs1 → W K.p K.l K.e M.rm K.s K.m K.a K.below K.meth K.c H1 locs1 (cells + mc) (slots + ms) Qf (F0 K.m pc' ls (v.toList ++ rest))) : W K.p K.l K.e M.rm K.s K.m K.a K.below K.meth K.c H locs cells slots Qf (F0 K.m pc ls stk) := by
  subst hp
  have hFr := va_free hD hS ok.2.2.2.2.2.2.2.2.2.2.1 isC hC
  intro T hT Xs
  rcases hr T hT Xs with ⟨v, st₀, t, T', L, h0, X', hL, e1, e2, ⟨y, hy, ⟨v', w1, hv, hZ, hP1, hK1, hD1⟩, hF⟩, st⟩ | ⟨q9, st₀, t, T', L, en, ce, h0, X', hL, e1, e2, ⟨hy, ⟨hP1, hK1, hD1⟩, hF⟩, hce, hcv, hcl, st⟩
  · cases hv
    obtain ⟨k1, k2, k3⟩ := vx_keep h0 e1 hS (fun q _ h => hFr q h) hFr hL hF
    have hj := va_join hP hD isC isR hC hR hn hdis k2 hFr (by rw [e1]; exact hP1) hD1
    obtain ⟨t2, a1, b1⟩ := kk y v w1 T'.heap (locs ++ L) hy hZ hj.1 hj.2 k3 T' rfl X'
    exact ⟨t2, st t2 a1, b1⟩
  · obtain ⟨k1, k2, k3⟩ := vx_keep h0 e1 hS (fun q _ h => hFr q h) hFr hL hF
    have hj := va_join hP hD isC isR hC hR hn hdis k2 hFr (by rw [e1]; exact hP1) hD1
    obtain ⟨t2, a1, b1⟩ := kx en q9 ce T'.heap (locs ++ L) hy hj.1 hj.2 k3 (by rw [e1]; exact hce) hcv hcl T' rfl X'
    exact ⟨t2, st.trans a1, b1⟩
theorem vv_recv {wcs : va_W} {M' : MX} {H : Heap} {b q0 ci : Nat} {fs : List Value} {cq : vw_C} (ok : okX E K M) (hP : va_P E.1 classes ws H) (isC : List Nat) (hC : isC.map (fun i => ws[i]?) = wcs.map some) (he : wcs[q0]? = some (b, .inr (ci, fs))) (hci : classes[ci]? = some cq) (hcq : cq.1 = M'.y.cls) : ∃ cell : Cell, H[b]? = some cell ∧ cell.vm.isStatics = false ∧ K.s.vm.findClass M'.y.cls = some cell.cls := by
  have h1 : (isC.map (fun i => ws[i]?))[q0]? = some (some (b, .inr (ci, fs))) := by rw [hC, List.getElem?_map, he]; rfl
  rw [List.getElem?_map] at h1
  cases hi : isC[q0]? with
  | none => rw [hi] at h1; cases h1
  | some i => rw [hi] at h1; rw [← hcq]; exact va_recv ok.2.2.2.2.2.2.2.2.2.1 hP hci (Option.some.inj h1)
/-- a callee that may throw, and what it throws goes on -/
theorem V_callVX {σ : Type} {M' : MX} {b : Nat} {As : List Value} {wcs wr ws0 : va_W} {X' : Option (String ⊕ σ)} {F : σ → Option (String ⊕ τ)} {ZZ : σ → Option Value → va_W → Prop} {Z0 : τ → Option Value → va_W → Prop} {n idx : Nat} {rest : List Value} {pc : Nat} (htab : ∀ x ∈ K.c.exceptionTable.toList, False) (mf : mfact M' n) (w1 : Cond.methodLink M.y.cls idx M'.y ∈ TB) (w2 : Cond.instanceMethod M'.y ∈ TB) (w3 : Cond.selects M'.y.cls M'.y M'.y ∈ TB)
    (hR0 : M'.rm.frames + 1 ≤ M.rm.frames ∧ 8 + (M'.n + 11) + M'.rm.locals ≤ M.rm.locals) (hd : decode M.b pc = .ok (.invokevirtual idx, 3)) (pc' : Nat) (hp : pc + 3 = pc') (ct : CtX E K.l M' (.ref b :: As) wcs X' ZZ) (hn : As.length = n)
    (isC isR : List Nat) (hC : isC.map (fun i => ws[i]?) = wcs.map some) (hnC : va_nd isC = true) (hR : isR.map (fun i => ws[i]?) = wr.map some) (hnR : va_nd isR = true) (hdis : ∀ i ∈ isR, i ∉ isC)
    {q0 ci : Nat} {fs : List Value} {cq : vw_C} (he : wcs[q0]? = some (b, .inr (ci, fs))) (hci : classes[ci]? = some cq) (hcq : cq.1 = M'.y.cls) {stk : List Value} (hstk : stk = As.reverse ++ .ref b :: rest) (hrest : (rest.map fun v => v.category).sum ≤ 8)
    (isB : List Nat) (hB : isB.filterMap (fun i => (wr ++ wcs)[i]?) = ws0) (hB2 : isB.map (fun i => (wr ++ wcs)[i]?) = ws0.map some) (hnB : va_nd isB = true)
    (bc' bs' : Nat) (hbc : bc' + M'.rm.cells ≤ bc) (hbs : bs' + M'.rm.slots ≤ bs) (kk : ∀ (y : σ) (v : Option Value) (w : va_W), ZZ y v w → V E K M (Qx E K M ws0 Z0) bc' bs' (wr ++ w) pc' lv (v.toList ++ rest) (F y)) : V E K M (Qx E K M ws0 Z0) bc bs ws pc lv stk (xb X' F) := by
  subst hstk
  intro ok z hz H locs cells slots ls hP hD hS hl h1 h2
  obtain ⟨z', hz', hF⟩ := bind_get hz
  have hPw := pc_of (avs := .ref b :: As) ok hP hD hS isC hC hnC
  have hrecv := vv_recv (M' := M') ok hP isC hC he hci hcq
  refine V_afterX ok hP hD hS isC isR hC hR hnR hdis (vx_runV (C := M'.y.cls) (As := As) (rest := rest) (n := n) ⟨ok.1, ok.2.1, ok.2.2.1, ok.2.2.2.1, ok.2.2.2.2.1⟩ (ct z' hz' H.size) ⟨callB_V ok mf w1 hR0, ok.2.2.2.2.1 _ w2, ok.2.2.2.2.1 _ w3⟩ ⟨Wd_blind, hrecv, hPw⟩ rfl hn hl.1 rfl (lv_room hrest) hd ⟨by omega, by omega⟩) hp ?_ ?_
  · intro en q9 ce H1 locs1 e0 hP1 hD1 hS1 hce hcv hcl
    subst e0
    cases hF
    refine vx_out (fun x hx => (htab x hx).elim) ok.2.2.2.2.2.1 hce hcv hcl (fun t ht hal => ⟨rfl, ⟨?_, va_K.moved hal ok.2.2.2.2.2.2.2.2.2.1, hD1.sub isB hnB hB2⟩, hS1.F ht⟩) hS1.2.2 (by omega) (by omega)
    rw [ht]
    exact hP1.sub isB hB
  · intro y v w1 H1 locs1 e0 hZ hP1 hD1 hS1
    subst e0
    exact kk y v w1 hZ ok z hF H1 locs1 (cells + M'.rm.cells) (slots + M'.rm.slots) ls hP1 hD1 hS1 hl (by omega) (by omega)
/-- a callee that could throw, but does not here -/
theorem V_callV0 {σ : Type} {M' : MX} {b : Nat} {As : List Value} {wcs wr : va_W} {X' : Option (String ⊕ σ)} {F : σ → Option ρ} {ZZ : σ → Option Value → va_W → Prop} {n idx : Nat} {rest : List Value} {pc : Nat} (mf : mfact M' n) (w1 : Cond.methodLink M.y.cls idx M'.y ∈ TB) (w2 : Cond.instanceMethod M'.y ∈ TB) (w3 : Cond.selects M'.y.cls M'.y M'.y ∈ TB)
    (hR0 : M'.rm.frames + 1 ≤ M.rm.frames ∧ 8 + (M'.n + 11) + M'.rm.locals ≤ M.rm.locals) (hd : decode M.b pc = .ok (.invokevirtual idx, 3)) (pc' : Nat) (hp : pc + 3 = pc') (ct : CtX E K.l M' (.ref b :: As) wcs X' ZZ) (hn : As.length = n)
    (isC isR : List Nat) (hC : isC.map (fun i => ws[i]?) = wcs.map some) (hnC : va_nd isC = true) (hR : isR.map (fun i => ws[i]?) = wr.map some) (hnR : va_nd isR = true) (hdis : ∀ i ∈ isR, i ∉ isC)
    {q0 ci : Nat} {fs : List Value} {cq : vw_C} (he : wcs[q0]? = some (b, .inr (ci, fs))) (hci : classes[ci]? = some cq) (hcq : cq.1 = M'.y.cls) {stk : List Value} (hstk : stk = As.reverse ++ .ref b :: rest) (hrest : (rest.map fun v => v.category).sum ≤ 8)
    (bc' bs' : Nat) (hbc : bc' + M'.rm.cells ≤ bc) (hbs : bs' + M'.rm.slots ≤ bs) (kk : ∀ (y : σ) (v : Option Value) (w : va_W), ZZ y v w → V E K M Q bc' bs' (wr ++ w) pc' lv (v.toList ++ rest) (F y)) : V E K M Q bc bs ws pc lv stk (x0 X' F) := by
  subst hstk
  intro ok z hz H locs cells slots ls hP hD hS hl h1 h2
  obtain ⟨z', hz', hF⟩ := bind_get hz
  have hPw := pc_of (avs := .ref b :: As) ok hP hD hS isC hC hnC
  have hrecv := vv_recv (M' := M') ok hP isC hC he hci hcq
  refine V_afterX ok hP hD hS isC isR hC hR hnR hdis (vx_runV (C := M'.y.cls) (As := As) (rest := rest) (n := n) ⟨ok.1, ok.2.1, ok.2.2.1, ok.2.2.2.1, ok.2.2.2.2.1⟩ (ct z' hz' H.size) ⟨callB_V ok mf w1 hR0, ok.2.2.2.2.1 _ w2, ok.2.2.2.2.1 _ w3⟩ ⟨Wd_blind, hrecv, hPw⟩ rfl hn hl.1 rfl (lv_room hrest) hd ⟨by omega, by omega⟩) hp ?_ ?_
  · intro en q9 ce H1 locs1 e0 hP1 hD1 hS1 hce hcv hcl
    subst e0
    cases hF
  · intro y v w1 H1 locs1 e0 hZ hP1 hD1 hS1
    subst e0
    exact kk y v w1 hZ ok z hF H1 locs1 (cells + M'.rm.cells) (slots + M'.rm.slots) ls hP1 hD1 hS1 hl (by omega) (by omega)
/-- where a thrown object is caught -/
def cfactH (own : String) (hh : List (Nat × Nat × Nat × Nat)) (pc : Nat) (en : String) (hpc : Nat) : Prop := ∃ (pre suf : List ExceptionTableEntry) (x : ExceptionTableEntry) (name : String), tableOf hh = pre ++ x :: suf ∧ (∀ z ∈ pre, covers z pc = false ∨ (z.catchType ≠ 0 ∧ Cond.classLink own z.catchType "java/lang/IndexOutOfBoundsException" ∈ TB ∧ en = "java/lang/IllegalArgumentException")) ∧ covers x pc = true ∧ x.catchType ≠ 0 ∧ Cond.classLink own x.catchType name ∈ TB ∧ (en, name) ∈ nestC ∧ x.handlerPc = hpc
theorem V_callVH {σ : Type} {M' : MX} {b : Nat} {As : List Value} {wcs wr : va_W} {X' : Option (String ⊕ σ)} {hx : String → Option ρ} {F : σ → Option ρ} {ZZ : σ → Option Value → va_W → Prop} {n idx : Nat} {rest : List Value} {pc : Nat} {hh : List (Nat × Nat × Nat × Nat)} (htab : K.c.exceptionTable.toList = tableOf hh) (mf : mfact M' n) (w1 : Cond.methodLink M.y.cls idx M'.y ∈ TB) (w2 : Cond.instanceMethod M'.y ∈ TB) (w3 : Cond.selects M'.y.cls M'.y M'.y ∈ TB)
    (hR0 : M'.rm.frames + 1 ≤ M.rm.frames ∧ 8 + (M'.n + 11) + M'.rm.locals ≤ M.rm.locals) (hd : decode M.b pc = .ok (.invokevirtual idx, 3)) (pc' : Nat) (hp : pc + 3 = pc') (ct : CtX E K.l M' (.ref b :: As) wcs X' ZZ) (hn : As.length = n)
    (isC isR : List Nat) (hC : isC.map (fun i => ws[i]?) = wcs.map some) (hnC : va_nd isC = true) (hR : isR.map (fun i => ws[i]?) = wr.map some) (hnR : va_nd isR = true) (hdis : ∀ i ∈ isR, i ∉ isC)
    {q0 ci : Nat} {fs : List Value} {cq : vw_C} (he : wcs[q0]? = some (b, .inr (ci, fs))) (hci : classes[ci]? = some cq) (hcq : cq.1 = M'.y.cls) {stk : List Value} (hstk : stk = As.reverse ++ .ref b :: rest) (hrest : (rest.map fun v => v.category).sum ≤ 8)
    (bc' bs' : Nat) (hbc : bc' + M'.rm.cells ≤ bc) (hbs : bs' + M'.rm.slots ≤ bs)
    (kx : ∀ (en : String) (z : ρ), hx en = some z → ∃ hpc, cfactH M.y.cls hh pc en hpc ∧ ∀ q9 : Nat, V E K M Q bc' bs' (wr ++ wcs) hpc lv [.ref q9] (hx en))
    (kk : ∀ (y : σ) (v : Option Value) (w : va_W), ZZ y v w → V E K M Q bc' bs' (wr ++ w) pc' lv (v.toList ++ rest) (F y)) : V E K M Q bc bs ws pc lv stk (xc X' hx F) := by
  subst hstk
  intro ok z hz H locs cells slots ls hP hD hS hl h1 h2
  obtain ⟨z', hz', hF⟩ := bind_get hz
  have hPw := pc_of (avs := .ref b :: As) ok hP hD hS isC hC hnC
  have hrecv := vv_recv (M' := M') ok hP isC hC he hci hcq
  refine V_afterX ok hP hD hS isC isR hC hR hnR hdis (vx_runV (C := M'.y.cls) (As := As) (rest := rest) (n := n) ⟨ok.1, ok.2.1, ok.2.2.1, ok.2.2.2.1, ok.2.2.2.2.1⟩ (ct z' hz' H.size) ⟨callB_V ok mf w1 hR0, ok.2.2.2.2.1 _ w2, ok.2.2.2.2.1 _ w3⟩ ⟨Wd_blind, hrecv, hPw⟩ rfl hn hl.1 rfl (lv_room hrest) hd ⟨by omega, by omega⟩) hp ?_ ?_
  · intro en q9 ce H1 locs1 e0 hP1 hD1 hS1 hce hcv hcl
    subst e0
    obtain ⟨hpc, ⟨pre, suf, x, name, f1, f2, f3, f4, f5, f6, f7⟩, kV⟩ := kx en z hF
    subst f7
    refine vx_catch (own := M.y.cls) (name := name) ok.2.2.2.1 pre x suf (htab.trans f1) (fun zz hzz => ?_) f3 f4 (ok.2.2.2.2.1 _ f5) (va_Nw.use rfl ((okG ok).2.2.2.2.2.2.2.2.2.2.2.1 _ f6)) hce hcv hcl ?_
    · rcases f2 zz hzz with h | ⟨g1, g2, g3⟩
      · exact Or.inl h
      · refine Or.inr ⟨g1, _, ok.2.2.2.2.1 _ g2, ?_⟩
        rw [g3]
        exact (okG ok).2.2.2.2.2.2.2.2.2.2.2.2.2
    · exact kV q9 ok z hF H1 locs1 (cells + M'.rm.cells) (slots + M'.rm.slots) ls hP1 hD1 hS1 hl (by omega) (by omega)
  · intro y v w1 H1 locs1 e0 hZ hP1 hD1 hS1
    subst e0
    exact kk y v w1 hZ ok z hF H1 locs1 (cells + M'.rm.cells) (slots + M'.rm.slots) ls hP1 hD1 hS1 hl (by omega) (by omega)
/-- methods with a table of their own, that throw nothing -/
def CtW (E : EX) (l : Launch) (M : MX) (hh : List (Nat × Nat × Nat × Nat)) (avs : List Value) (ws : va_W) {σ : Type} (X : Option σ) (ZZ : σ → Option Value → va_W → Prop) : Prop :=
  ∀ z, X = some z → ∀ sz : Nat, Met l M.y (Cond.codeWith M.y M.b M.n M.ret hh :: TB) M.rm (va_Pc avs (Wd E ws sz)) (QR E (va_A ws sz) ZZ z) M.rm.cells M.rm.slots (va_A ws sz)
theorem met_of_vx {l : Launch} {y : MethodName} {wl : List Cond} {rm : Room} {Pc : Array Value → State → Prop} {Qc : Array Value → State → Outcome → State → Prop} {mc ms : Nat} {free : Addr → Prop} (h : vx_Met l y wl rm Pc Qc (fun _ _ _ => False) mc ms free) : Met l y wl rm Pc Qc mc ms free := by
  intro p e h1 h2 h3 s m args below h4 h5 h6 h7
  obtain ⟨n, o, g1, g2, g3, g4⟩ := h p e h1 h2 h3 s m args below h4 h5 h6 h7
  rcases g4 with g4 | ⟨q, -, en, ce, L, hF, -⟩
  · exact ⟨n, o, g1, g2, g3, g4⟩
  · exact hF.elim
theorem CtW_of {E : EX} {l : Launch} {M : MX} {hh : List (Nat × Nat × Nat × Nat)} {avs : List Value} {ws : va_W} {σ : Type} {X : Option σ} {ZZ : σ → Option Value → va_W → Prop} (hl : l.stackTraces = false) (hp : plainName M.y.cls = true) (hs : (lg_sl avs).length ≤ M.n) (body : ∀ K : KX, K.l.stackTraces = false → K.c.exceptionTable.toList = tableOf hh → V E K M (Qm E K M ZZ) M.rm.cells M.rm.slots ws 0 (lv_args 0 avs) [] X) : CtW E l M hh avs ws X ZZ := by
  intro z hz sz
  refine met_of_vx ?_
  refine vx_ofWH (cc := M.b) (maxL := M.n) (ret := M.ret) (hh := hh) hp rfl ?_
  intro p e s m args below meth c s₁ B hml hv
  obtain ⟨rfl, hsz, hP, hK, hD0, hG⟩ := hv
  have hts := atoms_spec (ws := Cond.codeWith M.y M.b M.n M.ret hh :: TB) B.pre
  subst hsz
  have hD := hD0.self (sz := s.heap.size)
  rw [lg_entry_eq]
  refine vx_ret ?_
  exact body (p, l, e, s, m, avs.toArray, below, meth, c, va_A ws s.heap.size) hl (vx_table (x := M.y) B (hts _ List.mem_cons_self)) ⟨B.exec, B.bytes, hml, findClass_of_methodNamed B.named, fun w hw => hts w (List.mem_cons_of_mem _ hw), B.notSynchronized, B.returns, hl, (fun _ => (name_of_methodNamed B.named B.method).1), hK, fun q h => Or.inr h, hG⟩ z hz s.heap [] 0 0 _ hP hD va_S.rf (lv_entry avs hs) (by omega) (by omega)
def mfactW (M : MX) (hh : List (Nat × Nat × Nat × Nat)) (n : Nat) : Prop := plainName M.y.cls = true ∧ (M.y.cls ≠ "java/lang/invoke/MethodHandle" ∧ M.y.cls ≠ "java/lang/invoke/VarHandle") ∧ (parseMethodDescriptor M.y.desc).map (fun d => d.parameters.length) = some n ∧ Cond.codeWith M.y M.b M.n M.ret hh ∈ TB ∧ Cond.initialized M.y.cls ∈ TB
theorem V_callSW {σ : Type} {M' : MX} {hh : List (Nat × Nat × Nat × Nat)} {As : List Value} {wcs wr : va_W} {X' : Option σ} {F : σ → Option ρ} {ZZ : σ → Option Value → va_W → Prop} {n idx : Nat} {rest : List Value} {pc : Nat} (mf : mfactW M' hh n) (w1 : Cond.methodLink M.y.cls idx M'.y ∈ TB) (w2 : Cond.static M'.y ∈ TB)
    (hR0 : M'.rm.frames + 1 ≤ M.rm.frames ∧ 8 + (M'.n + 11) + M'.rm.locals ≤ M.rm.locals) (hd : decode M.b pc = .ok (.invokestatic idx, 3)) (pc' : Nat) (hp : pc + 3 = pc') (ct : CtW E K.l M' hh As wcs X' ZZ) (hn : As.length = n)
    (isC isR : List Nat) (hC : isC.map (fun i => ws[i]?) = wcs.map some) (hnC : va_nd isC = true) (hR : isR.map (fun i => ws[i]?) = wr.map some) (hnR : va_nd isR = true) (hdis : ∀ i ∈ isR, i ∉ isC) {stk : List Value} (hstk : stk = As.reverse ++ rest) (hrest : (rest.map fun v => v.category).sum ≤ 8)
    (bc' bs' : Nat) (hbc : bc' + M'.rm.cells ≤ bc) (hbs : bs' + M'.rm.slots ≤ bs) (kk : ∀ (z' : σ) (v : Option Value) (w : va_W), ZZ z' v w → V E K M Q bc' bs' (wr ++ w) pc' lv (v.toList ++ rest) (F z')) : V E K M Q bc bs ws pc lv stk (X'.bind F) := by
  subst hstk
  intro ok z hz H locs cells slots ls hP hD hS hl h1 h2
  obtain ⟨z', hz', hF⟩ := bind_get hz
  have hPw := pc_of (avs := As) ok hP hD hS isC hC hnC
  have hG : GoodIn TB (va_wsS M.y.cls idx M'.y (Cond.codeWith M'.y M'.b M'.n M'.ret hh :: TB)) := by
    intro w hw
    unfold va_wsS at hw
    rcases List.mem_append.mp hw with h | h
    · simp only [List.mem_cons, List.not_mem_nil, or_false] at h
      rcases h with rfl | rfl | rfl
      · exact tb_good _ w1
      · exact tb_good _ w2
      · exact tb_good _ mf.2.2.2.2
    · rcases List.mem_cons.mp h with rfl | h
      · exact tb_good _ mf.2.2.2.1
      · exact tb_good _ h
  refine V_after ok hP hD hS hl isC isR hC hR hnR hdis (vx_runSW (As := As) (rest := rest) (n := n) ⟨ok.1, ok.2.1, ok.2.2.1, ok.2.2.2.1, ok.2.2.2.2.1⟩ (ct z' hz' H.size) (vx_cwSW n ok.2.2.2.2.1 hG rfl rfl rfl ⟨mf.2.1.1, mf.2.1.2, mf.2.2.1⟩ hR0) ⟨Wd_blind, hPw⟩ rfl hn hl.1 rfl (lv_room hrest) hd ⟨by omega, by omega⟩) hp (bc' := bc') (bs' := bs') (by omega) (by omega) hF (fun v w h => kk z' v w h)
end VT
