/-! rows for builders of texts: inherited, overridden, private calls, an array's clone, its cast; how a builder grows -/
section VX
variable {E : EX} {K : KX} {M : MX} {ρ : Type} {Q : ρ → State → Prop} {bc bs : Nat} {ws : va_W} {lv : List (Nat × Value)} {X : Option ρ}
/-- the coder of a text that is written in bytes -/
abbrev cZ : Int32 := 0
theorem V_gd {b : Prop} {i : Decidable b} {pc : Nat} {st : List Value} (k : b → V E K M Q bc bs ws pc lv st X) : V E K M Q bc bs ws pc lv st (gd b i X) := by
  unfold gd
  split
  · exact k (by assumption)
  · exact V_none
theorem fnd_byte (ok : okX E K M) : K.s.vm.findClass "[B" = some E.2.2.1 := (ok.2.2.2.2.2.2.2.2.2.1.2 1 (E.2.2.1, .byte) rfl).2
theorem V_castB {idx : Nat} (w : Cond.classLink M.y.cls idx "[B" ∈ TB) (q0 : Nat) {a n : Nat} {f : Nat → Int32} (he : ws[q0]? = some (a, .inl (E.2.2.1, n, .inl f))) {st : List Value} {pc : Nat} (hd : decode M.b pc = .ok (.checkcast idx, 3)) (pc' : Nat) (hp : pc + 3 = pc') (kk : V E K M Q bc bs ws pc' lv (.ref a :: st) X) : V E K M Q bc bs ws pc lv (.ref a :: st) X := by
  subst hp
  intro ok z hz H locs cells slots ls hP hD hS hl h1 h2
  exact va_castA ok.1 ok.2.1 ok.2.2.2.1 (ok.2.2.2.2.1 _ w) hP q0 he (fnd_byte ok) hd (kk ok z hz H locs cells slots ls hP hD hS hl h1 h2)
theorem V_clone {idx : Nat} (w1 : Cond.methodLink M.y.cls idx ⟨"[B", "clone", "()Ljava/lang/Object;"⟩ ∈ TB) (w2 : Cond.sameMethod "[B" "java/lang/Object" "clone" "()Ljava/lang/Object;" ∈ TB) (w3 : Cond.native ⟨"java/lang/Object", "clone", "()Ljava/lang/Object;"⟩ ∈ TB) (w4 : Cond.instanceMethod ⟨"java/lang/Object", "clone", "()Ljava/lang/Object;"⟩ ∈ TB) (w5 : Cond.selects "[B" ⟨"[B", "clone", "()Ljava/lang/Object;"⟩ ⟨"java/lang/Object", "clone", "()Ljava/lang/Object;"⟩ ∈ TB) (w6 : ("[B", "java/lang/Cloneable") ∈ nestC)
    (hf : 1 ≤ M.rm.frames) {st : List Value} (hlo : (st.map fun v => v.category).sum + 14 ≤ M.rm.locals) (q0 : Nat) {a n N0 : Nat} {f : Nat → Int32} (he : ws[q0]? = some (a, .inl (E.2.2.1, n, .inl f))) {pc : Nat} (hd : decode M.b pc = .ok (.invokevirtual idx, 3)) (pc' : Nat) (hp : pc + 3 = pc') (bc' bs' : Nat) (hc : bc' + 1 ≤ bc) (hs : bs' + N0 ≤ bs)
    (kk : ∀ q : Nat, V E K M Q bc' bs' (ws ++ [(q, .inl (E.2.2.1, n, .inl f))]) pc' lv (.ref q :: st) X) : V E K M Q bc bs ws pc lv (.ref a :: st) (gP (n ≤ N0 ∧ ∀ i, i < n → fits .byte (.int (f i)) = true) X) := by
  subst hp
  intro ok z hz H locs cells slots ls hP hD hS hl h1 h2
  obtain ⟨⟨c1, c2⟩, hz⟩ := gP_some hz
  refine va_clone (D := E.1) (cl := classes) (tys := E.tys) (ty := .byte) ok.1 ok.2.1 (ok.2.2.1.trans hl.1.symm) ok.2.2.2.1 (ok.2.2.2.2.1 _ w1) (ok.2.2.2.2.1 _ w2) (ok.2.2.2.2.1 _ w3) (ok.2.2.2.2.1 _ w4) (ok.2.2.2.2.1 _ w5) ((okG ok).2.2.2.2.2.2.2.2.2.2.2.1 _ w6) ok.2.2.2.2.2.2.2.2.2.1 hP hD hS ok.2.2.2.2.2.2.2.2.2.2.1 q0 1 he rfl (fnd_byte ok) ?_ hf hlo (by omega) (show slots + n ≤ _ by omega) hd (fun q H1 _ hP1 hD1 hS1 => kk q ok z hz H1 locs (cells + 1) (slots + n) ls hP1 hD1 hS1 hl (by omega) (by omega))
  intro i v hv
  rw [vp_cell_i] at hv
  have hi : i < n := by
    have := (Array.getElem?_eq_some_iff.mp hv).1
    rwa [arrV_size] at this
  rw [arrV_read _ _ hi] at hv
  cases hv
  exact c2 i hi
theorem Ct_none {E : EX} {l : Launch} {M : MX} {avs : List Value} {ws : va_W} {σ : Type} {ZZ : σ → Option Value → va_W → Prop} : Ct E l M avs ws (none : Option σ) ZZ := fun _ h => by cases h
/-- 'selects' of a private method of a class above -/
theorem selects_up {y y2 : MethodName} {C : String} {n : Nat} {s : State} {args : Array Value} (hy : y.cls ≠ "java/lang/invoke/MethodHandle" ∧ y.cls ≠ "java/lang/invoke/VarHandle") (hins : (Cond.instantiable C n).before args s = true) (hpriv : (Cond.privateMethod y).before args s = true) (hinst : (Cond.instanceMethod y).before args s = true) (h2 : (Cond.selects C y2 y2).before args s = true) (hcc : y2.cls = y.cls) : (Cond.selects C y y).before args s = true := by
  obtain ⟨c, k, hc, hk, -, -, -, -⟩ := Cond.instantiable_spec hins
  obtain ⟨mk, methM, hnamed, hmethM, -, -⟩ := Cond.instanceMethod_spec hinst
  have hfound : s.methodFound? y.cls y.name y.desc = some mk := State.methodFound?_of_named hnamed hy
  obtain ⟨c2, r2, m2, q1, q2, q3, q4, kP, hkP, hkPi⟩ := Cond.selects_spec h2
  have hcls : m2.cls = mk.cls := Option.some.inj ((findClass_of_methodNamed q3).symm.trans ((by rw [hcc] : s.vm.findClass y2.cls = s.vm.findClass y.cls).trans (findClass_of_methodNamed hnamed)))
  rw [hcls] at hkP
  have hsel : selectMethod {} s.vm c mk = .method mk := selectMethod_private hmethM (Cond.privateMethod_at hpriv mk methM hnamed hmethM)
  simp only [Cond.before, Cond.holds, Cond.value, hc, hfound, hnamed, hsel, hkP]
  simp; exact hkPi
theorem cu_V {M' : MX} {n idx : Nat} {C : String} (ok : okX E K M) (h : mfact M' n) (hw : Cond.methodLink M.y.cls idx M'.y ∈ TB) (hs : Cond.sameMethod M'.y.cls M'.y.cls M'.y.name M'.y.desc ∈ TB) (hi : Cond.instanceMethod M'.y ∈ TB) (hsel : (Cond.selects C M'.y M'.y).before K.a K.s = true) (hR : M'.rm.frames + 1 ≤ M.rm.frames ∧ 8 + (M'.n + 11) + M'.rm.locals ≤ M.rm.locals) : va_CU M.rm K.s K.a M.y.cls C M'.y.cls idx M'.y M'.y M'.b M'.n M'.ret (M'.wc :: TB) M'.rm M'.rm.cells M'.rm.slots n := by
  refine ⟨⟨rfl, rfl, hR.1, hR.2, pay_in ok.2.2.2.2.1 (good_y h), List.mem_cons_self⟩, ok.2.2.2.2.1 _ h.2.2.2.1, ok.2.2.2.2.1 _ h.2.2.2.2, h.2.1, fun sig e => ?_, ok.2.2.2.2.1 _ hw, ok.2.2.2.2.1 _ hs, va_Decl.of (ok.2.2.2.2.1 _ hi) (ok.2.2.2.2.1 _ h.2.2.2.1), hsel, ok.2.2.2.2.1 _ hi⟩
  have h2 := h.2.2.1
  rw [e] at h2
  exact (Option.some.inj h2).symm
theorem V_callU {σ : Type} {M' : MX} {b : Nat} {As : List Value} {wcs wr : va_W} {X' : Option σ} {F : σ → Option ρ} {ZZ : σ → Option Value → va_W → Prop} {n idx : Nat} {rest : List Value} {pc : Nat} (mf : mfact M' n) (w1 : Cond.methodLink M.y.cls idx M'.y ∈ TB) (w2 : Cond.sameMethod M'.y.cls M'.y.cls M'.y.name M'.y.desc ∈ TB) (w3 : Cond.instanceMethod M'.y ∈ TB) (w4 : Cond.selects "java/lang/StringBuilder" M'.y M'.y ∈ TB)
    (hR0 : M'.rm.frames + 1 ≤ M.rm.frames ∧ 8 + (M'.n + 11) + M'.rm.locals ≤ M.rm.locals) (hd : decode M.b pc = .ok (.invokevirtual idx, 3)) (pc' : Nat) (hp : pc + 3 = pc') (ct : Ct E K.l M' (.ref b :: As) wcs X' ZZ) (hn : As.length = n)
    (isC isR : List Nat) {q0 ci : Nat} {fs : List Value} {cq : vw_C} (he : wcs[q0]? = some (b, .inr (ci, fs))) (hci : classes[ci]? = some cq) (hcq : cq.1 = "java/lang/StringBuilder") (hC : isC.map (fun i => ws[i]?) = wcs.map some) (hnC : va_nd isC = true) (hR : isR.map (fun i => ws[i]?) = wr.map some) (hnR : va_nd isR = true) (hdis : ∀ i ∈ isR, i ∉ isC)
    {stk : List Value} (hstk : stk = As.reverse ++ .ref b :: rest) (hrest : (rest.map fun v => v.category).sum ≤ 8)
    (bc' bs' : Nat) (hbc : bc' + M'.rm.cells ≤ bc) (hbs : bs' + M'.rm.slots ≤ bs) (kk : ∀ (z' : σ) (v : Option Value) (w : va_W), ZZ z' v w → V E K M Q bc' bs' (wr ++ w) pc' lv (v.toList ++ rest) (F z')) : V E K M Q bc bs ws pc lv stk (X'.bind F) := by
  subst hstk
  intro ok z hz H locs cells slots ls hP hD hS hl h1 h2
  obtain ⟨z', hz', hF⟩ := bind_get hz
  have hPw := pc_of (avs := .ref b :: As) ok hP hD hS isC hC hnC
  have hrecv : ∃ cell : Cell, H[b]? = some cell ∧ cell.vm.isStatics = false ∧ K.s.vm.findClass "java/lang/StringBuilder" = some cell.cls := by
    have g1 : (isC.map (fun i => ws[i]?))[q0]? = some (some (b, .inr (ci, fs))) := by rw [hC, List.getElem?_map, he]; rfl
    rw [List.getElem?_map] at g1
    cases hi : isC[q0]? with
    | none => rw [hi] at g1; cases g1
    | some i => rw [hi] at g1; rw [← hcq]; exact va_recv ok.2.2.2.2.2.2.2.2.2.1 hP hci (Option.some.inj g1)
  exact V_after ok hP hD hS hl isC isR hC hR hnR hdis (va_runU (C := "java/lang/StringBuilder") (As := As) (rest := rest) (n := n) ⟨ok.1, ok.2.1, ok.2.2.1, ok.2.2.2.1, ok.2.2.2.2.1⟩ (ct z' hz' H.size) (cu_V ok mf w1 w2 w3 (ok.2.2.2.2.1 _ w4) hR0) ⟨Wd_blind, hrecv, hPw⟩ rfl hn hl.1 rfl (lv_room hrest) hd ⟨by omega, by omega⟩) hp (bc' := bc') (bs' := bs') (by omega) (by omega) hF (fun v w h => kk z' v w h)
theorem V_callO {σ : Type} {M' : MX} {b : Nat} {As : List Value} {wcs wr : va_W} {X' : Option σ} {F : σ → Option ρ} {ZZ : σ → Option Value → va_W → Prop} {n idx : Nat} {x : MethodName} {b0 : ByteArray} {m0 : Nat} {r0 : Option FieldType} {rest : List Value} {pc : Nat} (mf : mfact M' n) (w1 : Cond.methodLink M.y.cls idx x ∈ TB) (w2 : Cond.sameMethod x.cls x.cls x.name x.desc ∈ TB) (w3 : Cond.instanceMethod x ∈ TB) (w4 : Cond.instanceMethod M'.y ∈ TB) (w5 : Cond.selects "java/lang/StringBuilder" x M'.y ∈ TB) (w6 : Cond.code x b0 m0 r0 ∈ TB) (hx : (x.cls ≠ "java/lang/invoke/MethodHandle" ∧ x.cls ≠ "java/lang/invoke/VarHandle") ∧ (parseMethodDescriptor x.desc).map (fun d => d.parameters.length) = some n)
    (hR0 : M'.rm.frames + 1 ≤ M.rm.frames ∧ 8 + (M'.n + 11) + M'.rm.locals ≤ M.rm.locals) (hd : decode M.b pc = .ok (.invokevirtual idx, 3)) (pc' : Nat) (hp : pc + 3 = pc') (ct : Ct E K.l M' (.ref b :: As) wcs X' ZZ) (hn : As.length = n)
    (isC isR : List Nat) {q0 ci : Nat} {fs : List Value} {cq : vw_C} (he : wcs[q0]? = some (b, .inr (ci, fs))) (hci : classes[ci]? = some cq) (hcq : cq.1 = "java/lang/StringBuilder") (hC : isC.map (fun i => ws[i]?) = wcs.map some) (hnC : va_nd isC = true) (hR : isR.map (fun i => ws[i]?) = wr.map some) (hnR : va_nd isR = true) (hdis : ∀ i ∈ isR, i ∉ isC)
    {stk : List Value} (hstk : stk = As.reverse ++ .ref b :: rest) (hrest : (rest.map fun v => v.category).sum ≤ 8)
    (bc' bs' : Nat) (hbc : bc' + M'.rm.cells ≤ bc) (hbs : bs' + M'.rm.slots ≤ bs) (kk : ∀ (z' : σ) (v : Option Value) (w : va_W), ZZ z' v w → V E K M Q bc' bs' (wr ++ w) pc' lv (v.toList ++ rest) (F z')) : V E K M Q bc bs ws pc lv stk (X'.bind F) := by
  subst hstk
  intro ok z hz H locs cells slots ls hP hD hS hl h1 h2
  obtain ⟨z', hz', hF⟩ := bind_get hz
  have hPw := pc_of (avs := .ref b :: As) ok hP hD hS isC hC hnC
  have hrecv : ∃ cell : Cell, H[b]? = some cell ∧ cell.vm.isStatics = false ∧ K.s.vm.findClass "java/lang/StringBuilder" = some cell.cls := by
    have g1 : (isC.map (fun i => ws[i]?))[q0]? = some (some (b, .inr (ci, fs))) := by rw [hC, List.getElem?_map, he]; rfl
    rw [List.getElem?_map] at g1
    cases hi : isC[q0]? with
    | none => rw [hi] at g1; cases g1
    | some i => rw [hi] at g1; rw [← hcq]; exact va_recv ok.2.2.2.2.2.2.2.2.2.1 hP hci (Option.some.inj g1)
  have hcu : va_CU M.rm K.s K.a M.y.cls "java/lang/StringBuilder" x.cls idx x M'.y M'.b M'.n M'.ret (M'.wc :: TB) M'.rm M'.rm.cells M'.rm.slots n := by
    refine ⟨⟨rfl, rfl, hR0.1, hR0.2, pay_in ok.2.2.2.2.1 (good_y mf), List.mem_cons_self⟩, ok.2.2.2.2.1 _ mf.2.2.2.1, ok.2.2.2.2.1 _ mf.2.2.2.2, hx.1, fun sig e => ?_, ok.2.2.2.2.1 _ w1, ok.2.2.2.2.1 _ w2, va_Decl.of (ok.2.2.2.2.1 _ w3) (ok.2.2.2.2.1 _ w6), ok.2.2.2.2.1 _ w5, ok.2.2.2.2.1 _ w4⟩
    have h2 := hx.2
    rw [e] at h2
    exact (Option.some.inj h2).symm
  exact V_after ok hP hD hS hl isC isR hC hR hnR hdis (va_runU (C := "java/lang/StringBuilder") (As := As) (rest := rest) (n := n) ⟨ok.1, ok.2.1, ok.2.2.1, ok.2.2.2.1, ok.2.2.2.2.1⟩ (ct z' hz' H.size) hcu ⟨Wd_blind, hrecv, hPw⟩ rfl hn hl.1 rfl (lv_room hrest) hd ⟨by omega, by omega⟩) hp (bc' := bc') (bs' := bs') (by omega) (by omega) hF (fun v w h => kk z' v w h)
theorem V_callSU {σ : Type} {M' : MX} {b : Nat} {As : List Value} {wcs wr : va_W} {X' : Option σ} {F : σ → Option ρ} {ZZ : σ → Option Value → va_W → Prop} {n idx : Nat} {rest : List Value} {pc : Nat} (mf : mfact M' n) (w1 : Cond.methodLink M.y.cls idx M'.y ∈ TB) (w2 : Cond.sameMethod M'.y.cls M'.y.cls M'.y.name M'.y.desc ∈ TB) (w3 : Cond.superclass M.y.cls M'.y.cls ∈ TB) (w4 : Cond.instanceMethod M'.y ∈ TB) (hno : M'.y.name ≠ "<init>")
    (hR0 : M'.rm.frames + 1 ≤ M.rm.frames ∧ 8 + (M'.n + 11) + M'.rm.locals ≤ M.rm.locals) (hd : decode M.b pc = .ok (.invokespecial idx, 3)) (pc' : Nat) (hp : pc + 3 = pc') (ct : Ct E K.l M' (.ref b :: As) wcs X' ZZ) (hn : As.length = n)
    (isC isR : List Nat) {q0 : Nat} {fs : List Value} (he : wcs[q0]? = some (b, .inr (6, fs))) (hC : isC.map (fun i => ws[i]?) = wcs.map some) (hnC : va_nd isC = true) (hR : isR.map (fun i => ws[i]?) = wr.map some) (hnR : va_nd isR = true) (hdis : ∀ i ∈ isR, i ∉ isC)
    {stk : List Value} (hstk : stk = As.reverse ++ .ref b :: rest) (hrest : (rest.map fun v => v.category).sum ≤ 8)
    (bc' bs' : Nat) (hbc : bc' + M'.rm.cells ≤ bc) (hbs : bs' + M'.rm.slots ≤ bs) (kk : ∀ (z' : σ) (v : Option Value) (w : va_W), ZZ z' v w → V E K M Q bc' bs' (wr ++ w) pc' lv (v.toList ++ rest) (F z')) : V E K M Q bc bs ws pc lv stk (X'.bind F) := by
  subst hstk
  intro ok z hz H locs cells slots ls hP hD hS hl h1 h2
  obtain ⟨z', hz', hF⟩ := bind_get hz
  have hPw := pc_of (avs := .ref b :: As) ok hP hD hS isC hC hnC
  have hcA := (ok.2.2.2.2.2.2.2.2.2.1.1 6 (RJ4, TJ4, 4) rfl).2
  have hrecv : ∃ cell : Cell, H[b]? = some cell ∧ cell.vm.isStatics = false ∧ K.s.vm.findClass RJ4 = some cell.cls := by
    have g1 : (isC.map (fun i => ws[i]?))[q0]? = some (some (b, .inr (6, fs))) := by rw [hC, List.getElem?_map, he]; rfl
    rw [List.getElem?_map] at g1
    cases hi : isC[q0]? with
    | none => rw [hi] at g1; cases g1
    | some i => rw [hi] at g1; exact va_recv (q := (RJ4, TJ4, 4)) ok.2.2.2.2.2.2.2.2.2.1 hP rfl (Option.some.inj g1)
  have hcs : va_CS M.rm K.s K.a M.y.cls idx M'.y M'.b M'.n M'.ret (M'.wc :: TB) M'.rm M'.rm.cells M'.rm.slots n := by
    refine ⟨⟨rfl, rfl, hR0.1, hR0.2, pay_in ok.2.2.2.2.1 (good_y mf), List.mem_cons_self⟩, ok.2.2.2.2.1 _ w1, ok.2.2.2.2.1 _ w2, ok.2.2.2.2.1 _ w3, ok.2.2.2.2.1 _ w4, ok.2.2.2.2.1 _ mf.2.2.2.2, ok.2.2.2.2.1 _ mf.2.2.2.1, hno, fun sig e => ?_⟩
    have h2 := mf.2.2.1
    rw [e] at h2
    exact (Option.some.inj h2).symm
  exact V_after ok hP hD hS hl isC isR hC hR hnR hdis (va_runSU (C := RJ4) (As := As) (rest := rest) (n := n) hcA ⟨ok.1, ok.2.1, ok.2.2.1, ok.2.2.2.1, ok.2.2.2.2.1⟩ (ct z' hz' H.size) hcs ⟨Wd_blind, hrecv, hPw⟩ rfl hn hl.1 rfl (lv_room hrest) hd ⟨by omega, by omega⟩) hp (bc' := bc') (bs' := bs') (by omega) (by omega) hF (fun v w h => kk z' v w h)
/-- how long a builder's row of bytes is, once it must hold m -/
def capE (n : Nat) (m : Int32) : Nat := if m - Int32.ofNat n ≤ 0 then n else n + max (m - Int32.ofNat n).toNatClampNeg (n + 2)
end VX
