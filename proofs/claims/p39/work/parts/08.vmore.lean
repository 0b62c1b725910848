/-! further rows of V: constructors, nest mates, constants, statics, throws -/
section VM
variable {E : EX} {K : KX} {M : MX} {ρ : Type} {Q : ρ → State → Prop} {bc bs : Nat} {ws : va_W} {lv : List (Nat × Value)} {X : Option ρ}
theorem okG (ok : okX E K M) : GR E K.A K.s K.s.heap := ok.2.2.2.2.2.2.2.2.2.2.2
theorem V_callI {σ : Type} {M' : MX} {b : Nat} {As : List Value} {wcs wr : va_W} {X' : Option σ} {F : σ → Option ρ} {ZZ : σ → Option Value → va_W → Prop} {n idx : Nat} {rest : List Value} {pc : Nat} (mf : mfact M' n) (hret : M'.ret = none) (hy1 : M'.y.name = "<init>") (w1 : Cond.methodLink M.y.cls idx M'.y ∈ TB) (w2 : Cond.instanceMethod M'.y ∈ TB)
    (hR0 : M'.rm.frames + 1 ≤ M.rm.frames ∧ 8 + (M'.n + 11) + M'.rm.locals ≤ M.rm.locals) (hd : decode M.b pc = .ok (.invokespecial idx, 3)) (pc' : Nat) (hp : pc + 3 = pc') (ct : Ct E K.l M' (.ref b :: As) wcs X' ZZ) (hn : As.length = n)
    (isC isR : List Nat) (hC : isC.map (fun i => ws[i]?) = wcs.map some) (hnC : va_nd isC = true) (hR : isR.map (fun i => ws[i]?) = wr.map some) (hnR : va_nd isR = true) (hdis : ∀ i ∈ isR, i ∉ isC) {stk : List Value} (hstk : stk = As.reverse ++ .ref b :: rest) (hrest : (rest.map fun v => v.category).sum ≤ 8)
    (bc' bs' : Nat) (hbc : bc' + M'.rm.cells ≤ bc) (hbs : bs' + M'.rm.slots ≤ bs) (kk : ∀ (z' : σ) (v : Option Value) (w : va_W), ZZ z' v w → V E K M Q bc' bs' (wr ++ w) pc' lv (v.toList ++ rest) (F z')) : V E K M Q bc bs ws pc lv stk (X'.bind F) := by
  obtain ⟨y, b', nL, ret, rm⟩ := M'
  have hret' : ret = none := hret
  subst hret'
  subst hstk
  intro ok z hz H locs cells slots ls hP hD hS hl h1 h2
  obtain ⟨z', hz', hF⟩ := bind_get hz
  have hPw := pc_of (avs := .ref b :: As) ok hP hD hS isC hC hnC
  refine V_after ok hP hD hS hl isC isR hC hR hnR hdis (va_runI (As := As) (rest := rest) (n := n) ⟨ok.1, ok.2.1, ok.2.2.1, ok.2.2.2.1, ok.2.2.2.2.1⟩ (ct z' hz' H.size) ⟨callB_V ok mf w1 hR0, hy1, ok.2.2.2.2.1 _ w2⟩ ⟨Wd_blind, hPw⟩ rfl hn hl.1 rfl (lv_room hrest) hd ⟨by omega, by omega⟩) hp (bc' := bc') (bs' := bs') (by omega) (by omega) hF (fun v w h => kk z' v w h)
theorem callN_V {M' : MX} {n idx : Nat} {host : String} (ok : okX E K M) (h : mfact M' n) (hw : (M.y.cls, idx, M'.y, host) ∈ nestM) (hR : M'.rm.frames + 1 ≤ M.rm.frames ∧ 8 + (M'.n + 11) + M'.rm.locals ≤ M.rm.locals) : va_CN M.rm K.s K.a M.y.cls idx M'.y host M'.b M'.n M'.ret (M'.wc :: TB) M'.rm M'.rm.cells M'.rm.slots n :=
  have hw2 := (okG ok).2.1 _ hw
  va_cnB n ok.2.2.2.2.1 (good_y h) rfl rfl rfl hw2 (ok.2.2.2.2.1 _ h.2.2.2.2) ⟨h.2.1.1, h.2.1.2, h.2.2.1⟩ hR
theorem V_callIN {σ : Type} {M' : MX} {b : Nat} {As : List Value} {wcs wr : va_W} {X' : Option σ} {F : σ → Option ρ} {ZZ : σ → Option Value → va_W → Prop} {n idx : Nat} {host : String} {rest : List Value} {pc : Nat} (mf : mfact M' n) (hret : M'.ret = none) (hy1 : M'.y.name = "<init>") (w1 : (M.y.cls, idx, M'.y, host) ∈ nestM) (w2 : Cond.instanceMethod M'.y ∈ TB)
    (hR0 : M'.rm.frames + 1 ≤ M.rm.frames ∧ 8 + (M'.n + 11) + M'.rm.locals ≤ M.rm.locals) (hd : decode M.b pc = .ok (.invokespecial idx, 3)) (pc' : Nat) (hp : pc + 3 = pc') (ct : Ct E K.l M' (.ref b :: As) wcs X' ZZ) (hn : As.length = n)
    (isC isR : List Nat) (hC : isC.map (fun i => ws[i]?) = wcs.map some) (hnC : va_nd isC = true) (hR : isR.map (fun i => ws[i]?) = wr.map some) (hnR : va_nd isR = true) (hdis : ∀ i ∈ isR, i ∉ isC) {stk : List Value} (hstk : stk = As.reverse ++ .ref b :: rest) (hrest : (rest.map fun v => v.category).sum ≤ 8)
    (bc' bs' : Nat) (hbc : bc' + M'.rm.cells ≤ bc) (hbs : bs' + M'.rm.slots ≤ bs) (kk : ∀ (z' : σ) (v : Option Value) (w : va_W), ZZ z' v w → V E K M Q bc' bs' (wr ++ w) pc' lv (v.toList ++ rest) (F z')) : V E K M Q bc bs ws pc lv stk (X'.bind F) := by
  obtain ⟨y, b', nL, ret, rm⟩ := M'
  have hret' : ret = none := hret
  subst hret'
  subst hstk
  intro ok z hz H locs cells slots ls hP hD hS hl h1 h2
  obtain ⟨z', hz', hF⟩ := bind_get hz
  have hPw := pc_of (avs := .ref b :: As) ok hP hD hS isC hC hnC
  refine V_after ok hP hD hS hl isC isR hC hR hnR hdis (va_runIN (As := As) (rest := rest) (n := n) ⟨ok.1, ok.2.1, ok.2.2.1, ok.2.2.2.1, ok.2.2.2.2.1⟩ (ct z' hz' H.size) ⟨callN_V ok mf w1 hR0, hy1, ok.2.2.2.2.1 _ w2⟩ ⟨Wd_blind, hPw⟩ rfl hn hl.1 rfl (lv_room hrest) hd ⟨by omega, by omega⟩) hp (bc' := bc') (bs' := bs') (by omega) (by omega) hF (fun v w h => kk z' v w h)
theorem V_callSN {σ : Type} {M' : MX} {As : List Value} {wcs wr : va_W} {X' : Option σ} {F : σ → Option ρ} {ZZ : σ → Option Value → va_W → Prop} {n idx : Nat} {host : String} {rest : List Value} {pc : Nat} (mf : mfact M' n) (w1 : (M.y.cls, idx, M'.y, host) ∈ nestM) (w2 : Cond.static M'.y ∈ TB)
    (hR0 : M'.rm.frames + 1 ≤ M.rm.frames ∧ 8 + (M'.n + 11) + M'.rm.locals ≤ M.rm.locals) (hd : decode M.b pc = .ok (.invokestatic idx, 3)) (pc' : Nat) (hp : pc + 3 = pc') (ct : Ct E K.l M' As wcs X' ZZ) (hn : As.length = n)
    (isC isR : List Nat) (hC : isC.map (fun i => ws[i]?) = wcs.map some) (hnC : va_nd isC = true) (hR : isR.map (fun i => ws[i]?) = wr.map some) (hnR : va_nd isR = true) (hdis : ∀ i ∈ isR, i ∉ isC) {stk : List Value} (hstk : stk = As.reverse ++ rest) (hrest : (rest.map fun v => v.category).sum ≤ 8)
    (bc' bs' : Nat) (hbc : bc' + M'.rm.cells ≤ bc) (hbs : bs' + M'.rm.slots ≤ bs) (kk : ∀ (z' : σ) (v : Option Value) (w : va_W), ZZ z' v w → V E K M Q bc' bs' (wr ++ w) pc' lv (v.toList ++ rest) (F z')) : V E K M Q bc bs ws pc lv stk (X'.bind F) := by
  subst hstk
  intro ok z hz H locs cells slots ls hP hD hS hl h1 h2
  obtain ⟨z', hz', hF⟩ := bind_get hz
  have hPw := pc_of (avs := As) ok hP hD hS isC hC hnC
  refine V_after ok hP hD hS hl isC isR hC hR hnR hdis (va_runSN (As := As) (rest := rest) (n := n) ⟨ok.1, ok.2.1, ok.2.2.1, ok.2.2.2.1, ok.2.2.2.2.1⟩ (ct z' hz' H.size) ⟨callN_V ok mf w1 hR0, ok.2.2.2.2.1 _ w2, trivial⟩ ⟨Wd_blind, hPw⟩ rfl hn hl.1 rfl (lv_room hrest) hd ⟨by omega, by omega⟩) hp (bc' := bc') (bs' := bs') (by omega) (by omega) hF (fun v w h => kk z' v w h)
/-! constants and statics -/
theorem V_ldcS {idx : Nat} {tx : String} (i : Nat) (hi : strs[i]? = some (M.y.cls, idx, tx)) {st : List Value} {pc : Nat} (hd : decode M.b pc = .ok (.ldc idx, 2)) (pc' : Nat) (hp : pc + 2 = pc') (kk : V E K M Q bc bs ws pc' lv (.ref (E.2.2.2.1 i) :: st) X) : V E K M Q bc bs ws pc lv st X := by
  subst hp
  intro ok z hz H locs cells slots ls hP hD hS hl h1 h2
  have hr : vk_R M.y.cls idx tx (E.2.2.2.1 i) K.s := (okG ok).2.2.2.1 i (M.y.cls, idx, tx) hi
  exact va_ldcS (tx := tx) (q := E.2.2.2.1 i) ok.1 ok.2.1 ok.2.2.2.1 hr hd (kk ok z hz H locs cells slots ls hP hD hS hl h1 h2)
theorem V_getKc {idx i : Nat} (hi : i < 7) (w : Cond.fieldLink M.y.cls idx "java/lang/String" "coder" "B" ∈ TB) {st : List Value} {pc : Nat} (hd : decode M.b pc = .ok (.getfield idx, 3)) (pc' : Nat) (hp : pc + 3 = pc') (kk : V E K M Q bc bs ws pc' lv (.int 0 :: st) X) : V E K M Q bc bs ws pc lv (.ref (E.2.2.2.1 i) :: st) X := by
  subst hp
  intro ok z hz H locs cells slots ls hP hD hS hl h1 h2
  exact vk_getf ok.1 ok.2.1 ((okG ok).2.2.1.1 i hi).2.1 hS ok.2.2.2.1 (ok.2.2.2.2.1 _ w) (fun _ h => h) hd (kk ok z hz H locs cells slots ls hP hD hS hl h1 h2)
theorem V_getKv {idx i : Nat} (hi : i < 7) (w : Cond.fieldLink M.y.cls idx "java/lang/String" "value" "[B" ∈ TB) {st : List Value} {pc : Nat} (hd : decode M.b pc = .ok (.getfield idx, 3)) (pc' : Nat) (hp : pc + 3 = pc') (kk : V E K M Q bc bs ws pc' lv (.ref (E.2.2.2.2.1 i) :: st) X) : V E K M Q bc bs ws pc lv (.ref (E.2.2.2.1 i) :: st) X := by
  subst hp
  intro ok z hz H locs cells slots ls hP hD hS hl h1 h2
  exact vk_getf ok.1 ok.2.1 ((okG ok).2.2.1.1 i hi).2.2.1 hS ok.2.2.2.1 (ok.2.2.2.2.1 _ w) (fun _ h => h) hd (kk ok z hz H locs cells slots ls hP hD hS hl h1 h2)
theorem V_alenK {i : Nat} (hi : i < 7) {st : List Value} {pc : Nat} (hd : decode M.b pc = .ok (.arraylength, 1)) (pc' : Nat) (hp : pc + 1 = pc') (kk : V E K M Q bc bs ws pc' lv (.int (Int32.ofNat (strL.getD i 0)) :: st) X) : V E K M Q bc bs ws pc lv (.ref (E.2.2.2.2.1 i) :: st) X := by
  subst hp
  intro ok z hz H locs cells slots ls hP hD hS hl h1 h2
  exact va_tlen ok.1 ok.2.1 ((okG ok).2.2.1.1 i hi).2.2.2 hS rfl hd (kk ok z hz H locs cells slots ls hP hD hS hl h1 h2)
theorem V_getsC {idx : Nat} (w : Cond.fieldLink M.y.cls idx "java/lang/String" "COMPACT_STRINGS" "Z" ∈ TB) {st : List Value} {pc : Nat} (hd : decode M.b pc = .ok (.getstatic idx, 3)) (pc' : Nat) (hp : pc + 3 = pc') (kk : V E K M Q bc bs ws pc' lv (.int 1 :: st) X) : V E K M Q bc bs ws pc lv st X := by
  subst hp
  intro ok z hz H locs cells slots ls hP hD hS hl h1 h2
  exact va_gets ok.1 ok.2.1 (okG ok).2.2.2.2.1 hS ok.2.2.2.1 (ok.2.2.2.2.1 _ w) (fun _ h => h) hd (kk ok z hz H locs cells slots ls hP hD hS hl h1 h2)
theorem V_getsO {idx : Nat} (w : Cond.fieldLink M.y.cls idx "java/lang/Integer" "DigitOnes" "[B" ∈ TB) {st : List Value} {pc : Nat} (hd : decode M.b pc = .ok (.getstatic idx, 3)) (pc' : Nat) (hp : pc + 3 = pc') (kk : V E K M Q bc bs ws pc' lv (.ref E.2.2.2.2.2.1 :: st) X) : V E K M Q bc bs ws pc lv st X := by
  subst hp
  intro ok z hz H locs cells slots ls hP hD hS hl h1 h2
  exact va_gets ok.1 ok.2.1 (okG ok).2.2.2.2.2.1 hS ok.2.2.2.1 (ok.2.2.2.2.1 _ w) (fun _ h => h) hd (kk ok z hz H locs cells slots ls hP hD hS hl h1 h2)
theorem V_getsT {idx : Nat} (w : Cond.fieldLink M.y.cls idx "java/lang/Integer" "DigitTens" "[B" ∈ TB) {st : List Value} {pc : Nat} (hd : decode M.b pc = .ok (.getstatic idx, 3)) (pc' : Nat) (hp : pc + 3 = pc') (kk : V E K M Q bc bs ws pc' lv (.ref E.2.2.2.2.2.2 :: st) X) : V E K M Q bc bs ws pc lv st X := by
  subst hp
  intro ok z hz H locs cells slots ls hP hD hS hl h1 h2
  exact va_gets ok.1 ok.2.1 (okG ok).2.2.2.2.2.2.2.1 hS ok.2.2.2.1 (ok.2.2.2.2.1 _ w) (fun _ h => h) hd (kk ok z hz H locs cells slots ls hP hD hS hl h1 h2)
theorem V_tbO {i : Int32} {st : List Value} {pc : Nat} (hd : decode M.b pc = .ok (.baload, 1)) (pc' : Nat) (hp : pc + 1 = pc') (kk : V E K M Q bc bs ws pc' lv (.int (nI (48 + i.toNatClampNeg % 10)) :: st) X) : V E K M Q bc bs ws pc lv (.int i :: .ref E.2.2.2.2.2.1 :: st) (inB i 100 X) := by
  subst hp
  intro ok z hz H locs cells slots ls hP hD hS hl h1 h2
  obtain ⟨hin, hz⟩ := inB_some hz
  exact va_tb ok.1 ok.2.1 (okG ok).2.2.2.2.2.2.1 hS hin rfl hd (kk ok z hz H locs cells slots ls hP hD hS hl h1 h2)
theorem V_tbT {i : Int32} {st : List Value} {pc : Nat} (hd : decode M.b pc = .ok (.baload, 1)) (pc' : Nat) (hp : pc + 1 = pc') (kk : V E K M Q bc bs ws pc' lv (.int (nI (48 + i.toNatClampNeg / 10)) :: st) X) : V E K M Q bc bs ws pc lv (.int i :: .ref E.2.2.2.2.2.2 :: st) (inB i 100 X) := by
  subst hp
  intro ok z hz H locs cells slots ls hP hD hS hl h1 h2
  obtain ⟨hin, hz⟩ := inB_some hz
  exact va_tb ok.1 ok.2.1 (okG ok).2.2.2.2.2.2.2.2.1 hS hin rfl hd (kk ok z hz H locs cells slots ls hP hD hS hl h1 h2)
/-- what a copy between byte arrays asks: places in range, contents that are bytes -/
def cpOk (f : Nat → Int32) (n0 : Nat) (n1 : Nat) (sp dp n : Int32) : Prop := ¬ sp < 0 ∧ ¬ dp < 0 ∧ ¬ n < 0 ∧ sp.toNatClampNeg + n.toNatClampNeg ≤ n0 ∧ dp.toNatClampNeg + n.toNatClampNeg ≤ n1 ∧ ∀ i, i < n.toNatClampNeg → fits .byte (.int (f (sp.toNatClampNeg + i))) = true
noncomputable def gP {β : Type} (b : Prop) (x : Option β) : Option β := @ite _ b (Classical.propDecidable b) x none
theorem gP_some {β : Type} {b : Prop} {x : Option β} {z : β} (h : gP b x = some z) : b ∧ x = some z := by
  unfold gP at h
  split at h
  · exact ⟨by assumption, h⟩
  · cases h
def wCopy (own : String) (idx : Nat) : Prop := Cond.methodLink own idx arraycopyName ∈ TB ∧ Cond.native arraycopyName ∈ TB ∧ Cond.static arraycopyName ∈ TB ∧ Cond.initialized "java/lang/System" ∈ TB
theorem V_copyB {idx : Nat} (w : wCopy M.y.cls idx) (hf : 1 ≤ M.rm.frames) {st : List Value} (hlo : (st.map fun v => v.category).sum + (nativeFrameWords "java/lang/System" "arraycopy" 5 + 11) ≤ M.rm.locals) (q0 q1 : Nat) {a0 a n0 n1 : Nat} {f g : Nat → Int32} (he0 : ws[q0]? = some (a0, .inl (E.2.2.1, n0, .inl f))) (he1 : ws[q1]? = some (a, .inl (E.2.2.1, n1, .inl g))) {sp dp n : Int32} {pc : Nat} (hd : decode M.b pc = .ok (.invokestatic idx, 3)) (pc' : Nat) (hp : pc + 3 = pc')
    (ws' : va_W) (hws : ws.set q1 (a, .inl (E.2.2.1, n1, .inl (va_cpy f g sp.toNatClampNeg dp.toNatClampNeg n.toNatClampNeg))) = ws') (kk : V E K M Q bc bs ws' pc' lv st X) : V E K M Q bc bs ws pc lv (.int n :: .int dp :: .ref a :: .int sp :: .ref a0 :: st) (gP (cpOk f n0 n1 sp dp n) X) := by
  subst hp; subst hws
  intro ok z hz H locs cells slots ls hP hD hS hl h1 h2
  obtain ⟨⟨c1, c2, c3, c4, c5, c6⟩, hz⟩ := gP_some hz
  exact va_copyi (D := E.1) (cl := classes) (ty := .byte) ok.1 ok.2.1 (ok.2.2.1.trans hl.1.symm) ok.2.2.2.1 (ok.2.2.2.2.1 _ w.1) (ok.2.2.2.2.1 _ w.2.1) (ok.2.2.2.2.1 _ w.2.2.1) (ok.2.2.2.2.1 _ w.2.2.2) ok.2.2.2.2.2.2.2.2.2.1 hP hD hS q0 q1 1 1 he0 he1 rfl rfl rfl c1 c2 c3 c4 c5 c6 hf hlo hd (fun H1 locs1 hP hD hS => kk ok z hz H1 locs1 cells slots ls hP hD hS hl h1 h2)
def strF (i : Nat) : Nat → Int32 := fun j => (strB.getD i []).getD j 0
theorem V_copyK {idx i : Nat} (hi : i < 7) (w : wCopy M.y.cls idx) (hf : 1 ≤ M.rm.frames) {st : List Value} (hlo : (st.map fun v => v.category).sum + (nativeFrameWords "java/lang/System" "arraycopy" 5 + 11) ≤ M.rm.locals) (q1 : Nat) {a n1 : Nat} {g : Nat → Int32} (he1 : ws[q1]? = some (a, .inl (E.2.2.1, n1, .inl g))) {sp dp n : Int32} {pc : Nat} (hd : decode M.b pc = .ok (.invokestatic idx, 3)) (pc' : Nat) (hp : pc + 3 = pc')
    (ws' : va_W) (hws : ws.set q1 (a, .inl (E.2.2.1, n1, .inl (va_cpy (strF i) g sp.toNatClampNeg dp.toNatClampNeg n.toNatClampNeg))) = ws') (kk : V E K M Q bc bs ws' pc' lv st X) : V E K M Q bc bs ws pc lv (.int n :: .int dp :: .ref a :: .int sp :: .ref (E.2.2.2.2.1 i) :: st) (gP (cpOk (strF i) (strL.getD i 0) n1 sp dp n) X) := by
  subst hp; subst hws
  intro ok z hz H locs cells slots ls hP hD hS hl h1 h2
  obtain ⟨⟨c1, c2, c3, c4, c5, c6⟩, hz⟩ := gP_some hz
  exact vk_copyt (D := E.1) (cl := classes) ok.1 ok.2.1 (ok.2.2.1.trans hl.1.symm) ok.2.2.2.1 (ok.2.2.2.2.1 _ w.1) (ok.2.2.2.2.1 _ w.2.1) (ok.2.2.2.2.1 _ w.2.2.1) (ok.2.2.2.2.1 _ w.2.2.2) ok.2.2.2.2.2.2.2.2.2.1 hP hD hS ((okG ok).2.2.1.1 i hi).2.2.2 q1 1 he1 rfl c1 c2 c3 c4 c5 c6 hf hlo hd (fun H1 locs1 hP hD hS => kk ok z hz H1 locs1 cells slots ls hP hD hS hl h1 h2)
/-- a call on a String constant -/
theorem V_callVK {σ : Type} {M' : MX} {i : Nat} (hi : i < 7) {As : List Value} {wcs wr : va_W} {X' : Option σ} {F : σ → Option ρ} {ZZ : σ → Option Value → va_W → Prop} {n idx : Nat} {rest : List Value} {pc : Nat} (mf : mfact M' n) (hC0 : M'.y.cls = "java/lang/String") (w1 : Cond.methodLink M.y.cls idx M'.y ∈ TB) (w2 : Cond.instanceMethod M'.y ∈ TB) (w3 : Cond.selects M'.y.cls M'.y M'.y ∈ TB)
    (hR0 : M'.rm.frames + 1 ≤ M.rm.frames ∧ 8 + (M'.n + 11) + M'.rm.locals ≤ M.rm.locals) (hd : decode M.b pc = .ok (.invokevirtual idx, 3)) (pc' : Nat) (hp : pc + 3 = pc') (ct : Ct E K.l M' (.ref (E.2.2.2.1 i) :: As) wcs X' ZZ) (hn : As.length = n)
    (isC isR : List Nat) (hC : isC.map (fun i => ws[i]?) = wcs.map some) (hnC : va_nd isC = true) (hR : isR.map (fun i => ws[i]?) = wr.map some) (hnR : va_nd isR = true) (hdis : ∀ i ∈ isR, i ∉ isC) {stk : List Value} (hstk : stk = As.reverse ++ .ref (E.2.2.2.1 i) :: rest) (hrest : (rest.map fun v => v.category).sum ≤ 8)
    (bc' bs' : Nat) (hbc : bc' + M'.rm.cells ≤ bc) (hbs : bs' + M'.rm.slots ≤ bs) (kk : ∀ (z' : σ) (v : Option Value) (w : va_W), ZZ z' v w → V E K M Q bc' bs' (wr ++ w) pc' lv (v.toList ++ rest) (F z')) : V E K M Q bc bs ws pc lv stk (X'.bind F) := by
  subst hstk
  intro ok z hz H locs cells slots ls hP hD hS hl h1 h2
  obtain ⟨z', hz', hF⟩ := bind_get hz
  have hPw := pc_of (avs := .ref (E.2.2.2.1 i) :: As) ok hP hD hS isC hC hnC
  have hrecv := vk_recv (okG ok).2.2.1 hi hS
  rw [← hC0] at hrecv
  refine V_after ok hP hD hS hl isC isR hC hR hnR hdis (va_runV (C := M'.y.cls) (As := As) (rest := rest) (n := n) ⟨ok.1, ok.2.1, ok.2.2.1, ok.2.2.2.1, ok.2.2.2.2.1⟩ (ct z' hz' H.size) ⟨callB_V ok mf w1 hR0, ok.2.2.2.2.1 _ w2, ok.2.2.2.2.1 _ w3⟩ ⟨Wd_blind, hrecv, hPw⟩ rfl hn hl.1 rfl (lv_room hrest) hd ⟨by omega, by omega⟩) hp (bc' := bc') (bs' := bs') (by omega) (by omega) hF (fun v w h => kk z' v w h)
end VM
