/-! small rows that the printed walks use -/
section VZ
variable {E : EX} {K : KX} {M : MX} {ρ : Type} {Q : ρ → State → Prop} {bc bs : Nat} {ws : va_W} {lv : List (Nat × Value)} {X : Option ρ}
theorem V_eqW {ws2 : va_W} {pc : Nat} {st : List Value} (h : ws = ws2) (k : V E K M Q bc bs ws2 pc lv st X) : V E K M Q bc bs ws pc lv st X := h ▸ k
/-- a divisor that is not 0 -/
def nz {β : Type} (y : Int32) (x : Option β) : Option β := if y = 0 then none else x
theorem V_nz {y : Int32} {pc : Nat} {st : List Value} (k : ¬ y = 0 → V E K M Q bc bs ws pc lv st X) : V E K M Q bc bs ws pc lv st (nz y X) := by
  unfold nz
  split
  · exact V_none
  · exact k (by assumption)
/-- a truth value -/
def bz {β : Type} (v : Int32) (x : Option β) : Option β := if v = 0 ∨ v = 1 then x else none
theorem V_bz {v : Int32} {pc : Nat} {st : List Value} (k : (v = 0 ∨ v = 1) → V E K M Q bc bs ws pc lv st X) : V E K M Q bc bs ws pc lv st (bz v X) := by
  unfold bz
  split
  · exact k (by assumption)
  · exact V_none
theorem bz_n {v : Int32} (h : v = 0 ∨ v = 1) : narrow .boolean (.int v) = .int v := by rcases h with rfl | rfl <;> decide
theorem bz_f {v : Int32} (h : v = 0 ∨ v = 1) : fits .boolean (.int v) = true := by rcases h with rfl | rfl <;> decide
/-- a byte -/
def bb {β : Type} (v : Int32) (x : Option β) : Option β := if narrow .byte (.int v) = .int v ∧ fits .byte (.int v) = true then x else none
theorem V_bb {v : Int32} {pc : Nat} {st : List Value} (k : (narrow .byte (.int v) = .int v ∧ fits .byte (.int v) = true) → V E K M Q bc bs ws pc lv st X) : V E K M Q bc bs ws pc lv st (bb v X) := by
  unfold bb
  split
  · exact k (by assumption)
  · exact V_none
theorem bb_n {v : Int32} (h : narrow .byte (.int v) = .int v ∧ fits .byte (.int v) = true) : narrow .byte (.int v) = .int v := h.1
theorem bb_f {v : Int32} (h : narrow .byte (.int v) = .int v ∧ fits .byte (.int v) = true) : fits .byte (.int v) = true := h.2
theorem V_split {c : Prop} {i : Decidable c} {XT XF : Option ρ} {pc : Nat} {st : List Value} (kt : c → V E K M Q bc bs ws pc lv st XT) (kf : ¬ c → V E K M Q bc bs ws pc lv st XF) : V E K M Q bc bs ws pc lv st (@ite _ c i XT XF) := by
  by_cases h : c
  · rw [if_pos h]; exact kt h
  · rw [if_neg h]; exact kf h
theorem i32ne {x y : Int32} (h : ¬ x = y) : x.toInt ≠ y.toInt := fun e => h (Int32.toInt_inj.mp e)
theorem V_tswIn {x v : Int32} (hx : x = v) {df lo hi : Int} {offs : Array Int} {len : Nat} {off : Int} {st : List Value} {pc : Nat} (hd : decode M.b pc = .ok (.tableswitch df lo hi offs, len)) (h1 : ¬ v.toInt < lo) (h2 : ¬ hi < v.toInt) (ho : offs[(v.toInt - lo).toNat]? = some off) (tgt : Nat) (ht : (pc : Int) + off = (tgt : Int)) (k : V E K M Q bc bs ws tgt lv st X) : V E K M Q bc bs ws pc lv (.int x :: st) X := by
  subst hx
  intro ok z hz H locs cells slots ls hP hD hS hl g1 g2
  exact lv_tableIn ok.1 ok.2.1 hd h1 h2 ho ht (k ok z hz H locs cells slots ls hP hD hS hl g1 g2)
theorem V_tswOut {x : Int32} {df lo hi : Int} {offs : Array Int} {len : Nat} {st : List Value} {pc : Nat} (hd : decode M.b pc = .ok (.tableswitch df lo hi offs, len)) (h : x.toInt < lo ∨ hi < x.toInt) (tgt : Nat) (ht : (pc : Int) + df = (tgt : Int)) (k : V E K M Q bc bs ws tgt lv st X) : V E K M Q bc bs ws pc lv (.int x :: st) X := by
  intro ok z hz H locs cells slots ls hP hD hS hl g1 g2
  exact lv_tableOut ok.1 ok.2.1 hd h ht (k ok z hz H locs cells slots ls hP hD hS hl g1 g2)
theorem V_lsw {x : Int32} {df : Int} {ps : Array (Int × Int)} {len : Nat} {off : Int} {st : List Value} {pc : Nat} (hd : decode M.b pc = .ok (.lookupswitch df ps, len)) (hp : (ps.toList.zip (ps.toList.drop 1)).all (fun (a, next) => a.1 < next.1) = true) (ho : Op.lookupswitch.offset ps.toList df x.toInt = off) (tgt : Nat) (ht : (pc : Int) + off = (tgt : Int)) (k : V E K M Q bc bs ws tgt lv st X) : V E K M Q bc bs ws pc lv (.int x :: st) X := by
  intro ok z hz H locs cells slots ls hP hD hS hl g1 g2
  exact lv_lookup ok.1 ok.2.1 hd hp ho ht (k ok z hz H locs cells slots ls hP hD hS hl g1 g2)
theorem lsw_d2 {x : Int} {df a b c d : Int} (h0 : x ≠ a) (h1 : x ≠ c) : Op.lookupswitch.offset [(a, b), (c, d)] df x = df := by
  simp [Op.lookupswitch.offset, h0, h1, Ne.symm h0, Ne.symm h1]
/-- a row or nothing -/
def oc {β : Type} (r : Option (Nat × (Nat → Int32))) (a : Option β) (b : Nat → (Nat → Int32) → Option β) : Option β := match r with
  | none => a
  | some p => b p.1 p.2
theorem oc_none {β : Type} {r : Option (Nat × (Nat → Int32))} {a : Option β} {b : Nat → (Nat → Int32) → Option β} (h : r = none) : oc r a b = a := by subst h; rfl
theorem oc_some {β : Type} {r : Option (Nat × (Nat → Int32))} {a : Option β} {b : Nat → (Nat → Int32) → Option β} {n : Nat} {f : Nat → Int32} (h : r = some (n, f)) : oc r a b = b n f := by subst h; rfl
end VZ
