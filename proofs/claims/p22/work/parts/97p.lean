/-! the digest, the reference's side -/
theorem rq_bit {c1 c2 : Prop} {b : Bool} {t ans : Int32} (h : RQ c1 c2 (fun v => v = if b = true then 1 else 0) t ans) (e : t = 0) : ans = 0 ∨ ans = 1 := by
  rcases h with ⟨-, q⟩ | ⟨-, -, q⟩ | ⟨-, -, -, q⟩
  · exact absurd (q.symm.trans e) one_ne
  · exact absurd (q.symm.trans e) two_ne
  · have q : ans.toInt = if b = true then 1 else 0 := q
    cases b
    · exact Or.inl (Int32.toInt_inj.mp q)
    · exact Or.inr (Int32.toInt_inj.mp q)
theorem cmp_thrownB {β : Type} {P : β → Prop} {k thrown ans : Int32} {out : Int64} {K : Unit → Option β} (h : CMP k out thrown ans.toInt64) (hb : k = 0 → ans = 0 ∨ ans = 1) (hk : Ok (K ()) P) : Ok ((fX8_thrown thrown).bind (fun z315 => if z315 = k then (jn K (fun (k316 : Unit → Option β) => if k = (0 : Int32) then (jn (fun (l383 : Int64) => if (lg_cmp out l383) = (0 : Int32) then (k316 ()) else (none)) (fun (k381 : Int64 → Option β) => if ans = (0 : Int32) then (k381 (0 : Int64)) else (k381 (1 : Int64)))) else (k316 ()))) else (none))) P := by
  have e0 : (0 : Int32).toInt64 = 0 := rfl
  have e1 : (1 : Int32).toInt64 = 1 := rfl
  refine Ok_bind (R := fun z => z = thrown) ⟨_, rfl, rfl⟩ (fun z hz => ?_)
  subst hz
  refine Ok_if (fun _ => ?_) (fun q => absurd h.1 q)
  show Ok (if k = (0 : Int32) then (if ans = (0 : Int32) then (if (lg_cmp out 0) = (0 : Int32) then (K ()) else (none)) else (if (lg_cmp out 1) = (0 : Int32) then (K ()) else (none))) else (K ())) P
  refine Ok_if (fun e => ?_) (fun _ => hk)
  have e2 := h.2 e
  refine Ok_if (fun a => Ok_if (fun _ => hk) (fun q => absurd ?_ q)) (fun a => Ok_if (fun _ => hk) (fun q => absurd ?_ q))
  · rw [e2, a, e0]
    exact lg_self2 _
  · rw [e2, (hb e).resolve_left a, e1]
    exact lg_self2 _
