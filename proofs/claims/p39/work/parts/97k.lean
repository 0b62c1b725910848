/-! what the law compares -/
theorem CQ.cmp2 {c1 c2 : Prop} {A : Int → Prop} {k t ans : Int32} {out : Int64} (hu : only1 A) (h1 : CQ c1 c2 A k out) (h2 : RQ c1 c2 A t ans) : CMP k out t ans.toInt64 ∧ True := ⟨h1.cmp (fun _ _ => hu) h2, trivial⟩
theorem sim_house {c1 c2 : Prop} {a b c a' b' c' i2 k t ans : Int32} {out : Int64} (h1 : CQ c1 c2 (fun v => v = A_house a b c i2) k out) (h2 : RQ c1 c2 (fun v => v = A_house a' b' c' i2) t ans) (e1 : a = a') (e2 : b = b') (e3 : c = c') : CMP k out t ans.toInt64 ∧ True := by
  subst e1
  subst e2
  subst e3
  exact h1.cmp2 (only1_eq _) h2
