/-! THE ASKS, sharply. c1, c2: what must hold, or the first or second exception comes; A: what the answer is -/
/-! told -/
/-! house -/
/-! pair -/
/-! value -/
theorem cvalueNow_iv {n s g : Nat} {R F Fc : Nat → Int32} {i10 i11 : Int32} (hI : FI n s g R F) (hF : same Fc F) (h10 : i10.toInt = n) (h11 : i11.toInt = s) : Ok (fX6_value i10 i11 Fc) (fun z => z.toInt = outF n F s) := by
  have n9 := hI.1
  have se := hI.2.1
  have hIc : FI n s g R Fc := hI.ofsame (same_refl R) hF
  unfold fX6_value
  exact Ok_bind (cvalue_iv h10 h11 n9.2 (by omega) hIc.smF) (fun z hz => Ok_some (by rw [hz]; exact outF_same hF n9.2 se.1))
theorem value_iv {n s g : Nat} {R F : Nat → Int32} {i2 i5 : Int32} (hI : FI n s g R F) (h2 : i2.toInt = n) (h5 : i5.toInt = s) : Ok (fX8_value i2 i5 F) (fun z => z.toInt = outF n F s) := by
  unfold fX8_value
  exact Ok_bind (hI.valueNow h2 h5 hI.2.1.1) (fun z hz => Ok_some hz)
theorem cmp_of_iv {a b : Int32} {x : Int} (h1 : a.toInt = x) (h2 : b.toInt = x) : a = b ∧ True := ⟨Int32.toInt_inj.mp (h1.trans h2.symm), trivial⟩
