/-! what the Statement gives of the start: Strings, tables of digits, nests -/
abbrev gvL : List Cond := flatC (given_1.and narrow_1)
def sq (i : Nat) : String × Nat × String := strs.getD i ("", 0, "")
def sTm (i : Nat) : Term := .string (sq i).1 (sq i).2.1
def inGv (c : Cond) : Bool := decide (c ∈ gvL)
theorem gv_in {c : Cond} (h : inGv c = true) : c ∈ gvL := of_decide_eq_true h
def gvW : List (Nat × Cond) := [(241, (Jvm.Cond.exactly (Jvm.Term.string "Brookmill" (334 : Nat)) "java/lang/String")), (0, (Jvm.Cond.eq (Jvm.Term.field (Jvm.Term.string "Brookmill" (334 : Nat)) "java/lang/String" "coder" "B") (Jvm.Term.int (0 : Int32)))), (0, (Jvm.Cond.arrayOf (Jvm.Term.field (Jvm.Term.string "Brookmill" (334 : Nat)) "java/lang/String" "value" "[B") Jvm.ClassFile.FieldType.byte)), (0, (Jvm.Cond.eq (Jvm.Term.length (Jvm.Term.field (Jvm.Term.string "Brookmill" (334 : Nat)) "java/lang/String" "value" "[B")) (Jvm.Term.int (22 : Int32)))), (146, (Jvm.Cond.exactly (Jvm.Term.string "Brookmill" (321 : Nat)) "java/lang/String")), (0, (Jvm.Cond.eq (Jvm.Term.field (Jvm.Term.string "Brookmill" (321 : Nat)) "java/lang/String" "coder" "B") (Jvm.Term.int (0 : Int32)))), (0, (Jvm.Cond.arrayOf (Jvm.Term.field (Jvm.Term.string "Brookmill" (321 : Nat)) "java/lang/String" "value" "[B") Jvm.ClassFile.FieldType.byte)), (0, (Jvm.Cond.eq (Jvm.Term.length (Jvm.Term.field (Jvm.Term.string "Brookmill" (321 : Nat)) "java/lang/String" "value" "[B")) (Jvm.Term.int (13 : Int32)))), (13, (Jvm.Cond.not (Jvm.Cond.eq (Jvm.Term.string "Brookmill" (334 : Nat)) (Jvm.Term.string "Brookmill" (321 : Nat))))), (6, (Jvm.Cond.exactly (Jvm.Term.string "Brookmill" (328 : Nat)) "java/lang/String")), (0, (Jvm.Cond.eq (Jvm.Term.field (Jvm.Term.string "Brookmill" (328 : Nat)) "java/lang/String" "coder" "B") (Jvm.Term.int (0 : Int32)))), (0, (Jvm.Cond.arrayOf (Jvm.Term.field (Jvm.Term.string "Brookmill" (328 : Nat)) "java/lang/String" "value" "[B") Jvm.ClassFile.FieldType.byte)), (0, (Jvm.Cond.eq (Jvm.Term.length (Jvm.Term.field (Jvm.Term.string "Brookmill" (328 : Nat)) "java/lang/String" "value" "[B")) (Jvm.Term.int (20 : Int32)))), (20, (Jvm.Cond.not (Jvm.Cond.eq (Jvm.Term.string "Brookmill" (334 : Nat)) (Jvm.Term.string "Brookmill" (328 : Nat))))), (6, (Jvm.Cond.not (Jvm.Cond.eq (Jvm.Term.string "Brookmill" (321 : Nat)) (Jvm.Term.string "Brookmill" (328 : Nat))))), (0, (Jvm.Cond.exactly (Jvm.Term.string "BrookmillModel" (114 : Nat)) "java/lang/String")), (0, (Jvm.Cond.eq (Jvm.Term.field (Jvm.Term.string "BrookmillModel" (114 : Nat)) "java/lang/String" "coder" "B") (Jvm.Term.int (0 : Int32)))), (0, (Jvm.Cond.arrayOf (Jvm.Term.field (Jvm.Term.string "BrookmillModel" (114 : Nat)) "java/lang/String" "value" "[B") Jvm.ClassFile.FieldType.byte)), (0, (Jvm.Cond.eq (Jvm.Term.length (Jvm.Term.field (Jvm.Term.string "BrookmillModel" (114 : Nat)) "java/lang/String" "value" "[B")) (Jvm.Term.int (0 : Int32)))), (0, (Jvm.Cond.not (Jvm.Cond.eq (Jvm.Term.string "Brookmill" (334 : Nat)) (Jvm.Term.string "BrookmillModel" (114 : Nat))))), (6, (Jvm.Cond.not (Jvm.Cond.eq (Jvm.Term.string "Brookmill" (321 : Nat)) (Jvm.Term.string "BrookmillModel" (114 : Nat))))), (0, (Jvm.Cond.not (Jvm.Cond.eq (Jvm.Term.string "Brookmill" (328 : Nat)) (Jvm.Term.string "BrookmillModel" (114 : Nat))))), (0, (Jvm.Cond.exactly (Jvm.Term.string "BrookmillModel" (112 : Nat)) "java/lang/String")), (0, (Jvm.Cond.eq (Jvm.Term.field (Jvm.Term.string "BrookmillModel" (112 : Nat)) "java/lang/String" "coder" "B") (Jvm.Term.int (0 : Int32)))), (0, (Jvm.Cond.arrayOf (Jvm.Term.field (Jvm.Term.string "BrookmillModel" (112 : Nat)) "java/lang/String" "value" "[B") Jvm.ClassFile.FieldType.byte)), (0, (Jvm.Cond.eq (Jvm.Term.length (Jvm.Term.field (Jvm.Term.string "BrookmillModel" (112 : Nat)) "java/lang/String" "value" "[B")) (Jvm.Term.int (1 : Int32)))), (1, (Jvm.Cond.not (Jvm.Cond.eq (Jvm.Term.string "Brookmill" (334 : Nat)) (Jvm.Term.string "BrookmillModel" (112 : Nat))))), (6, (Jvm.Cond.not (Jvm.Cond.eq (Jvm.Term.string "Brookmill" (321 : Nat)) (Jvm.Term.string "BrookmillModel" (112 : Nat))))), (0, (Jvm.Cond.not (Jvm.Cond.eq (Jvm.Term.string "Brookmill" (328 : Nat)) (Jvm.Term.string "BrookmillModel" (112 : Nat))))), (0, (Jvm.Cond.not (Jvm.Cond.eq (Jvm.Term.string "BrookmillModel" (114 : Nat)) (Jvm.Term.string "BrookmillModel" (112 : Nat))))), (0, (Jvm.Cond.exactly (Jvm.Term.string "BrookmillModel" (123 : Nat)) "java/lang/String")), (0, (Jvm.Cond.eq (Jvm.Term.field (Jvm.Term.string "BrookmillModel" (123 : Nat)) "java/lang/String" "coder" "B") (Jvm.Term.int (0 : Int32)))), (0, (Jvm.Cond.arrayOf (Jvm.Term.field (Jvm.Term.string "BrookmillModel" (123 : Nat)) "java/lang/String" "value" "[B") Jvm.ClassFile.FieldType.byte)), (0, (Jvm.Cond.eq (Jvm.Term.length (Jvm.Term.field (Jvm.Term.string "BrookmillModel" (123 : Nat)) "java/lang/String" "value" "[B")) (Jvm.Term.int (1 : Int32)))), (1, (Jvm.Cond.not (Jvm.Cond.eq (Jvm.Term.string "Brookmill" (334 : Nat)) (Jvm.Term.string "BrookmillModel" (123 : Nat))))), (6, (Jvm.Cond.not (Jvm.Cond.eq (Jvm.Term.string "Brookmill" (321 : Nat)) (Jvm.Term.string "BrookmillModel" (123 : Nat))))), (0, (Jvm.Cond.not (Jvm.Cond.eq (Jvm.Term.string "Brookmill" (328 : Nat)) (Jvm.Term.string "BrookmillModel" (123 : Nat))))), (0, (Jvm.Cond.not (Jvm.Cond.eq (Jvm.Term.string "BrookmillModel" (114 : Nat)) (Jvm.Term.string "BrookmillModel" (123 : Nat))))), (0, (Jvm.Cond.not (Jvm.Cond.eq (Jvm.Term.string "BrookmillModel" (112 : Nat)) (Jvm.Term.string "BrookmillModel" (123 : Nat))))), (0, (Jvm.Cond.exactly (Jvm.Term.string "BrookmillModel" (107 : Nat)) "java/lang/String")), (0, (Jvm.Cond.eq (Jvm.Term.field (Jvm.Term.string "BrookmillModel" (107 : Nat)) "java/lang/String" "coder" "B") (Jvm.Term.int (0 : Int32)))), (0, (Jvm.Cond.arrayOf (Jvm.Term.field (Jvm.Term.string "BrookmillModel" (107 : Nat)) "java/lang/String" "value" "[B") Jvm.ClassFile.FieldType.byte)), (0, (Jvm.Cond.eq (Jvm.Term.length (Jvm.Term.field (Jvm.Term.string "BrookmillModel" (107 : Nat)) "java/lang/String" "value" "[B")) (Jvm.Term.int (1 : Int32)))), (1, (Jvm.Cond.not (Jvm.Cond.eq (Jvm.Term.string "Brookmill" (334 : Nat)) (Jvm.Term.string "BrookmillModel" (107 : Nat))))), (6, (Jvm.Cond.not (Jvm.Cond.eq (Jvm.Term.string "Brookmill" (321 : Nat)) (Jvm.Term.string "BrookmillModel" (107 : Nat))))), (0, (Jvm.Cond.not (Jvm.Cond.eq (Jvm.Term.string "Brookmill" (328 : Nat)) (Jvm.Term.string "BrookmillModel" (107 : Nat))))), (0, (Jvm.Cond.not (Jvm.Cond.eq (Jvm.Term.string "BrookmillModel" (114 : Nat)) (Jvm.Term.string "BrookmillModel" (107 : Nat))))), (0, (Jvm.Cond.not (Jvm.Cond.eq (Jvm.Term.string "BrookmillModel" (112 : Nat)) (Jvm.Term.string "BrookmillModel" (107 : Nat))))), (0, (Jvm.Cond.not (Jvm.Cond.eq (Jvm.Term.string "BrookmillModel" (123 : Nat)) (Jvm.Term.string "BrookmillModel" (107 : Nat)))))]
theorem gvA : ∀ q ∈ gvW, q.2 ∈ gvL := twP_all (by decide +kernel)
theorem gs_ex (i : Nat) (hi : i < 7) : Cond.exactly (sTm i) "java/lang/String" ∈ gvL := match i, hi with
  | 0, _ => twX gvA 0 rfl
  | 1, _ => twX gvA 4 rfl
  | 2, _ => twX gvA 9 rfl
  | 3, _ => twX gvA 15 rfl
  | 4, _ => twX gvA 22 rfl
  | 5, _ => twX gvA 30 rfl
  | 6, _ => twX gvA 39 rfl
  | _ + 7, h => absurd h (by omega)
theorem gs_co (i : Nat) (hi : i < 7) : Cond.eq (.field (sTm i) "java/lang/String" "coder" "B") (.int 0) ∈ gvL := match i, hi with
  | 0, _ => twX gvA 1 rfl
  | 1, _ => twX gvA 5 rfl
  | 2, _ => twX gvA 10 rfl
  | 3, _ => twX gvA 16 rfl
  | 4, _ => twX gvA 23 rfl
  | 5, _ => twX gvA 31 rfl
  | 6, _ => twX gvA 40 rfl
  | _ + 7, h => absurd h (by omega)
theorem gs_ar (i : Nat) (hi : i < 7) : Cond.arrayOf (.field (sTm i) "java/lang/String" "value" "[B") .byte ∈ gvL := match i, hi with
  | 0, _ => twX gvA 2 rfl
  | 1, _ => twX gvA 6 rfl
  | 2, _ => twX gvA 11 rfl
  | 3, _ => twX gvA 17 rfl
  | 4, _ => twX gvA 24 rfl
  | 5, _ => twX gvA 32 rfl
  | 6, _ => twX gvA 41 rfl
  | _ + 7, h => absurd h (by omega)
theorem gs_le (i : Nat) (hi : i < 7) : Cond.eq (.length (.field (sTm i) "java/lang/String" "value" "[B")) (.int (Int32.ofNat (strL.getD i 0))) ∈ gvL := match i, hi with
  | 0, _ => twX gvA 3 rfl
  | 1, _ => twX gvA 7 rfl
  | 2, _ => twX gvA 12 rfl
  | 3, _ => twX gvA 18 rfl
  | 4, _ => twX gvA 25 rfl
  | 5, _ => twX gvA 33 rfl
  | 6, _ => twX gvA 42 rfl
  | _ + 7, h => absurd h (by omega)
theorem gs_ne0 (j : Nat) (hj : j < 7) (h : 0 ≠ j) : Cond.not (Cond.eq (sTm 0) (sTm j)) ∈ gvL ∨ Cond.not (Cond.eq (sTm j) (sTm 0)) ∈ gvL := match j, hj, h with
  | 0, _, h => absurd rfl h
  | 1, _, _ => Or.inl (twX gvA 8 rfl)
  | 2, _, _ => Or.inl (twX gvA 13 rfl)
  | 3, _, _ => Or.inl (twX gvA 19 rfl)
  | 4, _, _ => Or.inl (twX gvA 26 rfl)
  | 5, _, _ => Or.inl (twX gvA 34 rfl)
  | 6, _, _ => Or.inl (twX gvA 43 rfl)
  | _ + 7, h, _ => absurd h (by omega)
theorem gs_ne1 (j : Nat) (hj : j < 7) (h : 1 ≠ j) : Cond.not (Cond.eq (sTm 1) (sTm j)) ∈ gvL ∨ Cond.not (Cond.eq (sTm j) (sTm 1)) ∈ gvL := match j, hj, h with
  | 0, _, _ => Or.inr (twX gvA 8 rfl)
  | 1, _, h => absurd rfl h
  | 2, _, _ => Or.inl (twX gvA 14 rfl)
  | 3, _, _ => Or.inl (twX gvA 20 rfl)
  | 4, _, _ => Or.inl (twX gvA 27 rfl)
  | 5, _, _ => Or.inl (twX gvA 35 rfl)
  | 6, _, _ => Or.inl (twX gvA 44 rfl)
  | _ + 7, h, _ => absurd h (by omega)
theorem gs_ne2 (j : Nat) (hj : j < 7) (h : 2 ≠ j) : Cond.not (Cond.eq (sTm 2) (sTm j)) ∈ gvL ∨ Cond.not (Cond.eq (sTm j) (sTm 2)) ∈ gvL := match j, hj, h with
  | 0, _, _ => Or.inr (twX gvA 13 rfl)
  | 1, _, _ => Or.inr (twX gvA 14 rfl)
  | 2, _, h => absurd rfl h
  | 3, _, _ => Or.inl (twX gvA 21 rfl)
  | 4, _, _ => Or.inl (twX gvA 28 rfl)
  | 5, _, _ => Or.inl (twX gvA 36 rfl)
  | 6, _, _ => Or.inl (twX gvA 45 rfl)
  | _ + 7, h, _ => absurd h (by omega)
theorem gs_ne3 (j : Nat) (hj : j < 7) (h : 3 ≠ j) : Cond.not (Cond.eq (sTm 3) (sTm j)) ∈ gvL ∨ Cond.not (Cond.eq (sTm j) (sTm 3)) ∈ gvL := match j, hj, h with
  | 0, _, _ => Or.inr (twX gvA 19 rfl)
  | 1, _, _ => Or.inr (twX gvA 20 rfl)
  | 2, _, _ => Or.inr (twX gvA 21 rfl)
  | 3, _, h => absurd rfl h
  | 4, _, _ => Or.inl (twX gvA 29 rfl)
  | 5, _, _ => Or.inl (twX gvA 37 rfl)
  | 6, _, _ => Or.inl (twX gvA 46 rfl)
  | _ + 7, h, _ => absurd h (by omega)
theorem gs_ne4 (j : Nat) (hj : j < 7) (h : 4 ≠ j) : Cond.not (Cond.eq (sTm 4) (sTm j)) ∈ gvL ∨ Cond.not (Cond.eq (sTm j) (sTm 4)) ∈ gvL := match j, hj, h with
  | 0, _, _ => Or.inr (twX gvA 26 rfl)
  | 1, _, _ => Or.inr (twX gvA 27 rfl)
  | 2, _, _ => Or.inr (twX gvA 28 rfl)
  | 3, _, _ => Or.inr (twX gvA 29 rfl)
  | 4, _, h => absurd rfl h
  | 5, _, _ => Or.inl (twX gvA 38 rfl)
  | 6, _, _ => Or.inl (twX gvA 47 rfl)
  | _ + 7, h, _ => absurd h (by omega)
theorem gs_ne5 (j : Nat) (hj : j < 7) (h : 5 ≠ j) : Cond.not (Cond.eq (sTm 5) (sTm j)) ∈ gvL ∨ Cond.not (Cond.eq (sTm j) (sTm 5)) ∈ gvL := match j, hj, h with
  | 0, _, _ => Or.inr (twX gvA 34 rfl)
  | 1, _, _ => Or.inr (twX gvA 35 rfl)
  | 2, _, _ => Or.inr (twX gvA 36 rfl)
  | 3, _, _ => Or.inr (twX gvA 37 rfl)
  | 4, _, _ => Or.inr (twX gvA 38 rfl)
  | 5, _, h => absurd rfl h
  | 6, _, _ => Or.inl (twX gvA 48 rfl)
  | _ + 7, h, _ => absurd h (by omega)
theorem gs_ne6 (j : Nat) (hj : j < 7) (h : 6 ≠ j) : Cond.not (Cond.eq (sTm 6) (sTm j)) ∈ gvL ∨ Cond.not (Cond.eq (sTm j) (sTm 6)) ∈ gvL := match j, hj, h with
  | 0, _, _ => Or.inr (twX gvA 43 rfl)
  | 1, _, _ => Or.inr (twX gvA 44 rfl)
  | 2, _, _ => Or.inr (twX gvA 45 rfl)
  | 3, _, _ => Or.inr (twX gvA 46 rfl)
  | 4, _, _ => Or.inr (twX gvA 47 rfl)
  | 5, _, _ => Or.inr (twX gvA 48 rfl)
  | 6, _, h => absurd rfl h
  | _ + 7, h, _ => absurd h (by omega)
theorem gs_ne (i : Nat) (hi : i < 7) (j : Nat) (hj : j < 7) (h : i ≠ j) : Cond.not (Cond.eq (sTm i) (sTm j)) ∈ gvL ∨ Cond.not (Cond.eq (sTm j) (sTm i)) ∈ gvL := match i, hi, h with
  | 0, _, h => gs_ne0 j hj h
  | 1, _, h => gs_ne1 j hj h
  | 2, _, h => gs_ne2 j hj h
  | 3, _, h => gs_ne3 j hj h
  | 4, _, h => gs_ne4 j hj h
  | 5, _, h => gs_ne5 j hj h
  | 6, _, h => gs_ne6 j hj h
  | _ + 7, h, _ => absurd h (by omega)
def selS (o : String) (k : Nat) : Cond → Option (Int32 × Int32)
  | .eq (.elem (.field (.string o' k') c n d) (.int j)) (.int v) => if (o' = o ∧ k' = k) ∧ (c = "java/lang/String" ∧ n = "value" ∧ d = "[B") then some (j, v) else none
  | _ => none
theorem selS_inv {o : String} {k : Nat} {c : Cond} {j v : Int32} (h : selS o k c = some (j, v)) : c = .eq (.elem (.field (.string o k) "java/lang/String" "value" "[B") (.int j)) (.int v) := by
  unfold selS at h
  split at h
  · split at h
    · rename_i g
      obtain ⟨⟨rfl, rfl⟩, rfl, rfl, rfl⟩ := g
      cases h
      rfl
    · cases h
  · cases h
theorem gs_els : ∀ i : Nat, i < 7 → gvL.filterMap (selS (sq i).1 (sq i).2.1) = (List.range (strL.getD i 0)).map (fun j => (Int32.ofNat j, (strB.getD i []).getD j 0)) := by decide +kernel
theorem gs_el (i : Nat) (hi : i < 7) (j : Nat) (hj : j < strL.getD i 0) : Cond.eq (.elem (.field (sTm i) "java/lang/String" "value" "[B") (.int (Int32.ofNat j))) (.int ((strB.getD i []).getD j 0)) ∈ gvL := by
  have h : (Int32.ofNat j, (strB.getD i []).getD j 0) ∈ gvL.filterMap (selS (sq i).1 (sq i).2.1) := by
    rw [gs_els i hi]
    exact List.mem_map.mpr ⟨j, List.mem_range.mpr hj, rfl⟩
  obtain ⟨c, hc, e⟩ := List.mem_filterMap.mp h
  rw [selS_inv e] at hc
  exact hc
def selD (m : String) : Cond → Option (Int32 × Int32)
  | .eq (.elem (.static c n d) (.int j)) (.int v) => if c = "java/lang/Integer" ∧ n = m ∧ d = "[B" then some (j, v) else none
  | _ => none
theorem selD_inv {m : String} {c : Cond} {j v : Int32} (h : selD m c = some (j, v)) : c = .eq (.elem (.static "java/lang/Integer" m "[B") (.int j)) (.int v) := by
  unfold selD at h
  split at h
  · split at h
    · rename_i g
      obtain ⟨rfl, rfl, rfl⟩ := g
      cases h
      rfl
    · cases h
  · cases h
theorem gd_onesL : gvL.filterMap (selD "DigitOnes") = (List.range 100).map (fun j => (Int32.ofNat j, nI (48 + j % 10))) := by decide +kernel
theorem gd_tensL : gvL.filterMap (selD "DigitTens") = (List.range 100).map (fun j => (Int32.ofNat j, nI (48 + j / 10))) := by decide +kernel
theorem gs_rf : ∀ i : Nat, i < 7 → decide (Cond.stringRef (sq i).1 (sq i).2.1 (sq i).2.2 ∈ lw_tbl) = true := by decide +kernel
theorem gd_ones (j : Nat) (hj : j < 100) : Cond.eq (.elem (.static "java/lang/Integer" "DigitOnes" "[B") (.int (Int32.ofNat j))) (.int (nI (48 + j % 10))) ∈ gvL := by
  have h : (Int32.ofNat j, nI (48 + j % 10)) ∈ gvL.filterMap (selD "DigitOnes") := by
    rw [gd_onesL]
    exact List.mem_map.mpr ⟨j, List.mem_range.mpr hj, rfl⟩
  obtain ⟨c, hc, e⟩ := List.mem_filterMap.mp h
  rw [selD_inv e] at hc
  exact hc
theorem gd_tens (j : Nat) (hj : j < 100) : Cond.eq (.elem (.static "java/lang/Integer" "DigitTens" "[B") (.int (Int32.ofNat j))) (.int (nI (48 + j / 10))) ∈ gvL := by
  have h : (Int32.ofNat j, nI (48 + j / 10)) ∈ gvL.filterMap (selD "DigitTens") := by
    rw [gd_tensL]
    exact List.mem_map.mpr ⟨j, List.mem_range.mpr hj, rfl⟩
  obtain ⟨c, hc, e⟩ := List.mem_filterMap.mp h
  rw [selD_inv e] at hc
  exact hc
theorem gn_f : ∀ q ∈ nestF, Cond.fieldLinkNest q.1 q.2.1 q.2.2.1 q.2.2.2.1 q.2.2.2.2.1 q.2.2.2.2.2 ∈ lw_tbl := by decide +kernel
theorem gn_m : ∀ q ∈ nestM, Cond.methodLinkNest q.1 q.2.1 q.2.2.1 q.2.2.2 ∈ lw_tbl := by decide +kernel
theorem gn_c : ∀ q ∈ nestC, Cond.castable q.1 q.2 ∈ lw_tbl := by decide +kernel
theorem gn_d : ∀ q ∈ nestD, Cond.declares q ∈ lw_tbl := by decide +kernel
theorem start_GR {s : State} {b : Nat} (hts : ∀ w ∈ lw_tbl, w.before #[Value.ref b] s = true) (hgv : (Jvm.Cond.and given_1 narrow_1).before #[Value.ref b] s = true) (dK : va_G) (cI cB : ClassId) : ∃ (adK adV : Nat → Nat) (tO tT : Nat), GR (dK, cI, cB, adK, adV, tO, tT) (fun q => s.heap.size ≤ q) s s.heap := by
  have hq := flat_of_before _ hgv
  have hA : ∀ a : Nat, a < s.heap.size → ¬ (fun q : Nat => s.heap.size ≤ q) a := fun a h => Nat.not_le.mpr h
  obtain ⟨adK, adV, hS, hE⟩ := vk_Sof (args := #[Value.ref b]) (s := s) (N := 7) (tm := sTm) (len := strL) (byt := strB) (A := fun q => s.heap.size ≤ q) (by decide) (fun i hi => hq _ (gs_ex i hi)) (fun i hi => hq _ (gs_co i hi)) (fun i hi => hq _ (gs_ar i hi)) (fun i hi => hq _ (gs_le i hi)) (fun i hi j hj => hq _ (gs_el i hi j hj)) (fun i j hi hj hij => by
    rcases gs_ne i hi j hj hij with h | h
    · exact Or.inl (hq _ h)
    · exact Or.inr (hq _ h)) hA
  obtain ⟨tO, hO1, hO2⟩ := va_Tof (args := #[Value.ref b]) (s := s) (tm := .static "java/lang/Integer" "DigitOnes" "[B") (ty := .byte) (N := 100) (f := fun k => .int (nI (48 + k % 10))) (A := fun q => s.heap.size ≤ q) (by decide) (hq (.arrayOf (.static "java/lang/Integer" "DigitOnes" "[B") .byte) (gv_in (by decide +kernel))) (va_eqt (hq (.eq (.length (.static "java/lang/Integer" "DigitOnes" "[B")) (.int 100)) (gv_in (by decide +kernel)))) (fun j hj => va_eqt (hq _ (gd_ones j hj))) hA
  obtain ⟨tT, hT1, hT2⟩ := va_Tof (args := #[Value.ref b]) (s := s) (tm := .static "java/lang/Integer" "DigitTens" "[B") (ty := .byte) (N := 100) (f := fun k => .int (nI (48 + k / 10))) (A := fun q => s.heap.size ≤ q) (by decide) (hq (.arrayOf (.static "java/lang/Integer" "DigitTens" "[B") .byte) (gv_in (by decide +kernel))) (va_eqt (hq (.eq (.length (.static "java/lang/Integer" "DigitTens" "[B")) (.int 100)) (gv_in (by decide +kernel)))) (fun j hj => va_eqt (hq _ (gd_tens j hj))) hA
  refine ⟨adK, adV, tO, tT, fun q h => va_Nw.of rfl (hts _ (gn_f q h)), fun q h => va_Nw.of rfl (hts _ (gn_m q h)), hS, ?_, ?_, ?_, hO2, ?_, hT2, ?_, ?_, fun q h => va_Nw.of rfl (hts _ (gn_c q h)), fun q h => va_Nw.of rfl (hts _ (gn_d q h)), ?_⟩
  · intro i q h
    have hi : i < 7 := (List.getElem?_eq_some_iff.mp h).1
    have e : sq i = q := by simp [sq, List.getD, h]
    have h1 := gs_rf i hi
    rw [e] at h1
    have h2 := hE i hi
    unfold sTm at h2
    rw [e] at h2
    exact vk_R.of (hts _ (of_decide_eq_true h1)) h2
  · exact va_Zof (hts (.laysStatic "java/lang/String" "COMPACT_STRINGS" "Z") (by decide +kernel)) (hts (.initialized "java/lang/String") (by decide +kernel)) (va_eqt (hq (.eq (.static "java/lang/String" "COMPACT_STRINGS" "Z") (.int 1)) (gv_in (by decide +kernel)))) hA
  · exact va_Zof (hts (.laysStatic "java/lang/Integer" "DigitOnes" "[B") (by decide +kernel)) (hts (.initialized "java/lang/Integer") (by decide +kernel)) hO1 hA
  · exact va_Zof (hts (.laysStatic "java/lang/Integer" "DigitTens" "[B") (by decide +kernel)) (hts (.initialized "java/lang/Integer") (by decide +kernel)) hT1 hA
  · exact vx_Zqof (hts (.laysStatic Bundle.tN "UNASSIGNED_STACK" Bundle.steD) (by decide +kernel)) (hts (.initialized Bundle.tN) (by decide +kernel)) (hq (.isRef (.static Bundle.tN "UNASSIGNED_STACK" Bundle.steD)) (gv_in (by decide +kernel))) hA
  · exact vx_Zqof (hts (.laysStatic Bundle.tN "SUPPRESSED_SENTINEL" Bundle.listD) (by decide +kernel)) (hts (.initialized Bundle.tN) (by decide +kernel)) (hq (.isRef (.static Bundle.tN "SUPPRESSED_SENTINEL" Bundle.listD)) (gv_in (by decide +kernel))) hA
  · exact va_Nc.of (hq (.not (.castable "java/lang/IllegalArgumentException" "java/lang/IndexOutOfBoundsException")) (gv_in (by decide +kernel)))
