/-! between, would, about, apart -/
/-! about: all ways turned round, the ends exchanged -/
theorem cap_flat {n : Nat} {R : Nat → Int32} {v : Int32} : cap n R v = sumN n (fun a => sumN n (fun b => if has v a = true ∧ ¬ has v b = true then G R a b else 0)) := by
  refine sumN_eq n (fun a ha => ?_)
  unfold capf
  by_cases w : has v a = true
  · rw [if_pos w]
    refine sumN_eq n (fun b hb => ?_)
    show (if has v b = true then 0 else G R a b) = _
    by_cases u : has v b = true
    · rw [if_pos u, if_neg (fun c => c.2 u)]
    · rw [if_neg u, if_pos ⟨w, u⟩]
  · rw [if_neg w, sumN_eq n (fun b _ => if_neg (fun c => w c.1)), sumN_zero]
theorem cut_ex {n s g : Nat} (hn : n ≤ 9) (hs : s < n) (hg : g < n) (hsg : s ≠ g) : ∃ k, k < 2 ^ n ∧ ctb s g (Int32.ofNat k) = true := by
  obtain ⟨k, k1, k2⟩ := mask hn (fun x => x = s)
  refine ⟨k, k1, ctb_iff.mpr ⟨(k2 s hs).mpr rfl, ?_⟩⟩
  cases q : has (Int32.ofNat k) g
  · rfl
  · exact absurd ((k2 g hg).mp q).symm hsg
theorem least_at {n s g : Nat} {R : Nat → Int32} (hn : n ≤ 9) (hs : s < n) (hg : g < n) (hsg : s ≠ g) (hsm : sm R) : ∃ k, k < 2 ^ n ∧ ctb s g (Int32.ofNat k) = true ∧ cap n R (Int32.ofNat k) = least n s g R := by
  have go : ∀ N, lsN n s g R N = 2147483647 ∨ ∃ k, k < N ∧ ctb s g (Int32.ofNat k) = true ∧ cap n R (Int32.ofNat k) = lsN n s g R N := by
    intro N
    induction N with
    | zero => exact Or.inl rfl
    | succ N ih =>
      rw [lsN_s]
      by_cases c : ctb s g (Int32.ofNat N) = true
      · rw [if_pos c]
        by_cases d : cap n R (Int32.ofNat N) < lsN n s g R N
        · rw [if_pos d]
          exact Or.inr ⟨N, by omega, c, rfl⟩
        · rw [if_neg d]
          rcases ih with ih | ⟨k, k1, k2, k3⟩
          · exact Or.inl ih
          · exact Or.inr ⟨k, by omega, k2, k3⟩
      · rw [if_neg c]
        rcases ih with ih | ⟨k, k1, k2, k3⟩
        · exact Or.inl ih
        · exact Or.inr ⟨k, by omega, k2, k3⟩
  rcases go (2 ^ n) with h | h
  · obtain ⟨k, k1, k2⟩ := cut_ex hn hs hg hsg
    have a := lsN_le (n := n) (s := s) (g := g) (R := R) (2 ^ n) k k1 k2
    have b := capk_b hsm hn (v := Int32.ofNat k) n hn
    have c : cap n R (Int32.ofNat k) = sumN n (capf n R (Int32.ofNat k)) := rfl
    omega
  · exact h
/-! apart: every room above 0 made 1 -/