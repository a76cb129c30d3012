theorem lea_y {I : zFI} {n ln : Nat} (h : iLea I n ln) : ∀ k, k < ln → 0 ≤ I 79 k ∧ I 79 k ≤ 999 ∧ -99 ≤ I 80 k ∧ I 80 k ≤ 99 := fun k hk => by
  obtain ⟨b1, b2, b3, b4, b5, b6, b7, b8, b9, b10, b11, b12⟩ := h.2.2.2 k hk
  exact ⟨b7, b8, b9, b10⟩
/-- what findRate and common see -/
theorem lea_r {I : zFI} {n ln : Nat} {t d : Int32} (hl : iLea I n ln) (h : zcnt (zgd I t d ln) ln ≠ 0) : ∃ f l : Nat, zlf I (zgd I t d ln) ln = f ∧ zll I (zgd I t d ln) ln = l ∧ f < ln ∧ l < ln ∧
    (I 80 l - I 80 f).toInt = (I 80 l).toInt - (I 80 f).toInt ∧ (I 79 l - I 79 f).toInt = (I 79 l).toInt - (I 79 f).toInt ∧ -198 ≤ (I 80 l - I 80 f).toInt ∧ (I 80 l - I 80 f).toInt ≤ 198 ∧ 0 ≤ (I 79 l - I 79 f).toInt ∧ (I 79 l - I 79 f).toInt ≤ 999 ∧
    (2 ≤ zcnt (zgd I t d ln) ln → 0 < (I 79 l - I 79 f).toInt) ∧ 0 ≤ (I 79 f).toInt ∧ (I 79 l).toInt ≤ 999 ∧ -99 ≤ (I 80 f).toInt ∧ (I 80 f).toInt ≤ 99 ∧ -99 ≤ (I 80 l).toInt ∧ (I 80 l).toInt ≤ 99 := by
  obtain ⟨a1, a2, a3, a4, a5, a6⟩ := zfl_inv (I := I) (t := t) (d := d) (ln := ln) ln (Nat.le_refl _) h
  obtain ⟨f1, f2, f3, f4⟩ := lea_y hl _ a1
  obtain ⟨l1, l2, l3, l4⟩ := lea_y hl _ a2
  refine ⟨_, _, rfl, rfl, a1, a2, ?_⟩
  have a5 := zle.mp a5
  have a7 : 2 ≤ zcnt (zgd I t d ln) ln → (I 79 (zlf I (zgd I t d ln) ln)).toInt < (I 79 (zll I (zgd I t d ln) ln)).toInt := fun q => zlt.mp (a6 q)
  generalize zlf I (zgd I t d ln) ln = f at *
  generalize zll I (zgd I t d ln) ln = l at *
  have f1 := zle.mp f1
  have f2 := zle.mp f2
  have f3 := zle.mp f3
  have f4 := zle.mp f4
  have l1 := zle.mp l1
  have l2 := zle.mp l2
  have l3 := zle.mp l3
  have l4 := zle.mp l4
  rw [show (0 : Int32).toInt = 0 from rfl] at f1 l1
  rw [show (999 : Int32).toInt = 999 from rfl] at f2 l2
  rw [show (-99 : Int32).toInt = -99 from rfl] at f3 l3
  rw [show (99 : Int32).toInt = 99 from rfl] at f4 l4
  have ea : (I 80 l - I 80 f).toInt = (I 80 l).toInt - (I 80 f).toInt := zsub (by omega) (by omega)
  have eb : (I 79 l - I 79 f).toInt = (I 79 l).toInt - (I 79 f).toInt := zsub (by omega) (by omega)
  exact ⟨ea, eb, by omega, by omega, by omega, by omega, fun q => by have := a7 q; omega, by omega, by omega, by omega, by omega, by omega, by omega⟩
