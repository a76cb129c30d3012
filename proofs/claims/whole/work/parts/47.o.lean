/-- of the leans: o is told of t, on or before d, of the year of k -/
def zto (I : zFI) (t d : Int32) (k o : Nat) : Bool := decide (k < o) && decide (I 78 o = t) && decide (I 79 o = I 79 k) && decide (I 81 o ≤ d)
def zta (I : zFI) (t d : Int32) (ln k : Nat) : Bool := (List.range ln).any (zto I t d k)
theorem zta_iff {I : zFI} {t d : Int32} {ln k : Nat} : zta I t d ln k = true ↔ ∃ o, o < ln ∧ zto I t d k o = true := by
  unfold zta
  rw [List.any_eq_true]
  constructor
  · rintro ⟨o, h1, h2⟩
    exact ⟨o, List.mem_range.mp h1, h2⟩
  · rintro ⟨o, h1, h2⟩
    exact ⟨o, List.mem_range.mpr h1, h2⟩
theorem zto_iff {I : zFI} {t d : Int32} {k o : Nat} : zto I t d k o = true ↔ k < o ∧ I 78 o = t ∧ I 79 o = I 79 k ∧ I 81 o ≤ d := by
  unfold zto
  simp only [Bool.and_eq_true, decide_eq_true_iff, and_assoc]
/-- k is the standing lean of its year -/
def zgd (I : zFI) (t d : Int32) (ln k : Nat) : Bool := decide (I 78 k = t) && decide (I 81 k ≤ d) && !zta I t d ln k
theorem zgd_iff {I : zFI} {t d : Int32} {ln k : Nat} : zgd I t d ln k = true ↔ I 78 k = t ∧ I 81 k ≤ d ∧ zta I t d ln k = false := by
  unfold zgd
  simp only [Bool.and_eq_true, decide_eq_true_iff, and_assoc, Bool.not_eq_true']
/-- Leans.isToldAnew -/
theorem c_toldAnew {G : Gp} {Q : zPost} {S : zSh} {I : zFI} {L : zFL} {t d : Int32} {i ln : Nat} (hS : zStd S) (hl : I 77 0 = nI ln) (hln : ln ≤ 60) (hi : i < ln) (ht : I 78 i = t) (h : Q (some (.int (if zta I t d ln i = true then 1 else 0))) S I L) : ZC G mX5_isToldAnew fX5_isToldAnew lX5_isToldAnew [zo G 77, .int (nI i), .int d] S I L 0 0 Q := by
  have hic : (nI i).toNatClampNeg = i := znIc (by omega)
  have key : ∀ k m : Nat, m + k = ln → i < m → (∀ o, o < m → ¬ zto I t d i o = true) → ZW G mX5_isToldAnew fX5_isToldAnew lX5_isToldAnew 4 [zo G 77, .int (nI i), .int d, .int (nI m)] [] S I L 0 0 Q := by
    intro k
    induction k with
    | zero =>
      intro m hm him h1
      have : m = ln := by omega
      subst this
      rw [if_neg (by rw [zta_iff]; rintro ⟨o, o1, o2⟩; exact h1 o o1 o2)] at h
      refine vX5_isToldAnew_4 hS ⟨fun _ => h, fun hc => ?_⟩
      rw [hl] at hc
      exact absurd (Int32.le_refl _) hc
    | succ k ih =>
      intro m hm him h1
      have hcl : (nI m).toNatClampNeg = m := znIc (by omega)
      have go : ¬ zto I t d i m = true → ZW G mX5_isToldAnew fX5_isToldAnew lX5_isToldAnew 4 [zo G 77, .int (nI i), .int d, .int (nI m + 1)] [] S I L 0 0 Q := fun hq => by
        rw [nI_1]
        refine ih (m + 1) (by omega) (by omega) (fun o ho => ?_)
        rcases (by omega : o < m ∨ o = m) with w | rfl
        · exact h1 o w
        · exact hq
      refine vX5_isToldAnew_4 hS ⟨fun hc => ?_, fun _ => ⟨fun hc => absurd hc (show ¬ (60 : Int32) ≤ nI m from nI_ge (b := 60) (by omega) (by omega)), fun _ => ⟨znIin (by omega) (by decide), znIin (by omega) (by decide), fun hc => ?_, fun hc => ⟨fun hd => ?_, fun hd => ⟨fun he => ?_, fun he => ?_⟩⟩⟩⟩⟩
      · rw [hl] at hc
        exact absurd hc (nI_ge (by omega) (by omega))
      · rw [hcl, hic, ht] at hc
        exact go (fun q => hc (zto_iff.mp q).2.1)
      · rw [hcl, hic] at hd
        exact go (fun q => hd (zto_iff.mp q).2.2.1)
      · rw [hcl] at he
        exact go (fun q => Int32.not_le.mpr he (zto_iff.mp q).2.2.2)
      · rw [hcl, hic] at hc hd
        rw [hcl] at he
        rw [if_pos (by rw [zta_iff]; exact ⟨m, by omega, zto_iff.mpr ⟨him, by rw [hc, ht], hd, Int32.not_lt.mp he⟩⟩)] at h
        exact h
  refine ZC.of' (vX5_isToldAnew_0 hS ?_) rfl (Nat.le_of_ble_eq_true rfl) rfl
  rw [nI_1]
  refine key (ln - (i + 1)) (i + 1) (by omega) (by omega) (fun o ho => ?_)
  rw [zto_iff]
  rintro ⟨q, -⟩
  omega
/-- among the standing leans the one of the first year, and of the last -/
def zlf (I : zFI) (g : Nat → Bool) : Nat → Nat
  | 0 => 0
  | m + 1 => if g m = true then (if zcnt g m = 0 ∨ I 79 m < I 79 (zlf I g m) then m else zlf I g m) else zlf I g m
def zll (I : zFI) (g : Nat → Bool) : Nat → Nat
  | 0 => 0
  | m + 1 => if g m = true then (if zcnt g m = 0 ∨ I 79 (zll I g m) < I 79 m then m else zll I g m) else zll I g m
theorem zfl_inv {I : zFI} {t d : Int32} {ln : Nat} : ∀ m, m ≤ ln → zcnt (zgd I t d ln) m ≠ 0 →
    zlf I (zgd I t d ln) m < m ∧ zll I (zgd I t d ln) m < m ∧ zgd I t d ln (zlf I (zgd I t d ln) m) = true ∧ zgd I t d ln (zll I (zgd I t d ln) m) = true ∧ I 79 (zlf I (zgd I t d ln) m) ≤ I 79 (zll I (zgd I t d ln) m) ∧ (2 ≤ zcnt (zgd I t d ln) m → I 79 (zlf I (zgd I t d ln) m) < I 79 (zll I (zgd I t d ln) m)) := by
  intro m
  induction m with
  | zero => intro _ h; exact absurd rfl h
  | succ m ih =>
    intro hm h
    rw [zcnt_succ] at h ⊢
    unfold zlf zll
    by_cases c : zgd I t d ln m = true
    · rw [if_pos c, if_pos c, if_pos c]
      by_cases z : zcnt (zgd I t d ln) m = 0
      · rw [if_pos (Or.inl z), if_pos (Or.inl z), z]
        exact ⟨by omega, by omega, c, c, Int32.le_refl _, fun q => absurd q (by omega)⟩
      · obtain ⟨a1, a2, a3, a4, a5, a6⟩ := ih (by omega) z
        have ne : ∀ k, k < m → zgd I t d ln k = true → ¬ I 79 m = I 79 k := fun k hk hg hq => by
          have g1 := zgd_iff.mp hg
          have g2 := zgd_iff.mp c
          have : zta I t d ln k = true := zta_iff.mpr ⟨m, by omega, zto_iff.mpr ⟨hk, g2.1, hq, g2.2.1⟩⟩
          rw [g1.2.2] at this
          cases this
        have n1 := ne _ a1 a3
        have n2 := ne _ a2 a4
        generalize zlf I (zgd I t d ln) m = f at *
        generalize zll I (zgd I t d ln) m = l at *
        by_cases c1 : I 79 m < I 79 f
        · rw [if_pos (Or.inr c1), if_neg (by rintro (w | w); exact z w; lia)]
          exact ⟨by omega, by omega, c, a4, by lia, fun _ => by lia⟩
        · rw [if_neg (by rintro (w | w); exact z w; exact c1 w)]
          by_cases c2 : I 79 l < I 79 m
          · rw [if_pos (Or.inr c2)]
            exact ⟨by omega, by omega, a3, c, by lia, fun _ => by lia⟩
          · rw [if_neg (by rintro (w | w); exact z w; exact c2 w)]
            exact ⟨by omega, by omega, a3, a4, by lia, fun _ => by lia⟩
    · rw [if_neg c] at h
      rw [if_neg c, if_neg c, if_neg c]
      obtain ⟨a1, a2, a3, a4, a5, a6⟩ := ih (by omega) h
      exact ⟨by omega, by omega, a3, a4, a5, a6⟩
