theorem zlf_succ (I : zFI) (g : Nat → Bool) (m : Nat) : zlf I g (m + 1) = if g m = true then (if zcnt g m = 0 ∨ I 79 m < I 79 (zlf I g m) then m else zlf I g m) else zlf I g m := rfl
theorem zll_succ (I : zFI) (g : Nat → Bool) (m : Nat) : zll I g (m + 1) = if g m = true then (if zcnt g m = 0 ∨ I 79 (zll I g m) < I 79 m then m else zll I g m) else zll I g m := rfl
/-- Leans.measure -/
theorem c_measure {G : Gp} {Q : zPost} {S : zSh} {I : zFI} {L : zFL} {t d : Int32} {ln : Nat} (hS : zStd S) (hl : I 77 0 = nI ln) (hln : ln ≤ 60) (hy : ∀ k, k < ln → 0 ≤ I 79 k ∧ I 79 k ≤ 999 ∧ -99 ≤ I 80 k ∧ I 80 k ≤ 99)
    (h : ∀ I' : zFI, (∀ b, b ≠ 77 → I' b = I b) → I' 77 0 = I 77 0 → I' 77 5 = nI (zcnt (zgd I t d ln) ln) → (zcnt (zgd I t d ln) ln = 0 → I' 77 7 = -1) → (zcnt (zgd I t d ln) ln ≠ 0 → I' 77 7 = nI (zll I (zgd I t d ln) ln)) →
      (2 ≤ zcnt (zgd I t d ln) ln → ∀ a b : Int32, a = I 80 (zll I (zgd I t d ln) ln) - I 80 (zlf I (zgd I t d ln) ln) → b = I 79 (zll I (zgd I t d ln) ln) - I 79 (zlf I (zgd I t d ln) ln) → I' 77 8 = a / nI (Nat.gcd a.toInt.natAbs b.toInt.toNat) ∧ I' 77 9 = b / nI (Nat.gcd a.toInt.natAbs b.toInt.toNat)) → Q none S I' L) : ZC G mX5_measure fX5_measure lX5_measure [zo G 77, .int t, .int d] S I L 0 0 Q := by
  generalize hg : zgd I t d ln = g at h
  have inv := fun m (hm : m ≤ ln) => zfl_inv (I := I) (t := t) (d := d) (ln := ln) m hm
  rw [hg] at inv
  have fin : ∀ I1 : zFI, (∀ b, b ≠ 77 → I1 b = I b) → I1 77 0 = I 77 0 → I1 77 5 = nI (zcnt g ln) → (zcnt g ln = 0 → I1 77 6 = -1 ∧ I1 77 7 = -1) → (zcnt g ln ≠ 0 → I1 77 6 = nI (zlf I g ln) ∧ I1 77 7 = nI (zll I g ln)) → (I1 77 5 < 2 → Q none S I1 L) ∧ (¬ I1 77 5 < 2 → ZC G mX5_findRate fX5_findRate lX5_findRate [zo G 77] S I1 L 0 0 (fun w S' I2 L2 => w = none ∧ S = S' ∧ Q none S I2 L2)) := by
    intro I1 h1 h2 h3 h4 h5
    have hcl := zcnt_le g ln
    constructor
    · intro c
      refine h I1 h1 h2 h3 (fun q => (h4 q).2) (fun q => (h5 q).2) (fun q => ?_)
      rw [h3, zlt, znI (by omega), show (2 : Int32).toInt = 2 from rfl] at c
      omega
    · intro c
      have h2c : 2 ≤ zcnt g ln := by
        rw [h3, zlt, znI (by omega), show (2 : Int32).toInt = 2 from rfl] at c
        omega
      obtain ⟨a1, a2, a3, a4, a5, a6⟩ := inv ln (Nat.le_refl _) (by omega)
      obtain ⟨e6, e7⟩ := h5 (by omega)
      have a6 := zlt.mp (a6 h2c)
      obtain ⟨f1, f2, f3, f4⟩ := hy _ a1
      obtain ⟨l1, l2, l3, l4⟩ := hy _ a2
      have f1 := zle.mp f1
      have f2 := zle.mp f2
      have f3 := zle.mp f3
      have f4 := zle.mp f4
      have l1 := zle.mp l1
      have l2 := zle.mp l2
      have l3 := zle.mp l3
      have l4 := zle.mp l4
      rw [show (0 : Int32).toInt = 0 from rfl] at f1 l1
      rw [show (999 : Int32).toInt = 999 from rfl] at f2 l2
      rw [show (-99 : Int32).toInt = -99 from rfl] at f3 l3
      rw [show (99 : Int32).toInt = 99 from rfl] at f4 l4
      generalize zlf I g ln = f at *
      generalize zll I g ln = l at *
      have ea : (I 80 l - I 80 f).toInt = (I 80 l).toInt - (I 80 f).toInt := zsub (by omega) (by omega)
      have eb : (I 79 l - I 79 f).toInt = (I 79 l).toInt - (I 79 f).toInt := zsub (by omega) (by omega)
      refine c_findRate hS e6 e7 (by omega) (by omega) (a := I 80 l - I 80 f) (b := I 79 l - I 79 f) (by rw [h1 80 (by decide)]) (by rw [h1 79 (by decide)]) (by omega) (by omega) (by omega) (by omega) (fun I' g1 g2 g3 g4 => ⟨rfl, rfl, ?_⟩)
      refine h I' (fun b hb => (g1 b hb).trans (h1 b hb)) ((g2 0 (by decide) (by decide)).trans h2) ((g2 5 (by decide) (by decide)).trans h3) (fun q => absurd q (by omega)) (fun _ => (g2 7 (by decide) (by decide)).trans e7) (fun _ a b ha hb => ?_)
      subst ha
      subst hb
      exact ⟨g3, g4⟩
  have key : ∀ (k m : Nat) (I1 : zFI), m + k = ln → (∀ b, b ≠ 77 → I1 b = I b) → I1 77 0 = I 77 0 → I1 77 5 = nI (zcnt g m) → (zcnt g m = 0 → I1 77 6 = -1 ∧ I1 77 7 = -1) → (zcnt g m ≠ 0 → I1 77 6 = nI (zlf I g m) ∧ I1 77 7 = nI (zll I g m)) → ZW G mX5_measure fX5_measure lX5_measure 17 [zo G 77, .int t, .int d, .int (nI m)] [] S I1 L 0 0 Q := by
    intro k
    induction k with
    | zero =>
      intro m I1 hm h1 h2 h3 h4 h5
      have : m = ln := by omega
      subst this
      refine vX5_measure_17 hS ⟨fun _ => fin I1 h1 h2 h3 h4 h5, fun hc => ?_⟩
      rw [h2, hl] at hc
      exact absurd (Int32.le_refl _) hc
    | succ k ih =>
      intro m I1 hm h1 h2 h3 h4 h5
      have hcl : (nI m).toNatClampNeg = m := znIc (by omega)
      have hin : vp_in (nI m) 60 := znIin (by omega) (by decide)
      have e78 := h1 78 (by decide)
      have e79 := h1 79 (by decide)
      have e81 := h1 81 (by decide)
      have hgm : g m = zgd I t d ln m := by rw [hg]
      have skip : g m = false → ZW G mX5_measure fX5_measure lX5_measure 17 [zo G 77, .int t, .int d, .int (nI m + 1)] [] S I1 L 0 0 Q := fun hq => by
        have c1 : zcnt g (m + 1) = zcnt g m := by rw [zcnt_succ, hq]; rfl
        have c2 : zlf I g (m + 1) = zlf I g m := by rw [zlf_succ, if_neg (by rw [hq]; decide)]
        have c3 : zll I g (m + 1) = zll I g m := by rw [zll_succ, if_neg (by rw [hq]; decide)]
        rw [nI_1]
        exact ih (m + 1) I1 (by omega) h1 h2 (by rw [c1]; exact h3) (by rw [c1]; exact h4) (by rw [c1, c2, c3]; exact h5)
      have takes : g m = true → ∀ J : zFI, (∀ b, b ≠ 77 → J b = I1 b) → J 77 0 = I1 77 0 → J 77 5 = I1 77 5 + 1 → J 77 6 = (if zcnt g m = 0 ∨ I 79 m < I 79 (zlf I g m) then nI m else I1 77 6) → J 77 7 = (if zcnt g m = 0 ∨ I 79 (zll I g m) < I 79 m then nI m else I1 77 7) → ZW G mX5_measure fX5_measure lX5_measure 17 [zo G 77, .int t, .int d, .int (nI m + 1)] [] S J L 0 0 Q := fun hq J j1 j2 j3 j4 j5 => by
        have c1 : zcnt g (m + 1) = zcnt g m + 1 := by rw [zcnt_succ, if_pos hq]
        have c2 : zlf I g (m + 1) = if zcnt g m = 0 ∨ I 79 m < I 79 (zlf I g m) then m else zlf I g m := by rw [zlf_succ, if_pos hq]
        have c3 : zll I g (m + 1) = if zcnt g m = 0 ∨ I 79 (zll I g m) < I 79 m then m else zll I g m := by rw [zll_succ, if_pos hq]
        rw [nI_1]
        refine ih (m + 1) J (by omega) (fun b hb => (j1 b hb).trans (h1 b hb)) (j2.trans h2) (by rw [j3, h3, c1, nI_1]) (fun q => absurd q (by omega)) (fun _ => ?_)
        rw [c2, c3, j4, j5]
        by_cases z : zcnt g m = 0
        · rw [if_pos (Or.inl z), if_pos (Or.inl z), if_pos (Or.inl z), if_pos (Or.inl z)]
          exact ⟨rfl, rfl⟩
        · obtain ⟨e6, e7⟩ := h5 z
          constructor
          · by_cases w : zcnt g m = 0 ∨ I 79 m < I 79 (zlf I g m)
            · rw [if_pos w, if_pos w]
            · rw [if_neg w, if_neg w, e6]
          · by_cases w : zcnt g m = 0 ∨ I 79 (zll I g m) < I 79 m
            · rw [if_pos w, if_pos w]
            · rw [if_neg w, if_neg w, e7]
      refine vX5_measure_17 hS ⟨fun hc => ?_, fun _ => ⟨fun hc => absurd hc (show ¬ (60 : Int32) ≤ nI m from nI_ge (b := 60) (by omega) (by omega)), fun _ => ⟨hin, fun hc => ?_, fun hc => ⟨fun hd => ?_, fun hd => ?_⟩⟩⟩⟩
      · rw [h2, hl] at hc
        exact absurd hc (nI_ge (by omega) (by omega))
      · rw [hcl, e78] at hc
        refine skip ?_
        cases hq : g m with
        | false => rfl
        | true => rw [hgm] at hq; exact absurd (zgd_iff.mp hq).1 hc
      · rw [hcl, e81] at hd
        refine skip ?_
        cases hq : g m with
        | false => rfl
        | true => rw [hgm] at hq; exact absurd (zgd_iff.mp hq).2.1 (Int32.not_le.mpr hd)
      · rw [hcl, e78] at hc
        rw [hcl, e81] at hd
        have ez : zta I1 t d ln m = zta I t d ln m := by
          unfold zta zto
          rw [e78, e79, e81]
        refine c_toldAnew (t := t) hS (h2.trans hl) hln (by omega) (by rw [e78]; exact hc) ⟨_, rfl, rfl, fun q => ?_, fun q => ?_⟩
        · have hz : zta I t d ln m = false := by
            cases hq : zta I t d ln m with
            | false => rfl
            | true => rw [ez, hq] at q; exact absurd q (by decide)
          have hq : g m = true := by rw [hgm]; exact zgd_iff.mpr ⟨hc, Int32.not_lt.mp hd, hz⟩
          have T := takes hq
          rw [hcl]
          by_cases z : zcnt g m = 0
          · obtain ⟨e6, e7⟩ := h4 z
            refine ⟨fun _ => ⟨fun _ => ?_, fun w => absurd e7 w⟩, fun w => absurd e6 w⟩
            refine T _ (fun b hb => ?_) rfl rfl ?_ ?_
            · rw [← u2_row _ _ _ _ hb, ← u2_row _ _ _ _ hb, ← u2_row _ _ _ _ hb]
            · rw [if_pos (Or.inl z)]; rfl
            · rw [if_pos (Or.inl z)]; rfl
          · obtain ⟨e6, e7⟩ := h5 z
            obtain ⟨a1, a2, a3, a4, a5, a6⟩ := inv m (by omega) z
            have ne : ∀ k, k < 60 → ¬ nI k = -1 := fun k hk q => by
              rw [zeq, znI (by omega), show (-1 : Int32).toInt = -1 from rfl] at q
              omega
            have i6 : vp_in (I1 77 6) 60 := by rw [e6]; exact znIin (by omega) (by decide)
            have i7 : vp_in (I1 77 7) 60 := by rw [e7]; exact znIin (by omega) (by decide)
            have x6 : I1 79 (I1 77 6).toNatClampNeg = I 79 (zlf I g m) := by rw [e6, znIc (by omega), e79]
            have x7 : I1 79 (I1 77 7).toNatClampNeg = I 79 (zll I g m) := by rw [e7, znIc (by omega), e79]
            have xm : I1 79 m = I 79 m := by rw [e79]
            rw [x6, x7, xm]
            refine ⟨fun w => absurd (e6.symm.trans w) (ne _ (by omega)), fun _ => ⟨i6, fun w1 => ⟨fun w => absurd (e7.symm.trans w) (ne _ (by omega)), fun _ => ⟨i7, fun w2 => ?_, fun w2 => ?_⟩⟩, fun w1 => ⟨fun w => absurd (e7.symm.trans w) (ne _ (by omega)), fun _ => ⟨i7, fun w2 => ?_, fun w2 => ?_⟩⟩⟩⟩
            · refine T _ (fun b hb => ?_) rfl rfl ?_ ?_
              · rw [← u2_row _ _ _ _ hb]
              · rw [if_neg (by rintro (w | w); exact z w; exact Int32.not_le.mpr w w1)]; rfl
              · rw [if_neg (by rintro (w | w); exact z w; exact Int32.not_le.mpr w w2)]; rfl
            · refine T _ (fun b hb => ?_) rfl rfl ?_ ?_
              · rw [← u2_row _ _ _ _ hb, ← u2_row _ _ _ _ hb]
              · rw [if_neg (by rintro (w | w); exact z w; exact Int32.not_le.mpr w w1)]; rfl
              · rw [if_pos (Or.inr (Int32.not_le.mp w2))]; rfl
            · refine T _ (fun b hb => ?_) rfl rfl ?_ ?_
              · rw [← u2_row _ _ _ _ hb, ← u2_row _ _ _ _ hb]
              · rw [if_pos (Or.inr (Int32.not_le.mp w1))]; rfl
              · rw [if_neg (by rintro (w | w); exact z w; exact Int32.not_le.mpr w w2)]; rfl
            · refine T _ (fun b hb => ?_) rfl rfl ?_ ?_
              · rw [← u2_row _ _ _ _ hb, ← u2_row _ _ _ _ hb, ← u2_row _ _ _ _ hb]
              · rw [if_pos (Or.inr (Int32.not_le.mp w1))]; rfl
              · rw [if_pos (Or.inr (Int32.not_le.mp w2))]; rfl
        · refine skip ?_
          cases hq : g m with
          | false => rfl
          | true =>
            rw [hgm] at hq
            rw [ez, (zgd_iff.mp hq).2.2] at q
            exact absurd rfl q
  refine ZC.of' (vX5_measure_0 hS (key ln 0 _ (by omega) (fun b hb => ?_) rfl rfl (fun _ => ⟨rfl, rfl⟩) (fun q => absurd rfl q))) rfl (Nat.le_of_ble_eq_true rfl) rfl
  rw [← u2_row _ _ _ _ hb, ← u2_row _ _ _ _ hb, ← u2_row _ _ _ _ hb]
