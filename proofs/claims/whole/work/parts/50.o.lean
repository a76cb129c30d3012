/-- the model's counts -/
theorem cnts_0 {I : zFI} {n ln k : Nat} {t : Int32} (hNow : iNow I) (hLea : iLea I n ln) (hk : k < ln) : p_X12_counts I (nI k) t = 0 ↔ ¬ (I 78 k = t ∧ I 81 k ≤ p_X11_lastDaySeen I) := by
  obtain ⟨l1, l2, l3, l4⟩ := id hLea
  obtain ⟨b1, b2, b3, b4, b5, b6, b7, b8, b9, b10, b11, b12⟩ := l4 k hk
  unfold p_X12_counts
  rw [znIc (by omega), b1, b4]
  have e := seen_0 hNow b12
  by_cases c : I 78 k = t
  · rw [if_pos c]
    by_cases d : p_X12_isSeen I (I 81 k) = 0
    · rw [if_pos d]
      exact ⟨fun _ q => e.mp d q.2, fun _ => rfl⟩
    · rw [if_neg d]
      exact ⟨fun q => absurd q (by decide), fun q => absurd (e.mpr (fun w => q ⟨c, w⟩)) d⟩
  · rw [if_neg c]
    exact ⟨fun _ q => c q.1, fun _ => rfl⟩
/-- the model's findLeans -/
theorem m_findLeans {G : Gp} {Q : zPost} {S : zSh} {I : zFI} {L : zFL} {t : Int32} {n ln : Nat} (hS : zStd S) (hNow : iNow I) (hLea : iLea I n ln)
    (h : ∀ I' : zFI, (∀ b, b ≠ 84 → I' b = I b) → (∀ k, k < 84 ∨ 88 < k → I' 84 k = I 84 k) → I' 84 84 = nI (zcnt (zgd I t (p_X11_lastDaySeen I) ln) ln) →
      (zcnt (zgd I t (p_X11_lastDaySeen I) ln) ln ≠ 0 → I' 84 85 = I 79 (zlf I (zgd I t (p_X11_lastDaySeen I) ln) ln) ∧ I' 84 86 = I 79 (zll I (zgd I t (p_X11_lastDaySeen I) ln) ln) ∧ I' 84 87 = I 80 (zlf I (zgd I t (p_X11_lastDaySeen I) ln) ln) ∧ I' 84 88 = I 80 (zll I (zgd I t (p_X11_lastDaySeen I) ln) ln)) → Q none S I' L) : ZC G mX12_findLeans fX12_findLeans lX12_findLeans [zo G 84, .int t] S I L 0 0 Q := by
  obtain ⟨l1, l2, l3, l4⟩ := id hLea
  generalize hd : p_X11_lastDaySeen I = d at h
  generalize hg : zgd I t d ln = g at h
  have cn : ∀ J : zFI, (∀ b, b ≠ 84 → J b = I b) → (∀ k, k < 84 ∨ 88 < k → J 84 k = I 84 k) → ∀ k, k < ln → (p_X12_counts J (nI k) t = 0 ↔ ¬ (I 78 k = t ∧ I 81 k ≤ d)) := fun J j1 j2 k hk => by
    have e : p_X12_counts J (nI k) t = p_X12_counts I (nI k) t := by
      unfold p_X12_counts p_X12_isSeen
      rw [j1 134 (by decide), j1 137 (by decide), j2 2 (by decide)]
    rw [e, cnts_0 hNow hLea hk, hd]
  have key : ∀ (k m : Nat) (J : zFI), m + k = ln → (∀ b, b ≠ 84 → J b = I b) → (∀ k, k < 84 ∨ 88 < k → J 84 k = I 84 k) → J 84 84 = nI (zcnt g m) → (zcnt g m ≠ 0 → J 84 85 = I 79 (zlf I g m) ∧ J 84 86 = I 79 (zll I g m) ∧ J 84 87 = I 80 (zlf I g m) ∧ J 84 88 = I 80 (zll I g m)) → ZW G mX12_findLeans fX12_findLeans lX12_findLeans 7 [zo G 84, .int t, .int (nI m), .null, .null] [] S J L 0 0 Q := by
    intro k
    induction k with
    | zero =>
      intro m J hm j1 j2 j3 j4
      have : m = ln := by omega
      subst this
      refine vX12_findLeans_7 hS ⟨fun _ => h J j1 j2 j3 j4, fun hc => ?_⟩
      rw [j2 79 (by decide), l3] at hc
      exact absurd (Int32.le_refl _) hc
    | succ k ih =>
      intro m J hm j1 j2 j3 j4
      have hcl : (nI m).toNatClampNeg = m := znIc (by omega)
      have hin : vp_in (nI m) 60 := znIin (by omega) (by decide)
      have e79 : J 84 79 = nI ln := (j2 79 (by decide)).trans l3
      obtain ⟨b1, b2, b3, b4, -⟩ := l4 m (by omega)
      have y1 : J 135 m = I 79 m := by rw [j1 135 (by decide), b2]
      have y2 : J 136 m = I 80 m := by rw [j1 136 (by decide), b3]
      have hgm : g m = zgd I t d ln m := by rw [hg]
      have skip : g m = false → ZW G mX12_findLeans fX12_findLeans lX12_findLeans 7 [zo G 84, .int t, .int (nI m + 1), .null, .null] [] S J L 0 0 Q := fun hq => by
        have c1 : zcnt g (m + 1) = zcnt g m := by rw [zcnt_succ, hq]; rfl
        have c2 : zlf I g (m + 1) = zlf I g m := by rw [zlf_succ, if_neg (by rw [hq]; decide)]
        have c3 : zll I g (m + 1) = zll I g m := by rw [zll_succ, if_neg (by rw [hq]; decide)]
        rw [nI_1]
        exact ih (m + 1) J (by omega) j1 j2 (by rw [c1]; exact j3) (by rw [c1, c2, c3]; exact j4)
      have takes : g m = true → ∀ K : zFI, (∀ b, b ≠ 84 → K b = J b) → (∀ k, k < 84 ∨ 88 < k → K 84 k = J 84 k) → K 84 84 = J 84 84 + 1 →
          K 84 85 = (if zcnt g m = 0 ∨ I 79 m < I 79 (zlf I g m) then I 79 m else J 84 85) → K 84 86 = (if zcnt g m = 0 ∨ I 79 (zll I g m) < I 79 m then I 79 m else J 84 86) →
          K 84 87 = (if zcnt g m = 0 ∨ I 79 m < I 79 (zlf I g m) then I 80 m else J 84 87) → K 84 88 = (if zcnt g m = 0 ∨ I 79 (zll I g m) < I 79 m then I 80 m else J 84 88) → ZW G mX12_findLeans fX12_findLeans lX12_findLeans 7 [zo G 84, .int t, .int (nI m + 1), .null, .null] [] S K L 0 0 Q := fun hq K k1 k2 k3 k4 k5 k6 k7 => by
        have c1 : zcnt g (m + 1) = zcnt g m + 1 := by rw [zcnt_succ, if_pos hq]
        have c2 : zlf I g (m + 1) = if zcnt g m = 0 ∨ I 79 m < I 79 (zlf I g m) then m else zlf I g m := by rw [zlf_succ, if_pos hq]
        have c3 : zll I g (m + 1) = if zcnt g m = 0 ∨ I 79 (zll I g m) < I 79 m then m else zll I g m := by rw [zll_succ, if_pos hq]
        rw [nI_1]
        refine ih (m + 1) K (by omega) (fun b hb => (k1 b hb).trans (j1 b hb)) (fun k hk => (k2 k hk).trans (j2 k hk)) (by rw [k3, j3, c1, nI_1]) (fun _ => ?_)
        rw [c2, c3, k4, k5, k6, k7]
        by_cases z : zcnt g m = 0
        · rw [if_pos (Or.inl z), if_pos (Or.inl z), if_pos (Or.inl z), if_pos (Or.inl z), if_pos (Or.inl z), if_pos (Or.inl z)]
          exact ⟨rfl, rfl, rfl, rfl⟩
        · obtain ⟨e5, e6, e7, e8⟩ := j4 z
          have p1 : (if zcnt g m = 0 ∨ I 79 m < I 79 (zlf I g m) then I 79 m else J 84 85) = I 79 (if zcnt g m = 0 ∨ I 79 m < I 79 (zlf I g m) then m else zlf I g m) := by
            by_cases w : zcnt g m = 0 ∨ I 79 m < I 79 (zlf I g m)
            · rw [if_pos w, if_pos w]
            · rw [if_neg w, if_neg w, e5]
          have p3 : (if zcnt g m = 0 ∨ I 79 m < I 79 (zlf I g m) then I 80 m else J 84 87) = I 80 (if zcnt g m = 0 ∨ I 79 m < I 79 (zlf I g m) then m else zlf I g m) := by
            by_cases w : zcnt g m = 0 ∨ I 79 m < I 79 (zlf I g m)
            · rw [if_pos w, if_pos w]
            · rw [if_neg w, if_neg w, e7]
          have p2 : (if zcnt g m = 0 ∨ I 79 (zll I g m) < I 79 m then I 79 m else J 84 86) = I 79 (if zcnt g m = 0 ∨ I 79 (zll I g m) < I 79 m then m else zll I g m) := by
            by_cases w : zcnt g m = 0 ∨ I 79 (zll I g m) < I 79 m
            · rw [if_pos w, if_pos w]
            · rw [if_neg w, if_neg w, e6]
          have p4 : (if zcnt g m = 0 ∨ I 79 (zll I g m) < I 79 m then I 80 m else J 84 88) = I 80 (if zcnt g m = 0 ∨ I 79 (zll I g m) < I 79 m then m else zll I g m) := by
            by_cases w : zcnt g m = 0 ∨ I 79 (zll I g m) < I 79 m
            · rw [if_pos w, if_pos w]
            · rw [if_neg w, if_neg w, e8]
          exact ⟨p1, p2, p3, p4⟩
      refine vX12_findLeans_7 hS ⟨fun hc => ?_, fun _ => ⟨hin, fun hc => ?_, fun hc => ?_⟩⟩
      · rw [e79] at hc
        exact absurd hc (nI_ge (by omega) (by omega))
      · have hcnt := Classical.not_not.mp (fun q => hc ((cn J j1 j2 m (by omega)).mpr q))
        -- the inner loop
        have inner : ∀ (k' o : Nat) (v3 : Int32), o + k' = ln → m < o → (v3 = 0 ∨ v3 = 1) → (v3 = 0 → ∃ i, i < ln ∧ zto I t d m i = true) → (v3 = 1 → ∀ i, i < o → ¬ zto I t d m i = true) → ZW G mX12_findLeans fX12_findLeans lX12_findLeans 34 [zo G 84, .int t, .int (nI m), .int v3, .int (nI o)] [] S J L 0 0 Q := by
          intro k'
          induction k' with
          | zero =>
            intro o v3 ho hmo hv i1 i2
            have : o = ln := by omega
            subst this
            have hy1 := y1
            have hz : J 84 84 = 0 ↔ zcnt g m = 0 := by
              have := zcnt_le g m
              rw [j3, zeq, znI (by omega), show (0 : Int32).toInt = 0 from rfl]
              omega
            refine vX12_findLeans_34 hS ⟨fun _ => ⟨fun w => ?_, fun w => ?_⟩, fun q => absurd (by rw [e79]; exact Int32.le_refl _) q⟩
            · have hv1 : v3 = 1 := hv.resolve_left w
              have hq : g m = true := by
                rw [hgm]
                refine zgd_iff.mpr ⟨hcnt.1, hcnt.2, ?_⟩
                cases hh : zta I t d o m with
                | false => rfl
                | true =>
                  obtain ⟨i, w1, w2⟩ := zta_iff.mp hh
                  exact absurd w2 (i2 hv1 i w1)
              have T := takes hq
              rw [hcl, y1, y2]
              by_cases z : zcnt g m = 0
              · refine ⟨fun _ => ⟨hin, fun _ => ?_, fun q => absurd (hz.mpr z) q⟩, fun q => absurd (hz.mpr z) q⟩
                refine T _ (fun b hb => ?_) (fun k hk => ?_) rfl ?_ ?_ ?_ ?_
                · rw [← u2_row _ _ _ _ hb, ← u2_row _ _ _ _ hb, ← u2_row _ _ _ _ hb, ← u2_row _ _ _ _ hb, ← u2_row _ _ _ _ hb]
                · rw [u2_ne _ _ _ _ (by omega), u2_ne _ _ _ _ (by omega), u2_ne _ _ _ _ (by omega), u2_ne _ _ _ _ (by omega), u2_ne _ _ _ _ (by omega)]
                all_goals (rw [if_pos (Or.inl z)]; rfl)
              · obtain ⟨e5, e6, e7, e8⟩ := j4 z
                refine ⟨fun q => absurd (hz.mp q) z, fun _ => ⟨hin, fun w1 => ⟨fun q => absurd (hz.mp q) z, fun _ => ⟨fun w2 => ?_, fun w2 => ?_⟩⟩, fun w1 => ⟨fun q => absurd (hz.mp q) z, fun _ => ⟨fun w2 => ?_, fun w2 => ?_⟩⟩⟩⟩
                · rw [e5] at w1
                  rw [e6] at w2
                  refine T _ (fun b hb => ?_) (fun k hk => ?_) rfl ?_ ?_ ?_ ?_
                  · rw [← u2_row _ _ _ _ hb]
                  · rw [u2_ne _ _ _ _ (by omega)]
                  · rw [if_neg (by rintro (w | w); exact z w; exact Int32.not_le.mpr w w1)]; rfl
                  · rw [if_neg (by rintro (w | w); exact z w; exact Int32.not_le.mpr w w2)]; rfl
                  · rw [if_neg (by rintro (w | w); exact z w; exact Int32.not_le.mpr w w1)]; rfl
                  · rw [if_neg (by rintro (w | w); exact z w; exact Int32.not_le.mpr w w2)]; rfl
                · rw [e5] at w1
                  rw [e6] at w2
                  refine T _ (fun b hb => ?_) (fun k hk => ?_) rfl ?_ ?_ ?_ ?_
                  · rw [← u2_row _ _ _ _ hb, ← u2_row _ _ _ _ hb, ← u2_row _ _ _ _ hb]
                  · rw [u2_ne _ _ _ _ (by omega), u2_ne _ _ _ _ (by omega), u2_ne _ _ _ _ (by omega)]
                  · rw [if_neg (by rintro (w | w); exact z w; exact Int32.not_le.mpr w w1)]; rfl
                  · rw [if_pos (Or.inr (Int32.not_le.mp w2))]; rfl
                  · rw [if_neg (by rintro (w | w); exact z w; exact Int32.not_le.mpr w w1)]; rfl
                  · rw [if_pos (Or.inr (Int32.not_le.mp w2))]; rfl
                · rw [e5] at w1
                  rw [e6] at w2
                  refine T _ (fun b hb => ?_) (fun k hk => ?_) rfl ?_ ?_ ?_ ?_
                  · rw [← u2_row _ _ _ _ hb, ← u2_row _ _ _ _ hb, ← u2_row _ _ _ _ hb]
                  · rw [u2_ne _ _ _ _ (by omega), u2_ne _ _ _ _ (by omega), u2_ne _ _ _ _ (by omega)]
                  · rw [if_pos (Or.inr (Int32.not_le.mp w1))]; rfl
                  · rw [if_neg (by rintro (w | w); exact z w; exact Int32.not_le.mpr w w2)]; rfl
                  · rw [if_pos (Or.inr (Int32.not_le.mp w1))]; rfl
                  · rw [if_neg (by rintro (w | w); exact z w; exact Int32.not_le.mpr w w2)]; rfl
                · rw [e5] at w1
                  rw [e6] at w2
                  refine T _ (fun b hb => ?_) (fun k hk => ?_) rfl ?_ ?_ ?_ ?_
                  · rw [← u2_row _ _ _ _ hb, ← u2_row _ _ _ _ hb, ← u2_row _ _ _ _ hb, ← u2_row _ _ _ _ hb, ← u2_row _ _ _ _ hb]
                  · rw [u2_ne _ _ _ _ (by omega), u2_ne _ _ _ _ (by omega), u2_ne _ _ _ _ (by omega), u2_ne _ _ _ _ (by omega), u2_ne _ _ _ _ (by omega)]
                  · rw [if_pos (Or.inr (Int32.not_le.mp w1))]; rfl
                  · rw [if_pos (Or.inr (Int32.not_le.mp w2))]; rfl
                  · rw [if_pos (Or.inr (Int32.not_le.mp w1))]; rfl
                  · rw [if_pos (Or.inr (Int32.not_le.mp w2))]; rfl
            · refine skip ?_
              cases hq : g m with
              | false => rfl
              | true =>
                rw [hgm] at hq
                have := zta_iff.mpr (i1 w)
                rw [(zgd_iff.mp hq).2.2] at this
                cases this
          | succ k' ih' =>
            intro o v3 ho hmo hv i1 i2
            have ocl : (nI o).toNatClampNeg = o := znIc (by omega)
            have oin : vp_in (nI o) 60 := znIin (by omega) (by decide)
            have yo : J 135 o = I 79 o := by rw [j1 135 (by decide), (l4 o (by omega)).2.1]
            have no : v3 = 1 → ¬ zto I t d m o = true → ZW G mX12_findLeans fX12_findLeans lX12_findLeans 34 [zo G 84, .int t, .int (nI m), .int 1, .int (nI o + 1)] [] S J L 0 0 Q := fun hv1 hno => by
              rw [nI_1]
              refine ih' (o + 1) 1 (by omega) (by omega) (Or.inr rfl) (fun q => absurd q (by decide)) (fun _ i hi => ?_)
              rcases (by omega : i < o ∨ i = o) with w | rfl
              · exact i2 hv1 i w
              · exact hno
            refine vX12_findLeans_34 hS ⟨fun q => ?_, fun _ => ⟨fun w => ?_, fun w => ⟨oin, fun c => ?_, fun c => ⟨oin, hin, fun e => ?_, fun e => ?_⟩⟩⟩⟩
            · rw [e79] at q
              exact absurd q (nI_ge (by omega) (by omega))
            · rw [nI_1]
              exact ih' (o + 1) 0 (by omega) (by omega) (Or.inl rfl) (fun _ => i1 w) (fun q => absurd q (by decide))
            · refine no (hv.resolve_left w) (fun q => ?_)
              have := zto_iff.mp q
              exact (cn J j1 j2 o (by omega)).mp c ⟨this.2.1, this.2.2.2⟩
            · have hc2 := Classical.not_not.mp (fun q => c ((cn J j1 j2 o (by omega)).mpr q))
              rw [ocl, hcl, yo, y1] at e
              rw [nI_1]
              exact ih' (o + 1) 0 (by omega) (by omega) (Or.inl rfl) (fun _ => ⟨o, by omega, zto_iff.mpr ⟨hmo, hc2.1, e, hc2.2⟩⟩) (fun q => absurd q (by decide))
            · rw [ocl, hcl, yo, y1] at e
              exact no (hv.resolve_left w) (fun q => e (zto_iff.mp q).2.2.1)
        have := inner (ln - (m + 1)) (m + 1) 1 (by omega) (by omega) (Or.inr rfl) (fun q => absurd q (by decide)) (fun _ i hi => by
          rw [zto_iff]
          rintro ⟨q, -⟩
          omega)
        rw [← nI_1] at this
        exact this
      · refine skip ?_
        cases hq : g m with
        | false => rfl
        | true =>
          rw [hgm] at hq
          have := zgd_iff.mp hq
          exact absurd ⟨this.1, this.2.1⟩ ((cn J j1 j2 m (by omega)).mp hc)
  refine ZC.of' (vX12_findLeans_0 hS (key ln 0 _ (by omega) (fun b hb => ?_) (fun k hk => ?_) rfl (fun q => absurd rfl q))) rfl (Nat.le_of_ble_eq_true rfl) rfl
  · rw [← u2_row _ _ _ _ hb]
  · rw [u2_ne _ _ _ _ (by omega)]
