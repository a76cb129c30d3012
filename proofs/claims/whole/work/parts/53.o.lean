theorem zgd_rows {I J : zFI} {t d : Int32} {ln : Nat} (h1 : J 78 = I 78) (h2 : J 79 = I 79) (h3 : J 81 = I 81) : zgd J t d ln = zgd I t d ln := by
  funext k
  unfold zgd zta zto
  rw [h1, h2, h3]
theorem zlf_rows {I J : zFI} {g : Nat → Bool} (h : J 79 = I 79) : ∀ m, zlf J g m = zlf I g m := by
  intro m
  induction m with
  | zero => rfl
  | succ m ih => rw [zlf_succ, zlf_succ, ih, h]
theorem zll_rows {I J : zFI} {g : Nat → Bool} (h : J 79 = I 79) : ∀ m, zll J g m = zll I g m := by
  intro m
  induction m with
  | zero => rfl
  | succ m ih => rw [zll_succ, zll_succ, ih, h]
/-- both sides' leans of a timber, told -/
theorem m_leansAt {G : Gp} {Q : zPost} {S : zSh} {I I1 : zFI} {L : zFL} {n jn mn tl ln on : Nat} {v1 : Int32} (h : iAll S I n jn mn tl ln on) (h1 : ∀ b, b ≠ 77 → I1 b = I b) (h2 : I1 77 0 = I 77 0)
    (k : ∀ I2 : zFI, iAll S I2 n jn mn tl ln on ∧ zSameJ I L I2 L jn ∧ I2 0 16 = I 0 16 → I2 84 84 = nI (zcnt (zgd I v1 (p_X11_lastDaySeen I) ln) ln) →
      (zcnt (zgd I v1 (p_X11_lastDaySeen I) ln) ln ≠ 0 → I2 84 85 = I 79 (zlf I (zgd I v1 (p_X11_lastDaySeen I) ln) ln) ∧ I2 84 86 = I 79 (zll I (zgd I v1 (p_X11_lastDaySeen I) ln) ln) ∧ I2 84 87 = I 80 (zlf I (zgd I v1 (p_X11_lastDaySeen I) ln) ln) ∧ I2 84 88 = I 80 (zll I (zgd I v1 (p_X11_lastDaySeen I) ln) ln)) → Q none S I2 L) : ZC G mX12_findLeans fX12_findLeans lX12_findLeans [zo G 84, .int v1] S (u2 I1 84 0 0) L 0 0 Q := by
  have a1 := h.w77 (L := L) h1 h2
  have a2 := a1.1.told (L := L) 0
  have hA := a2.1
  obtain ⟨hS, hNow, hTim, hJnt, hMrk, hShn, hTap, hFlt, hCus, hRng, hLea, hOut, hWrd⟩ := id hA
  have r78 : (u2 I1 84 0 0) 78 = I 78 := h1 78 (by decide)
  have r79 : (u2 I1 84 0 0) 79 = I 79 := h1 79 (by decide)
  have r80 : (u2 I1 84 0 0) 80 = I 80 := h1 80 (by decide)
  have r81 : (u2 I1 84 0 0) 81 = I 81 := h1 81 (by decide)
  have rd : p_X11_lastDaySeen (u2 I1 84 0 0) = p_X11_lastDaySeen I := by
    unfold p_X11_lastDaySeen
    rw [show (u2 I1 84 0 0) 0 = I 0 from h1 0 (by decide)]
  refine m_findLeans hS hNow hLea ?_
  rw [rd, zgd_rows r78 r79 r81, zlf_rows r79, zll_rows r79, r79, r80]
  intro I' g1 g2 g3 g4
  have a3 := hA.w84 (L := L) g1 g2
  exact k I' ⟨a3.1, (a1.2.1.trans a2.2.1).trans a3.2.1, a3.2.2.trans (a2.2.2.trans a1.2.2)⟩ g3 g4
