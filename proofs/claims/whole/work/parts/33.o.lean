theorem iAll.told {S : zSh} {I : zFI} {L : zFL} {n jn mn tl ln on : Nat} (h : iAll S I n jn mn tl ln on) (x : Int32) : iAll S (u2 I 84 0 x) n jn mn tl ln on ∧ zSameJ I L (u2 I 84 0 x) L jn ∧ u2 I 84 0 x 0 16 = I 0 16 := by
  obtain ⟨hS, hNow, hTim, hJnt, hMrk, hShn, hTap, hFlt, hCus, hRng, hLea, hOut, hWrd⟩ := h
  exact ⟨⟨hS, hNow.fr rfl rfl rfl rfl, hTim.fr (Int32.le_refl _) rfl rfl rfl rfl rfl rfl rfl rfl, hJnt.fr (Int32.le_refl _) (Int32.le_refl _) rfl rfl rfl rfl rfl rfl rfl rfl rfl rfl rfl rfl rfl, hMrk.fr (Int32.le_refl _) (Int32.le_refl _) rfl rfl rfl rfl rfl rfl rfl rfl rfl rfl rfl rfl, hShn.fr rfl rfl rfl rfl, hTap.fr rfl rfl rfl rfl, hFlt.fr rfl rfl rfl rfl, hCus.fr hS rfl rfl rfl rfl, hRng.fr (Int32.le_refl _) rfl rfl rfl rfl rfl rfl rfl rfl rfl rfl rfl rfl rfl, hLea.fr (Int32.le_refl _) (Int32.le_refl _) rfl rfl rfl rfl rfl rfl rfl rfl rfl rfl, hOut.fr rfl rfl rfl rfl, hWrd.fr rfl⟩,
    zSameJ.of_rows rfl (fun a ha => (u2_row _ _ _ _ (by omega)).symm), rfl⟩
theorem op_days {G : Gp} {S : zSh} {I : zFI} {L : zFL} {n jn mn tl ln on : Nat} {v1 : Int32} (h : iAll S I n jn mn tl ln on) :
    zOpI G mX11_days fX11_days lX11_days mX12_days fX12_days lX12_days [.int v1] S I L 0 0 (fun S' I' L' => S' = S ∧ iAll S I' n jn mn tl ln on ∧ zSameJ I L I' L' jn ∧ I' 0 16 = I 0 16) := by
  have hT := h.told (L := L) 0
  obtain ⟨hS, hNow, hTim, hJnt, hMrk, hShn, hTap, hFlt, hCus, hRng, hLea, hOut, hWrd⟩ := h
  obtain ⟨a1, a2, a3, a4, a5, a6⟩ := id hNow
  refine ZC.of' (vX11_days_0 hS ⟨fun c1 => ?_, fun c1 => ⟨fun c2 => ?_, fun c2 => ⟨fun c3 => ?_, fun c3 => ?_⟩⟩⟩) rfl (Nat.le_of_ble_eq_true rfl) rfl
  · refine ⟨_, rfl, ZC.of' (vX12_days_0 hS ⟨fun _ => ⟨rfl, rfl, hT⟩, fun hc => ?_⟩) rfl (Nat.le_of_ble_eq_true rfl) rfl⟩
    rw [isIn_0] at hc
    exact absurd (fun q : _ ∧ _ => absurd q.1 (Int32.not_le.mpr c1)) hc
  · refine ⟨_, rfl, ZC.of' (vX12_days_0 hS ⟨fun _ => ⟨rfl, rfl, hT⟩, fun hc => ?_⟩) rfl (Nat.le_of_ble_eq_true rfl) rfl⟩
    rw [isIn_0] at hc
    exact absurd (fun q : _ ∧ _ => absurd q.2 (Int32.not_le.mpr c2)) hc
  · have hle : I 0 14 ≤ I 0 14 + v1 := by lia
    refine ⟨_, rfl, ZC.of' (vX12_days_0 hS ⟨fun hc => ?_, fun _ => ⟨fun _ => ⟨?_, rfl, ⟨hS, ?_, hTim.fr hle rfl rfl rfl rfl rfl rfl rfl rfl, hJnt.fr (Int32.le_refl _) hle rfl rfl rfl rfl rfl rfl rfl rfl rfl rfl rfl rfl rfl, hMrk.fr (Int32.le_refl _) hle rfl rfl rfl rfl rfl rfl rfl rfl rfl rfl rfl rfl, hShn.fr rfl rfl rfl rfl, hTap.fr rfl rfl rfl rfl, hFlt.fr rfl rfl rfl rfl, hCus.fr hS rfl rfl rfl rfl, hRng.fr hle rfl rfl rfl rfl rfl rfl rfl rfl rfl rfl rfl rfl rfl, hLea.fr (Int32.le_refl _) hle rfl rfl rfl rfl rfl rfl rfl rfl rfl rfl, hOut.fr rfl rfl rfl rfl, hWrd.fr rfl⟩, ?_, rfl⟩, fun hc => ?_⟩⟩) rfl (Nat.le_of_ble_eq_true rfl) rfl⟩
    · rw [isIn_0] at hc
      exact absurd ⟨Int32.not_lt.mp c1, Int32.not_lt.mp c2⟩ hc
    · show some (Value.int (I 84 1 + v1)) = _
      rw [a5]
    · show 0 ≤ I 0 14 + v1 ∧ I 0 14 + v1 ≤ 9999 ∧ -1 ≤ I 0 15 ∧ I 0 15 ≤ I 0 14 + v1 ∧ I 84 1 + v1 = I 0 14 + v1 ∧ I 84 2 = I 0 15
      rw [a5]
      exact ⟨by lia, c3, a3, by lia, rfl, a6⟩
    · refine zSameJ.of_rows rfl (fun a ha => ?_)
      rw [← u2_row _ _ _ _ (show a ≠ 84 by omega), ← u2_row _ _ _ _ (show a ≠ 84 by omega), ← u2_row _ _ _ _ (show a ≠ 0 by omega)]
    · have hc : ¬ I 84 1 + v1 ≤ 9999 := hc
      rw [a5] at hc
      exact absurd c3 hc
  · refine ⟨_, rfl, ZC.of' (vX12_days_0 hS ⟨fun _ => ⟨rfl, rfl, hT⟩, fun _ => ⟨fun hc => ?_, fun _ => ⟨rfl, rfl, hT⟩⟩⟩) rfl (Nat.le_of_ble_eq_true rfl) rfl⟩
    have hc : I 84 1 + v1 ≤ 9999 := hc
    rw [a5] at hc
    exact absurd hc c3
