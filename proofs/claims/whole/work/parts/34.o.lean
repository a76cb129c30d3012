theorem op_end {G : Gp} {S : zSh} {I : zFI} {L : zFL} {n jn mn tl ln on : Nat} {v1 : Int32} (h : iAll S I n jn mn tl ln on) : zOpI G mX11_end fX11_end lX11_end mX12_end fX12_end lX12_end [.int v1] S I L 0 0 (fun S' I' L' => S' = S ∧ (∃ tl', iAll S I' n jn mn tl' ln on) ∧ zSameJ I L I' L' jn ∧ I' 0 16 = I 0 16) := by
  have hT0 := h.told (L := L) 0
  have hT : (∃ tl', iAll S (u2 I 84 0 0) n jn mn tl' ln on) ∧ zSameJ I L (u2 I 84 0 0) L jn ∧ u2 I 84 0 0 0 16 = I 0 16 := ⟨⟨_, hT0.1⟩, hT0.2⟩
  obtain ⟨hS, hNow, hTim, hJnt, hMrk, hShn, hTap, hFlt, hCus, hRng, hLea, hOut, hWrd⟩ := h
  obtain ⟨a1, a2, a3, a4⟩ := id hTap
  refine ZC.of' (vX11_end_0 hS (ZC.of' (vX9_cut_0 hS ⟨fun c1 => ?_, fun c1 => ⟨fun c2 => ?_, fun c2 => ?_⟩⟩) rfl (Nat.le_of_ble_eq_true rfl) rfl)) rfl (Nat.le_of_ble_eq_true rfl) rfl
  · refine ⟨_, rfl, rfl, rfl, _, rfl, ZC.of' (vX12_end_0 hS ⟨fun hc => ?_, fun hc => ⟨rfl, rfl, hT⟩⟩) rfl (Nat.le_of_ble_eq_true rfl) rfl⟩
    exfalso
    grind [p_X12_isIn]
  · obtain ⟨k, hk1, hk2⟩ := zof (Int32.not_lt.mp c1)
    have hk3 : k ≤ tl := by
      rw [a1, hk2, zle, znI hk1, znI (by omega)] at c2
      omega
    refine ⟨_, rfl, rfl, rfl, _, rfl, ZC.of' (vX12_end_0 hS ⟨fun hc => ⟨rfl, rfl, ⟨k, hS, hNow.fr rfl rfl rfl rfl, hTim.fr (Int32.le_refl _) rfl rfl rfl rfl rfl rfl rfl rfl, hJnt.fr (Int32.le_refl _) (Int32.le_refl _) rfl rfl rfl rfl rfl rfl rfl rfl rfl rfl rfl rfl rfl, hMrk.fr (Int32.le_refl _) (Int32.le_refl _) rfl rfl rfl rfl rfl rfl rfl rfl rfl rfl rfl rfl, hShn.fr rfl rfl rfl rfl, ⟨hk2, by omega, hk2, fun j hj => a4 j (by omega)⟩, hFlt.fr rfl rfl rfl rfl, hCus.fr hS rfl rfl rfl rfl, hRng.fr (Int32.le_refl _) rfl rfl rfl rfl rfl rfl rfl rfl rfl rfl rfl rfl rfl, hLea.fr (Int32.le_refl _) (Int32.le_refl _) rfl rfl rfl rfl rfl rfl rfl rfl rfl rfl, hOut.fr rfl rfl rfl rfl, hWrd.fr rfl⟩, zSameJ.of_rows rfl (fun a ha => by rw [← u2_row _ _ _ _ (show a ≠ 84 by omega), ← u2_row _ _ _ _ (show a ≠ 84 by omega), ← u2_row _ _ _ _ (show a ≠ 1 by omega)]), rfl⟩, fun hc => ?_⟩) rfl (Nat.le_of_ble_eq_true rfl) rfl⟩
    have hc : p_X12_isIn v1 0 (I 84 26) = 0 := hc
    rw [isIn_0, a3, ← a1] at hc
    exact absurd ⟨Int32.not_lt.mp c1, c2⟩ hc
  · refine ⟨_, rfl, rfl, rfl, _, rfl, ZC.of' (vX12_end_0 hS ⟨fun hc => ?_, fun hc => ⟨rfl, rfl, hT⟩⟩) rfl (Nat.le_of_ble_eq_true rfl) rfl⟩
    have hc : ¬ p_X12_isIn v1 0 (I 84 26) = 0 := hc
    rw [isIn_0, a3, ← a1] at hc
    exact absurd (fun q : _ ∧ _ => c2 q.2) hc
theorem op_fault {G : Gp} {S : zSh} {I : zFI} {L : zFL} {n jn mn tl ln on : Nat} {v1 : Int32} (h : iAll S I n jn mn tl ln on) : zOpI G mX11_fault fX11_fault lX11_fault mX12_fault fX12_fault lX12_fault [.int v1] S I L 0 0 (fun S' I' L' => S' = S ∧ iAll S I' n jn mn tl ln on ∧ zSameJ I L I' L' jn ∧ I' 0 16 = I 0 16) := by
  have hT := h.told (L := L) 0
  obtain ⟨hS, hNow, hTim, hJnt, hMrk, hShn, hTap, hFlt, hCus, hRng, hLea, hOut, hWrd⟩ := h
  obtain ⟨a1, a2⟩ := id hFlt
  refine sp_X11_fault hS ⟨_, rfl, ZC.of' (vX12_fault_0 hS ⟨fun c1 => ⟨fun c2 => ⟨?_, rfl, hT⟩, fun c2 => ⟨?_, rfl, hT⟩⟩, fun c1 => ⟨?_, rfl, hT⟩⟩) rfl (Nat.le_of_ble_eq_true rfl) rfl⟩
  · unfold p_X11_fault
    rw [if_neg c1, if_neg c2]
  · unfold p_X11_fault
    rw [if_neg c1, if_pos c2, a2]
    rfl
  · unfold p_X11_fault
    rw [if_pos c1, a1]
    rfl
theorem op_out {G : Gp} {S : zSh} {I : zFI} {L : zFL} {n jn mn tl ln on : Nat} {v1 : Int32} (h : iAll S I n jn mn tl ln on) : zOpI G mX11_out fX11_out lX11_out mX12_out fX12_out lX12_out [.int v1] S I L 0 0 (fun S' I' L' => S' = S ∧ iAll S I' n jn mn tl ln on ∧ zSameJ I L I' L' jn ∧ I' 0 16 = I 0 16) := by
  have hT := h.told (L := L) 0
  obtain ⟨hS, hNow, hTim, hJnt, hMrk, hShn, hTap, hFlt, hCus, hRng, hLea, hOut, hWrd⟩ := h
  obtain ⟨a1, a2, a3, a4⟩ := id hOut
  have hn := znI (n := on) (by omega)
  refine sp_X11_out hS ⟨_, rfl, ZC.of' (vX12_out_0 hS ⟨fun c1 => ⟨?_, rfl, hT⟩, fun c1 => ⟨?_, ?_, rfl, hT⟩⟩) rfl (Nat.le_of_ble_eq_true rfl) rfl⟩
  · rw [isIn_0, a3] at c1
    unfold p_X11_out
    split
    · rfl
    · split
      · rfl
      · rename_i b1 b2
        rw [a1] at b2
        exfalso
        have := zlt.mp (Int32.not_le.mp b2)
        refine c1 ⟨Int32.not_lt.mp b1, ?_⟩
        rw [zle, zsub] <;> rw [hn, show (1 : Int32).toInt = 1 from rfl] <;> omega
  · rw [isIn_0, a3, Classical.not_not] at c1
    refine zvin (m := 400) rfl c1.1 ?_
    have := zle.mp c1.2
    rw [zsub (by rw [hn, show (1 : Int32).toInt = 1 from rfl]; omega) (by rw [hn, show (1 : Int32).toInt = 1 from rfl]; omega), hn, show (1 : Int32).toInt = 1 from rfl] at this
    rw [zlt, show (400 : Int32).toInt = 400 from rfl]
    omega
  · rw [isIn_0, a3, Classical.not_not] at c1
    have h2 := zle.mp c1.2
    have h0 := zle.mp c1.1
    rw [show (0 : Int32).toInt = 0 from rfl] at h0
    rw [zsub (by rw [hn, show (1 : Int32).toInt = 1 from rfl]; omega) (by rw [hn, show (1 : Int32).toInt = 1 from rfl]; omega), hn, show (1 : Int32).toInt = 1 from rfl] at h2
    unfold p_X11_out
    rw [if_neg (Int32.not_lt.mpr c1.1), a1, if_neg (by rw [Int32.not_le, zlt, hn]; omega), if_neg (by rw [Int32.not_le, zlt, show (200 : Int32).toInt = 200 from rfl]; omega)]
    rw [a4 _ (by rw [zc_eq]; omega)]
theorem op_master {G : Gp} {S : zSh} {I : zFI} {L : zFL} {n jn mn tl ln on : Nat} {v1 v2 : Int32} (h : iAll S I n jn mn tl ln on) : zOpI G mX11_master fX11_master lX11_master mX12_master fX12_master lX12_master [.int v1, .int v2] S I L 0 0 (fun S' I' L' => S' = S ∧ iAll S I' n jn mn tl ln on ∧ zSameJ I L I' L' jn ∧ I' 0 16 = I 0 16) := by
  have hT := h.told (L := L) 0
  obtain ⟨hS, hNow, hTim, hJnt, hMrk, hShn, hTap, hFlt, hCus, hRng, hLea, hOut, hWrd⟩ := h
  obtain ⟨a1, a2⟩ := id hRng
  refine ZC.of' (vX11_master_0 hS (ZC.of' (vX8_tellMaster_0 hS ⟨fun c1 => ?_, fun c1 => ⟨fun c2 => ?_, fun c2 => ⟨fun c3 => ?_, fun c3 => ⟨fun c4 => ?_, fun c4 => ?_⟩⟩⟩⟩) rfl (Nat.le_of_ble_eq_true rfl) rfl)) rfl (Nat.le_of_ble_eq_true rfl) rfl
  · refine ⟨_, rfl, rfl, rfl, _, rfl, ZC.of' (vX12_master_0 hS ⟨fun hc => ⟨rfl, rfl, hT⟩, fun hc => ?_⟩) rfl (Nat.le_of_ble_eq_true rfl) rfl⟩
    exfalso
    grind [p_X12_isIn]
  · refine ⟨_, rfl, rfl, rfl, _, rfl, ZC.of' (vX12_master_0 hS ⟨fun hc => ⟨rfl, rfl, hT⟩, fun hc => ?_⟩) rfl (Nat.le_of_ble_eq_true rfl) rfl⟩
    exfalso
    grind [p_X12_isIn]
  · refine ⟨_, rfl, rfl, rfl, _, rfl, ZC.of' (vX12_master_0 hS ⟨fun hc => ⟨rfl, rfl, hT⟩, fun hc => ⟨fun hd => ?_, fun hd => ⟨rfl, rfl, hT⟩⟩⟩) rfl (Nat.le_of_ble_eq_true rfl) rfl⟩
    exfalso
    grind [p_X12_isIn]
  · have hv : vp_in v1 200 := zvin (m := 200) rfl (Int32.not_lt.mp c1) (Int32.not_le.mp c2)
    refine ⟨hv, _, rfl, rfl, rfl, _, rfl, ZC.of' (vX12_master_0 hS ⟨fun hc => ?_, fun hc => ⟨fun hd => ⟨fun he => ⟨hv, rfl, rfl, ⟨hS, hNow.fr rfl rfl rfl rfl, hTim.fr (Int32.le_refl _) rfl rfl rfl rfl rfl rfl rfl rfl, hJnt.fr (Int32.le_refl _) (Int32.le_refl _) rfl rfl rfl rfl rfl rfl rfl rfl rfl rfl rfl rfl rfl, hMrk.fr (Int32.le_refl _) (Int32.le_refl _) rfl rfl rfl rfl rfl rfl rfl rfl rfl rfl rfl rfl, hShn.fr rfl rfl rfl rfl, hTap.fr rfl rfl rfl rfl, hFlt.fr rfl rfl rfl rfl, hCus.fr hS rfl rfl rfl rfl, ⟨fun y hy => ?_, a2⟩, hLea.fr (Int32.le_refl _) (Int32.le_refl _) rfl rfl rfl rfl rfl rfl rfl rfl rfl rfl, hOut.fr rfl rfl rfl rfl, hWrd.fr rfl⟩, zSameJ.of_rows rfl (fun a ha => by rw [← u2_row _ _ _ _ (show a ≠ 131 by omega), ← u2_row _ _ _ _ (show a ≠ 132 by omega), ← u2_row _ _ _ _ (show a ≠ 84 by omega), ← u2_row _ _ _ _ (show a ≠ 68 by omega)]), rfl⟩, fun he => ⟨hv, rfl, rfl, ⟨hS, hNow.fr rfl rfl rfl rfl, hTim.fr (Int32.le_refl _) rfl rfl rfl rfl rfl rfl rfl rfl, hJnt.fr (Int32.le_refl _) (Int32.le_refl _) rfl rfl rfl rfl rfl rfl rfl rfl rfl rfl rfl rfl rfl, hMrk.fr (Int32.le_refl _) (Int32.le_refl _) rfl rfl rfl rfl rfl rfl rfl rfl rfl rfl rfl rfl, hShn.fr rfl rfl rfl rfl, hTap.fr rfl rfl rfl rfl, hFlt.fr rfl rfl rfl rfl, hCus.fr hS rfl rfl rfl rfl, ⟨fun y hy => ?_, a2⟩, hLea.fr (Int32.le_refl _) (Int32.le_refl _) rfl rfl rfl rfl rfl rfl rfl rfl rfl rfl, hOut.fr rfl rfl rfl rfl, hWrd.fr rfl⟩, zSameJ.of_rows rfl (fun a ha => by rw [← u2_row _ _ _ _ (show a ≠ 131 by omega), ← u2_row _ _ _ _ (show a ≠ 132 by omega), ← u2_row _ _ _ _ (show a ≠ 84 by omega), ← u2_row _ _ _ _ (show a ≠ 68 by omega)]), rfl⟩⟩, fun hd => ?_⟩⟩) rfl (Nat.le_of_ble_eq_true rfl) rfl⟩
    · exfalso
      grind [p_X12_isIn]
    · have b := a1 y hy
      by_cases hyv : y = v1.toNatClampNeg
      · subst hyv
        simp [u2, he]
      · simpa [u2, hyv] using b
    · have b := a1 y hy
      by_cases hyv : y = v1.toNatClampNeg
      · subst hyv
        simp only [u2, and_self, if_true]
        simp [he, Int32.not_lt.mp c3, c4]
      · simpa [u2, hyv] using b
    · exfalso
      grind [p_X12_isIn]
  · refine ⟨_, rfl, rfl, rfl, _, rfl, ZC.of' (vX12_master_0 hS ⟨fun hc => ⟨rfl, rfl, hT⟩, fun hc => ⟨fun hd => ?_, fun hd => ⟨rfl, rfl, hT⟩⟩⟩) rfl (Nat.le_of_ble_eq_true rfl) rfl⟩
    exfalso
    grind [p_X12_isIn]
