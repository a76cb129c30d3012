theorem hasJ_0 {I : zFI} {jn : Nat} {v : Int32} (h1 : I 10 4 = nI jn) (h2 : jn ≤ 48) : p_X10_hasJoint I v = 0 ↔ ¬ (0 ≤ v ∧ v < nI jn) := by
  unfold p_X10_hasJoint
  rw [h1]
  have h3 : (nI jn).toInt = jn := znI (by omega)
  split
  · rename_i c
    simp only [true_iff]
    exact fun q => absurd q.1 (Int32.not_le.mpr c)
  · split
    · rename_i c1 c
      simp only [true_iff]
      exact fun q => absurd q.2 (Int32.not_lt.mpr c)
    · split
      · rename_i c1 c2 c
        simp only [true_iff]
        intro q
        have a := zlt.mp q.2
        have b := zle.mp c
        rw [show (48 : Int32).toInt = 48 from rfl] at b
        omega
      · rename_i c1 c2 c
        constructor
        · intro q; cases q
        · intro q; exact absurd ⟨Int32.not_lt.mp c1, Int32.not_le.mp c2⟩ q
theorem jRange {I : zFI} {n jn mn k : Nat} (hJ : iJnt I n jn) (hM : iMrk I jn mn) (hk : k < mn) : 0 ≤ I 20 k ∧ I 20 k < 48 := by
  obtain ⟨a1, a2, a3, a4, a5, a6, -⟩ := hM.2.2.2 k hk
  have := hJ.2.1
  have b := zlt.mp a6
  rw [znI (by omega)] at b
  exact ⟨a5, by rw [zlt, show (48 : Int32).toInt = 48 from rfl]; omega⟩
set_option maxHeartbeats 1000000 in
theorem op_view {G : Gp} {S : zSh} {I : zFI} {L : zFL} {n jn mn tl ln on : Nat} {v1 : Int32} (h : iAll S I n jn mn tl ln on) : zOpI G mX11_view fX11_view lX11_view mX12_view fX12_view lX12_view [.int v1] S I L 0 0 (fun S' I' L' => S' = S ∧ iAll S I' n jn mn tl ln on ∧ (I' 0 16 = 1 ∨ (zSameJ I L I' L' jn ∧ I' 0 16 = I 0 16))) := by
  have hT0 := h.told (L := L) 0
  have hT : iAll S (u2 I 84 0 0) n jn mn tl ln on ∧ ((u2 I 84 0 0) 0 16 = 1 ∨ (zSameJ I L (u2 I 84 0 0) L jn ∧ u2 I 84 0 0 0 16 = I 0 16)) := ⟨hT0.1, Or.inr hT0.2⟩
  obtain ⟨hS, hNow, hTim, hJnt, hMrk, hShn, hTap, hFlt, hCus, hRng, hLea, hOut, hWrd⟩ := h
  obtain ⟨n1, n2, n3, n4, n5, n6⟩ := id hNow
  refine ZC.of' (vX11_view_0 hS ⟨fun c1 => ?_, fun c1 => ⟨fun c2 => ?_, fun c2 => ?_⟩⟩) rfl (Nat.le_of_ble_eq_true rfl) rfl
  · refine ⟨_, rfl, ZC.of' (vX12_view_0 hS ⟨fun hc => ?_, fun hc => ⟨rfl, rfl, hT⟩⟩) rfl (Nat.le_of_ble_eq_true rfl) rfl⟩
    exfalso
    rw [isIn_0] at hc
    exact hc (fun q => absurd q.1 (Int32.not_le.mpr c1))
  · refine c_showUpTo hS (n := mn) hMrk.1 hMrk.2.1 (fun k hk => jRange hJnt hMrk hk) (fun I1 g1 g2 => ⟨rfl, rfl, _, rfl, ZC.of' (vX12_view_0 hS ⟨fun hc => ⟨rfl, rfl, ?_, Or.inl rfl⟩, fun hc => ?_⟩) rfl (Nat.le_of_ble_eq_true rfl) rfl⟩)
    · have g1' : ∀ b, b ≠ 25 → b ≠ 0 → I1 b = I b := fun b h1 h2 => (g1 b h1).trans (u2_row _ _ _ _ h2).symm
      have hr : ∀ b, b ∉ ([0, 25, 84] : List Nat) → (u2 (u2 (u2 I1 0 16 1) 84 0 0) 84 2 v1) b = I b := fun b hb => by
        simp only [List.mem_cons, List.mem_nil_iff, or_false, not_or] at hb
        rw [← u2_row _ _ _ _ hb.2.2, ← u2_row _ _ _ _ hb.2.2, ← u2_row _ _ _ _ hb.1]
        exact g1' b hb.2.1 hb.1
      have h84 : ∀ k, k ∉ ([0, 2] : List Nat) → (u2 (u2 (u2 I1 0 16 1) 84 0 0) 84 2 v1) 84 k = I 84 k := fun k hk => by
        simp only [List.mem_cons, List.mem_nil_iff, or_false, not_or] at hk
        rw [u2_ne _ _ _ _ (by omega), u2_ne _ _ _ _ (by omega), u2_ne _ _ _ _ (by omega), g1' 84 (by decide) (by decide)]
      have h0 : ∀ k, k ∉ ([15, 16] : List Nat) → (u2 (u2 (u2 I1 0 16 1) 84 0 0) 84 2 v1) 0 k = I 0 k := fun k hk => by
        simp only [List.mem_cons, List.mem_nil_iff, or_false, not_or] at hk
        rw [u2_ne _ _ _ _ (by omega), u2_ne _ _ _ _ (by omega), u2_ne _ _ _ _ (by omega), g1 0 (by decide), u2_ne _ _ _ _ (by omega)]
      have h15 : (u2 (u2 (u2 I1 0 16 1) 84 0 0) 84 2 v1) 0 15 = v1 := by
        show I1 0 15 = v1
        rw [g1 0 (by decide)]
        rfl
      refine ⟨hS, ⟨by rw [h0 14 (by decide)]; exact n1, by rw [h0 14 (by decide)]; exact n2, by rw [h15]; exact Int32.not_lt.mp c1, by rw [h15, h0 14 (by decide)]; exact c2, by rw [h0 14 (by decide), h84 1 (by decide)]; exact n5, by rw [h15]; rfl⟩, hTim.fr (by rw [h0 14 (by decide)]; exact Int32.le_refl _) (congrFun (hr 10 (by decide)) 0) (h84 3 (by decide)) (hr 11 (by decide)) (hr 12 (by decide)) (hr 13 (by decide)) (hr 85 (by decide)) (hr 86 (by decide)) (hr 87 (by decide)), hJnt.fr (Int32.le_refl _) (by rw [h0 14 (by decide)]; exact Int32.le_refl _) (congrFun (hr 10 (by decide)) 4) (h84 13 (by decide)) (hr 14 (by decide)) (hr 15 (by decide)) (hr 16 (by decide)) (hr 17 (by decide)) (hr 18 (by decide)) (hr 94 (by decide)) (hr 95 (by decide)) (hr 96 (by decide)) (hr 97 (by decide)) (hr 98 (by decide)) (hr 88 (by decide)), hMrk.fr (Int32.le_refl _) (by rw [h0 14 (by decide)]; exact Int32.le_refl _) (congrFun (hr 19 (by decide)) 0) (h84 19 (by decide)) (hr 20 (by decide)) (hr 21 (by decide)) (hr 22 (by decide)) (hr 23 (by decide)) (hr 24 (by decide)) (hr 99 (by decide)) (hr 100 (by decide)) (hr 101 (by decide)) (hr 102 (by decide)) (hr 103 (by decide)), ?_, hTap.fr (congrFun (hr 1 (by decide)) 1) (h84 26 (by decide)) (hr 2 (by decide)) (hr 104 (by decide)), hFlt.fr (h84 36 (by decide)) (h84 37 (by decide)) (congrFun (hr 3 (by decide)) 5) (congrFun (hr 3 (by decide)) 6), hCus.fr hS (hr 8 (by decide)) (hr 9 (by decide)) (hr 83 (by decide)) (hr 105 (by decide)), hRng.fr (by rw [h0 14 (by decide)]; exact Int32.le_refl _) (hr 68 (by decide)) (hr 69 (by decide)) (hr 70 (by decide)) (hr 71 (by decide)) (hr 72 (by decide)) (hr 73 (by decide)) (hr 89 (by decide)) (hr 90 (by decide)) (hr 91 (by decide)) (hr 92 (by decide)) (hr 93 (by decide)) (hr 131 (by decide)) (hr 132 (by decide)), hLea.fr (Int32.le_refl _) (by rw [h0 14 (by decide)]; exact Int32.le_refl _) (congrFun (hr 77 (by decide)) 0) (h84 79 (by decide)) (hr 78 (by decide)) (hr 79 (by decide)) (hr 80 (by decide)) (hr 81 (by decide)) (hr 134 (by decide)) (hr 135 (by decide)) (hr 136 (by decide)) (hr 137 (by decide)), hOut.fr (h0 12 (by decide)) (h84 90 (by decide)) (hr 82 (by decide)) (hr 138 (by decide)), hWrd.fr (hr 106 (by decide))⟩
      intro j hj
      have e25 : (u2 (u2 (u2 I1 0 16 1) 84 0 0) 84 2 v1) 25 j = I1 25 j := rfl
      rw [e25, g2 j hj]
      refine zlate_congr (fun k hk => ?_)
      rw [hr 20 (by decide), hr 21 (by decide)]
      have e : p_X11_lastDaySeen (u2 (u2 (u2 I1 0 16 1) 84 0 0) 84 2 v1) = p_X11_lastDaySeen (u2 I 0 15 v1) := by
        unfold p_X11_lastDaySeen
        rw [h15]
        rfl
      rw [e]
      rfl
    · exfalso
      have e : (u2 I1 0 16 1) 84 1 = I 0 14 := by
        show I1 84 1 = I 0 14
        rw [g1 84 (by decide)]
        exact n5
      rw [e, isIn_0] at hc
      exact hc ⟨Int32.not_lt.mp c1, c2⟩
  · refine ⟨_, rfl, ZC.of' (vX12_view_0 hS ⟨fun hc => ?_, fun hc => ⟨rfl, rfl, hT⟩⟩) rfl (Nat.le_of_ble_eq_true rfl) rfl⟩
    exfalso
    have hc : ¬ p_X12_isIn v1 (-1) (I 84 1) = 0 := hc
    rw [n5, isIn_0] at hc
    exact hc (fun q => c2 q.2)
