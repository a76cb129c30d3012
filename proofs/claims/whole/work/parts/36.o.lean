theorem zi_of {v : Int32} {n N : Nat} (h : 0 ≤ v ∧ v < nI n) (hn : n ≤ N) (hN : N < 2147483648) : ∃ t, t < n ∧ v = nI t ∧ v.toNatClampNeg = t := by
  obtain ⟨t, h1, h2⟩ := zof h.1
  have := zlt.mp h.2
  rw [h2, znI h1, znI (by omega)] at this
  exact ⟨t, by omega, h2, by rw [h2, znIc h1]⟩
theorem zi_le {v : Int32} {n : Nat} (h0 : 0 ≤ v) (h : v ≤ nI n) (hn : n < 2147483648) : ∃ t, t ≤ n ∧ v = nI t ∧ v.toNatClampNeg = t := by
  obtain ⟨t, h1, h2⟩ := zof h0
  have := zle.mp h
  rw [h2, znI h1, znI (by omega)] at this
  exact ⟨t, by omega, h2, by rw [h2, znIc h1]⟩
theorem nI_ne {a b : Nat} (ha : a < 2147483648) (hb : b < 2147483648) : ¬ nI a = nI b ↔ a ≠ b := by
  rw [zeq, znI ha, znI hb]
  omega
theorem op_ring {G : Gp} {S : zSh} {I : zFI} {L : zFL} {n jn mn tl ln on : Nat} {v1 v2 : Int32} (h : iAll S I n jn mn tl ln on) : zOpI G mX11_ring fX11_ring lX11_ring mX12_ring fX12_ring lX12_ring [.int v1, .int v2] S I L 0 0 (fun S' I' L' => S' = S ∧ iAll S I' n jn mn tl ln on ∧ zSameJ I L I' L' jn ∧ I' 0 16 = I 0 16) := by
  have hT := h.told (L := L) 0
  obtain ⟨hS, hNow, hTim, hJnt, hMrk, hShn, hTap, hFlt, hCus, hRng, hLea, hOut, hWrd⟩ := h
  obtain ⟨a1, a2, a3, -⟩ := id hTim
  obtain ⟨r1, r2⟩ := id hRng
  have m1 : p_X12_isIn v1 0 (I 84 3 - 1) = 0 ↔ ¬ (0 ≤ v1 ∧ v1 < nI n) := by rw [a3]; exact isIn_n (by omega)
  refine ZC.of' (vX11_ring_0 hS ⟨fun c0 => ?_, fun c0 => ?_⟩) rfl (Nat.le_of_ble_eq_true rfl) rfl
  · rw [hasT_0 a1 a2] at c0
    refine ⟨_, rfl, ZC.of' (vX12_ring_0 hS ⟨fun hc => ⟨rfl, rfl, hT⟩, fun hc => ?_⟩) rfl (Nat.le_of_ble_eq_true rfl) rfl⟩
    exact absurd (m1.mpr c0) hc
  · rw [hasT_0 a1 a2, Classical.not_not] at c0
    obtain ⟨t, t1, t2, t3⟩ := zi_of c0 a2 (by decide)
    have c0' : ¬ p_X12_isIn v1 0 (I 84 3 - 1) = 0 := fun q => m1.mp q c0
    have hv : vp_in v1 16 := by rw [t2]; exact znIin (by omega) (by decide)
    obtain ⟨b1, b2, b3, b4, b5, b6, b7, b8, b9⟩ := r2 t (by omega)
    obtain ⟨q, q1, q2, q3⟩ := zi_le (n := 24) b2 b3 (by decide)
    refine ZC.of' (vX8_addRing_0 hS ⟨fun c1 => ?_, fun c1 => ⟨fun c2 => ?_, fun c2 => ⟨fun c3 => ?_, fun c3 => ⟨fun c4 => ?_, fun c4 => ⟨hv, fun c5 => ?_, fun c5 => ?_⟩⟩⟩⟩⟩) rfl (Nat.le_of_ble_eq_true rfl) rfl
    · exact absurd c0.1 (Int32.not_le.mpr c1)
    · exfalso
      rw [t2, zle, znI (by omega), show (16 : Int32).toInt = 16 from rfl] at c2
      omega
    · refine ⟨_, rfl, rfl, _, rfl, ZC.of' (vX12_ring_0 hS ⟨fun hc => ⟨rfl, rfl, hT⟩, fun hc => ⟨fun hd => ⟨rfl, rfl, hT⟩, fun hd => ?_⟩⟩) rfl (Nat.le_of_ble_eq_true rfl) rfl⟩
      exfalso
      grind [p_X12_isIn]
    · refine ⟨_, rfl, rfl, _, rfl, ZC.of' (vX12_ring_0 hS ⟨fun hc => ⟨rfl, rfl, hT⟩, fun hc => ⟨fun hd => ⟨rfl, rfl, hT⟩, fun hd => ?_⟩⟩) rfl (Nat.le_of_ble_eq_true rfl) rfl⟩
      exfalso
      grind [p_X12_isIn]
    · rw [t3, q2, zlt, znI (by omega), show (24 : Int32).toInt = 24 from rfl] at c5
      have e1 : v1 * 24 + I 69 v1.toNatClampNeg = nI (24 * t + q) := by
        rw [t3, q2, t2, show (24 : Int32) = nI 24 from rfl, pk_mul, nI_add, Nat.mul_comm]
      have e2 : (24 : Int32) * v1 + I 89 v1.toNatClampNeg = nI (24 * t + q) := by
        rw [t3, b1, q2, t2, show (24 : Int32) = nI 24 from rfl, pk_mul, nI_add]
      have hx : (nI (24 * t + q)).toNatClampNeg = 24 * t + q := znIc (by omega)
      refine ⟨by rw [e1]; exact znIin (by omega) (by decide), _, rfl, rfl, _, rfl, ZC.of' (vX12_ring_0 hS ⟨fun hc => absurd hc c0', fun _ => ⟨fun hc => ?_, fun _ => ⟨hv, fun hd => ⟨?_, ?_, rfl, ⟨hS, hNow.fr rfl rfl rfl rfl, hTim.fr (Int32.le_refl _) rfl rfl rfl rfl rfl rfl rfl rfl, hJnt.fr (Int32.le_refl _) (Int32.le_refl _) rfl rfl rfl rfl rfl rfl rfl rfl rfl rfl rfl rfl rfl, hMrk.fr (Int32.le_refl _) (Int32.le_refl _) rfl rfl rfl rfl rfl rfl rfl rfl rfl rfl rfl rfl, hShn.fr rfl rfl rfl rfl, hTap.fr rfl rfl rfl rfl, hFlt.fr rfl rfl rfl rfl, hCus.fr hS rfl rfl rfl rfl, ?_, hLea.fr (Int32.le_refl _) (Int32.le_refl _) rfl rfl rfl rfl rfl rfl rfl rfl rfl rfl, hOut.fr rfl rfl rfl rfl, hWrd.fr rfl⟩, zSameJ.of_rows rfl (fun a ha => by rw [← u2_row _ _ _ _ (show a ≠ 89 by omega), ← u2_row _ _ _ _ (show a ≠ 91 by omega), ← u2_row _ _ _ _ (show a ≠ 90 by omega), ← u2_row _ _ _ _ (show a ≠ 84 by omega), ← u2_row _ _ _ _ (show a ≠ 69 by omega), ← u2_row _ _ _ _ (show a ≠ 71 by omega), ← u2_row _ _ _ _ (show a ≠ 70 by omega)]), rfl⟩, fun hd => ?_⟩⟩⟩) rfl (Nat.le_of_ble_eq_true rfl) rfl⟩
      · exfalso
        grind [p_X12_isIn]
      · show vp_in (24 * v1 + I 89 v1.toNatClampNeg) 384
        rw [e2]
        exact znIin (by omega) (by decide)
      · show some (Value.int (u2 _ 89 v1.toNatClampNeg (I 89 v1.toNatClampNeg + 1) 89 v1.toNatClampNeg)) = some (Value.int (u2 _ 69 v1.toNatClampNeg (I 69 v1.toNatClampNeg + 1) 69 v1.toNatClampNeg))
        rw [u2_same, u2_same, t3, b1]
      · refine ⟨r1, fun s hs => ?_⟩
        show u2 I 89 v1.toNatClampNeg (I 89 v1.toNatClampNeg + 1) 89 s = u2 I 69 v1.toNatClampNeg (I 69 v1.toNatClampNeg + 1) 69 s ∧ 0 ≤ u2 I 69 v1.toNatClampNeg (I 69 v1.toNatClampNeg + 1) 69 s ∧ u2 I 69 v1.toNatClampNeg (I 69 v1.toNatClampNeg + 1) 69 s ≤ 24 ∧ I 92 s = I 72 s ∧ 0 ≤ I 72 s ∧ I 72 s ≤ 24 ∧ I 93 s = I 73 s ∧ (I 73 s = 0 ∨ I 73 s = 1) ∧
          ∀ i : Nat, nI i < u2 I 69 v1.toNatClampNeg (I 69 v1.toNatClampNeg + 1) 69 s → i < 24 → u2 I 90 (24 * v1 + I 89 v1.toNatClampNeg).toNatClampNeg v2 90 (24 * s + i) = u2 I 70 (v1 * 24 + I 69 v1.toNatClampNeg).toNatClampNeg v2 70 (24 * s + i) ∧ u2 I 91 (24 * v1 + I 89 v1.toNatClampNeg).toNatClampNeg (I 84 1) 91 (24 * s + i) = u2 I 71 (v1 * 24 + I 69 v1.toNatClampNeg).toNatClampNeg (I 0 14) 71 (24 * s + i) ∧ 0 ≤ u2 I 70 (v1 * 24 + I 69 v1.toNatClampNeg).toNatClampNeg v2 70 (24 * s + i) ∧ u2 I 70 (v1 * 24 + I 69 v1.toNatClampNeg).toNatClampNeg v2 70 (24 * s + i) ≤ 99 ∧ 0 ≤ u2 I 71 (v1 * 24 + I 69 v1.toNatClampNeg).toNatClampNeg (I 0 14) 71 (24 * s + i) ∧ u2 I 71 (v1 * 24 + I 69 v1.toNatClampNeg).toNatClampNeg (I 0 14) 71 (24 * s + i) ≤ I 0 14
        rw [e1, e2, hx, t3]
        obtain ⟨d1, d2, d3, d4, d5, d6, d7, d8, d9⟩ := r2 s hs
        by_cases hst : s = t
        · subst hst
          rw [u2_same, u2_same, b1, q2, nI_1]
          refine ⟨rfl, nI_pos' (by omega), nI_le (b := 24) (by omega) (by omega), d4, d5, d6, d7, d8, fun i hi hi2 => ?_⟩
          have hi3 : i < q + 1 := by
            rw [zlt, znI (by omega), znI (by omega)] at hi
            omega
          by_cases hiq : i = q
          · subst hiq
            rw [u2_same, u2_same, u2_same, u2_same]
            exact ⟨rfl, hNow.2.2.2.2.1, Int32.not_lt.mp c3, Int32.not_lt.mp c4, hNow.1, Int32.le_refl _⟩
          · have hne : ¬ 24 * s + i = 24 * s + q := by omega
            rw [u2_ne _ _ _ _ (fun q => hne q.2), u2_ne _ _ _ _ (fun q => hne q.2), u2_ne _ _ _ _ (fun q => hne q.2), u2_ne _ _ _ _ (fun q => hne q.2)]
            exact d9 i (by rw [q2]; exact nI_lt (by omega) (by omega)) hi2
        · rw [u2_ne _ _ _ _ (fun q => hst q.2), u2_ne _ _ _ _ (fun q => hst q.2)]
          refine ⟨d1, d2, d3, d4, d5, d6, d7, d8, fun i hi hi2 => ?_⟩
          have hne : ¬ 24 * s + i = 24 * t + q := by omega
          rw [u2_ne _ _ _ _ (fun q => hne q.2), u2_ne _ _ _ _ (fun q => hne q.2), u2_ne _ _ _ _ (fun q => hne q.2), u2_ne _ _ _ _ (fun q => hne q.2)]
          exact d9 i hi hi2
      · exfalso
        have hd : I 89 v1.toNatClampNeg = 24 := hd
        rw [t3, b1, q2, show (24 : Int32) = nI 24 from rfl, zeq, znI (by omega), znI (by omega)] at hd
        omega
    · rw [t3, q2, zlt, znI (by omega), show (24 : Int32).toInt = 24 from rfl] at c5
      refine ⟨_, rfl, rfl, _, rfl, ZC.of' (vX12_ring_0 hS ⟨fun hc => ⟨rfl, rfl, hT⟩, fun hc => ⟨fun hd => ⟨rfl, rfl, hT⟩, fun hd => ⟨hv, fun he => ?_, fun he => ⟨rfl, rfl, hT⟩⟩⟩⟩) rfl (Nat.le_of_ble_eq_true rfl) rfl⟩
      exfalso
      have he : ¬ I 89 v1.toNatClampNeg = 24 := he
      rw [t3, b1, q2, show q = 24 by omega] at he
      exact he rfl
theorem op_sap {G : Gp} {S : zSh} {I : zFI} {L : zFL} {n jn mn tl ln on : Nat} {v1 v2 v3 : Int32} (h : iAll S I n jn mn tl ln on) (h3 : v3 = 0 ∨ v3 = 1) : zOpI G mX11_sap fX11_sap lX11_sap mX12_sap fX12_sap lX12_sap [.int v1, .int v2, .int v3] S I L 0 0 (fun S' I' L' => S' = S ∧ iAll S I' n jn mn tl ln on ∧ zSameJ I L I' L' jn ∧ I' 0 16 = I 0 16) := by
  have hT := h.told (L := L) 0
  obtain ⟨hS, hNow, hTim, hJnt, hMrk, hShn, hTap, hFlt, hCus, hRng, hLea, hOut, hWrd⟩ := h
  obtain ⟨a1, a2, a3, -⟩ := id hTim
  obtain ⟨r1, r2⟩ := id hRng
  have m1 : p_X12_isIn v1 0 (I 84 3 - 1) = 0 ↔ ¬ (0 ≤ v1 ∧ v1 < nI n) := by rw [a3]; exact isIn_n (by omega)
  refine ZC.of' (vX11_sap_0 hS ⟨fun c0 => ?_, fun c0 => ?_⟩) rfl (Nat.le_of_ble_eq_true rfl) rfl
  · rw [hasT_0 a1 a2] at c0
    refine ⟨_, rfl, ZC.of' (vX12_sap_0 hS ⟨fun hc => ⟨rfl, rfl, hT⟩, fun hc => ?_⟩) rfl (Nat.le_of_ble_eq_true rfl) rfl⟩
    exact absurd (m1.mpr c0) hc
  · rw [hasT_0 a1 a2, Classical.not_not] at c0
    obtain ⟨t, t1, t2, t3⟩ := zi_of c0 a2 (by decide)
    have c0' : ¬ p_X12_isIn v1 0 (I 84 3 - 1) = 0 := fun q => m1.mp q c0
    have hv : vp_in v1 16 := by rw [t2]; exact znIin (by omega) (by decide)
    refine ZC.of' (vX8_tellSap_0 hS ⟨fun c1 => ?_, fun c1 => ⟨fun c2 => ?_, fun c2 => ⟨fun c3 => ?_, fun c3 => ⟨fun c4 => ?_, fun c4 => ?_⟩⟩⟩⟩) rfl (Nat.le_of_ble_eq_true rfl) rfl
    · exact absurd c0.1 (Int32.not_le.mpr c1)
    · exfalso
      rw [t2, zle, znI (by omega), show (16 : Int32).toInt = 16 from rfl] at c2
      omega
    · refine ⟨_, rfl, rfl, ⟨fun _ => ⟨_, rfl, ZC.of' (vX12_sap_0 hS ⟨fun hc => ⟨rfl, rfl, hT⟩, fun hc => ⟨fun hd => ?_, fun hd => ⟨rfl, rfl, hT⟩⟩⟩) rfl (Nat.le_of_ble_eq_true rfl) rfl⟩, fun q => absurd rfl q⟩⟩
      exfalso
      grind [p_X12_isIn]
    · refine ⟨hv, zb01n h3, _, rfl, rfl, ⟨fun q => absurd q (by decide), fun _ => ⟨_, rfl, ZC.of' (vX12_sap_0 hS ⟨fun hc => absurd hc c0', fun _ => ⟨fun hd => ⟨hv, zb01n h3, rfl, rfl, ⟨hS, hNow.fr rfl rfl rfl rfl, hTim.fr (Int32.le_refl _) rfl rfl rfl rfl rfl rfl rfl rfl, hJnt.fr (Int32.le_refl _) (Int32.le_refl _) rfl rfl rfl rfl rfl rfl rfl rfl rfl rfl rfl rfl rfl, hMrk.fr (Int32.le_refl _) (Int32.le_refl _) rfl rfl rfl rfl rfl rfl rfl rfl rfl rfl rfl rfl, hShn.fr rfl rfl rfl rfl, hTap.fr rfl rfl rfl rfl, hFlt.fr rfl rfl rfl rfl, hCus.fr hS rfl rfl rfl rfl, ⟨r1, fun s hs => ?_⟩, hLea.fr (Int32.le_refl _) (Int32.le_refl _) rfl rfl rfl rfl rfl rfl rfl rfl rfl rfl, hOut.fr rfl rfl rfl rfl, hWrd.fr rfl⟩, zSameJ.of_rows rfl (fun a ha => by rw [← u2_row _ _ _ _ (show a ≠ 93 by omega), ← u2_row _ _ _ _ (show a ≠ 92 by omega), ← u2_row _ _ _ _ (show a ≠ 84 by omega), ← u2_row _ _ _ _ (show a ≠ 73 by omega), ← u2_row _ _ _ _ (show a ≠ 72 by omega)]), rfl⟩, fun hd => ?_⟩⟩) rfl (Nat.le_of_ble_eq_true rfl) rfl⟩⟩⟩
      · show I 89 s = I 69 s ∧ 0 ≤ I 69 s ∧ I 69 s ≤ 24 ∧ u2 I 92 v1.toNatClampNeg v2 92 s = u2 I 72 v1.toNatClampNeg v2 72 s ∧ 0 ≤ u2 I 72 v1.toNatClampNeg v2 72 s ∧ u2 I 72 v1.toNatClampNeg v2 72 s ≤ 24 ∧ u2 I 93 v1.toNatClampNeg v3 93 s = u2 I 73 v1.toNatClampNeg v3 73 s ∧ (u2 I 73 v1.toNatClampNeg v3 73 s = 0 ∨ u2 I 73 v1.toNatClampNeg v3 73 s = 1) ∧ _
        obtain ⟨d1, d2, d3, d4, d5, d6, d7, d8, d9⟩ := r2 s hs
        by_cases hst : s = v1.toNatClampNeg
        · subst hst
          rw [u2_same, u2_same, u2_same, u2_same]
          exact ⟨d1, d2, d3, rfl, Int32.not_lt.mp c3, c4, rfl, h3, d9⟩
        · rw [u2_ne _ _ _ _ (fun q => hst q.2), u2_ne _ _ _ _ (fun q => hst q.2), u2_ne _ _ _ _ (fun q => hst q.2), u2_ne _ _ _ _ (fun q => hst q.2)]
          exact ⟨d1, d2, d3, d4, d5, d6, d7, d8, d9⟩
      · exfalso
        grind [p_X12_isIn]
    · refine ⟨_, rfl, rfl, ⟨fun _ => ⟨_, rfl, ZC.of' (vX12_sap_0 hS ⟨fun hc => ⟨rfl, rfl, hT⟩, fun hc => ⟨fun hd => ?_, fun hd => ⟨rfl, rfl, hT⟩⟩⟩) rfl (Nat.le_of_ble_eq_true rfl) rfl⟩, fun q => absurd rfl q⟩⟩
      exfalso
      grind [p_X12_isIn]
theorem op_lean {G : Gp} {S : zSh} {I : zFI} {L : zFL} {n jn mn tl ln on : Nat} {v1 v2 v3 : Int32} (h : iAll S I n jn mn tl ln on) : zOpI G mX11_lean fX11_lean lX11_lean mX12_lean fX12_lean lX12_lean [.int v1, .int v2, .int v3] S I L 0 0 (fun S' I' L' => S' = S ∧ (∃ ln', iAll S I' n jn mn tl ln' on) ∧ zSameJ I L I' L' jn ∧ I' 0 16 = I 0 16) := by
  have hT0 := h.told (L := L) 0
  have hT : (∃ ln', iAll S (u2 I 84 0 0) n jn mn tl ln' on) ∧ zSameJ I L (u2 I 84 0 0) L jn ∧ u2 I 84 0 0 0 16 = I 0 16 := ⟨⟨_, hT0.1⟩, hT0.2⟩
  obtain ⟨hS, hNow, hTim, hJnt, hMrk, hShn, hTap, hFlt, hCus, hRng, hLea, hOut, hWrd⟩ := h
  obtain ⟨a1, a2, a3, -⟩ := id hTim
  obtain ⟨l1, l2, l3, l4⟩ := id hLea
  have m1 : p_X12_isIn v1 0 (I 84 3 - 1) = 0 ↔ ¬ (0 ≤ v1 ∧ v1 < nI n) := by rw [a3]; exact isIn_n (by omega)
  refine ZC.of' (vX11_lean_0 hS ⟨fun c0 => ?_, fun c0 => ?_⟩) rfl (Nat.le_of_ble_eq_true rfl) rfl
  · rw [hasT_0 a1 a2] at c0
    refine ⟨_, rfl, ZC.of' (vX12_lean_0 hS ⟨fun hc => ⟨rfl, rfl, hT⟩, fun hc => ?_⟩) rfl (Nat.le_of_ble_eq_true rfl) rfl⟩
    exact absurd (m1.mpr c0) hc
  · rw [hasT_0 a1 a2, Classical.not_not] at c0
    have c0' : ¬ p_X12_isIn v1 0 (I 84 3 - 1) = 0 := fun q => m1.mp q c0
    refine ZC.of' (vX5_tell_0 hS ⟨fun c1 => ?_, fun c1 => ⟨fun c2 => ?_, fun c2 => ⟨fun c3 => ?_, fun c3 => ⟨fun c4 => ?_, fun c4 => ⟨fun c5 => ?_, fun c5 => ?_⟩⟩⟩⟩⟩) rfl (Nat.le_of_ble_eq_true rfl) rfl
    · refine ⟨_, rfl, rfl, ⟨fun _ => ⟨_, rfl, ZC.of' (vX12_lean_0 hS ⟨fun hc => ⟨rfl, rfl, hT⟩, fun hc => ⟨fun hd => ⟨rfl, rfl, hT⟩, fun hd => ?_⟩⟩) rfl (Nat.le_of_ble_eq_true rfl) rfl⟩, fun q => absurd rfl q⟩⟩
      exfalso
      grind [p_X12_isIn]
    · refine ⟨_, rfl, rfl, ⟨fun _ => ⟨_, rfl, ZC.of' (vX12_lean_0 hS ⟨fun hc => ⟨rfl, rfl, hT⟩, fun hc => ⟨fun hd => ⟨rfl, rfl, hT⟩, fun hd => ?_⟩⟩) rfl (Nat.le_of_ble_eq_true rfl) rfl⟩, fun q => absurd rfl q⟩⟩
      exfalso
      grind [p_X12_isIn]
    · refine ⟨_, rfl, rfl, ⟨fun _ => ⟨_, rfl, ZC.of' (vX12_lean_0 hS ⟨fun hc => ⟨rfl, rfl, hT⟩, fun hc => ⟨fun hd => ⟨rfl, rfl, hT⟩, fun hd => ⟨fun he => ⟨rfl, rfl, hT⟩, fun he => ?_⟩⟩⟩) rfl (Nat.le_of_ble_eq_true rfl) rfl⟩, fun q => absurd rfl q⟩⟩
      exfalso
      grind [p_X12_isIn]
    · refine ⟨_, rfl, rfl, ⟨fun _ => ⟨_, rfl, ZC.of' (vX12_lean_0 hS ⟨fun hc => ⟨rfl, rfl, hT⟩, fun hc => ⟨fun hd => ⟨rfl, rfl, hT⟩, fun hd => ⟨fun he => ⟨rfl, rfl, hT⟩, fun he => ?_⟩⟩⟩) rfl (Nat.le_of_ble_eq_true rfl) rfl⟩, fun q => absurd rfl q⟩⟩
      exfalso
      grind [p_X12_isIn]
    · have hn : ln < 60 := by
        rw [l1, zlt, znI (by omega), show (60 : Int32).toInt = 60 from rfl] at c5
        omega
      obtain ⟨e1, e2⟩ := zsucc (n := ln) (by omega)
      refine ⟨by rw [l1]; exact znIin hn (by decide), _, rfl, rfl, ⟨fun q => absurd q (by decide), fun _ => ⟨_, rfl, ZC.of' (vX12_lean_0 hS ⟨fun hc => absurd hc c0', fun _ => ⟨fun hd => ?_, fun _ => ⟨fun hd => ?_, fun _ => ⟨fun hd => ⟨?_, rfl, rfl, ⟨ln + 1, hS, hNow.fr rfl rfl rfl rfl, hTim.fr (Int32.le_refl _) rfl rfl rfl rfl rfl rfl rfl rfl, hJnt.fr (Int32.le_refl _) (Int32.le_refl _) rfl rfl rfl rfl rfl rfl rfl rfl rfl rfl rfl rfl rfl, hMrk.fr (Int32.le_refl _) (Int32.le_refl _) rfl rfl rfl rfl rfl rfl rfl rfl rfl rfl rfl rfl, hShn.fr rfl rfl rfl rfl, hTap.fr rfl rfl rfl rfl, hFlt.fr rfl rfl rfl rfl, hCus.fr hS rfl rfl rfl rfl, hRng.fr (Int32.le_refl _) rfl rfl rfl rfl rfl rfl rfl rfl rfl rfl rfl rfl rfl, ?_, hOut.fr rfl rfl rfl rfl, hWrd.fr rfl⟩, zSameJ.of_rows rfl (fun a ha => by rw [← u2_row _ _ _ _ (show a ≠ 84 by omega), ← u2_row _ _ _ _ (show a ≠ 137 by omega), ← u2_row _ _ _ _ (show a ≠ 136 by omega), ← u2_row _ _ _ _ (show a ≠ 135 by omega), ← u2_row _ _ _ _ (show a ≠ 134 by omega), ← u2_row _ _ _ _ (show a ≠ 84 by omega), ← u2_row _ _ _ _ (show a ≠ 77 by omega), ← u2_row _ _ _ _ (show a ≠ 81 by omega), ← u2_row _ _ _ _ (show a ≠ 80 by omega), ← u2_row _ _ _ _ (show a ≠ 79 by omega), ← u2_row _ _ _ _ (show a ≠ 78 by omega)]), rfl⟩, fun hd => ?_⟩⟩⟩⟩) rfl (Nat.le_of_ble_eq_true rfl) rfl⟩⟩⟩
      · exfalso
        grind [p_X12_isIn]
      · exfalso
        grind [p_X12_isIn]
      · show vp_in (I 84 79) 60
        rw [l3]
        exact znIin hn (by decide)
      · show I 77 0 + 1 = nI (ln + 1) ∧ ln + 1 ≤ 60 ∧ I 84 79 + 1 = nI (ln + 1) ∧ ∀ k, k < ln + 1 → u2 I 134 (I 84 79).toNatClampNeg v1 134 k = u2 I 78 (I 77 0).toNatClampNeg v1 78 k ∧ u2 I 135 (I 84 79).toNatClampNeg v2 135 k = u2 I 79 (I 77 0).toNatClampNeg v2 79 k ∧ u2 I 136 (I 84 79).toNatClampNeg v3 136 k = u2 I 80 (I 77 0).toNatClampNeg v3 80 k ∧ u2 I 137 (I 84 79).toNatClampNeg (I 84 1) 137 k = u2 I 81 (I 77 0).toNatClampNeg (I 0 14) 81 k ∧ 0 ≤ u2 I 78 (I 77 0).toNatClampNeg v1 78 k ∧ u2 I 78 (I 77 0).toNatClampNeg v1 78 k < nI n ∧ 0 ≤ u2 I 79 (I 77 0).toNatClampNeg v2 79 k ∧ u2 I 79 (I 77 0).toNatClampNeg v2 79 k ≤ 999 ∧ -99 ≤ u2 I 80 (I 77 0).toNatClampNeg v3 80 k ∧ u2 I 80 (I 77 0).toNatClampNeg v3 80 k ≤ 99 ∧ 0 ≤ u2 I 81 (I 77 0).toNatClampNeg (I 0 14) 81 k ∧ u2 I 81 (I 77 0).toNatClampNeg (I 0 14) 81 k ≤ I 0 14
        rw [l1, l3, e1, e2]
        refine ⟨rfl, by omega, rfl, fun k hk => ?_⟩
        by_cases hkn : k = ln
        · subst hkn
          rw [u2_same, u2_same, u2_same, u2_same, u2_same, u2_same, u2_same, u2_same]
          exact ⟨rfl, rfl, rfl, hNow.2.2.2.2.1, c0.1, c0.2, Int32.not_lt.mp c1, Int32.not_lt.mp c2, Int32.not_lt.mp c3, Int32.not_lt.mp c4, hNow.1, Int32.le_refl _⟩
        · rw [u2_ne _ _ _ _ (fun q => hkn q.2), u2_ne _ _ _ _ (fun q => hkn q.2), u2_ne _ _ _ _ (fun q => hkn q.2), u2_ne _ _ _ _ (fun q => hkn q.2), u2_ne _ _ _ _ (fun q => hkn q.2), u2_ne _ _ _ _ (fun q => hkn q.2), u2_ne _ _ _ _ (fun q => hkn q.2), u2_ne _ _ _ _ (fun q => hkn q.2)]
          exact l4 k (by omega)
      · exfalso
        have hd : I 84 79 = 60 := hd
        rw [l3, show (60 : Int32) = nI 60 from rfl, zeq, znI (by omega), znI (by omega)] at hd
        omega
    · refine ⟨_, rfl, rfl, ⟨fun _ => ⟨_, rfl, ZC.of' (vX12_lean_0 hS ⟨fun hc => ⟨rfl, rfl, hT⟩, fun hc => ⟨fun hd => ⟨rfl, rfl, hT⟩, fun hd => ⟨fun he => ⟨rfl, rfl, hT⟩, fun he => ⟨fun hg => ?_, fun hg => ⟨rfl, rfl, hT⟩⟩⟩⟩⟩) rfl (Nat.le_of_ble_eq_true rfl) rfl⟩, fun q => absurd rfl q⟩⟩
      exfalso
      have hg : ¬ I 84 79 = 60 := hg
      rw [l3] at hg
      rw [l1, zlt, znI (by omega), show (60 : Int32).toInt = 60 from rfl] at c5
      exact hg (by rw [show ln = 60 by omega]; rfl)
