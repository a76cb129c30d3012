theorem hasT_0 {I : zFI} {n : Nat} {v : Int32} (h1 : I 10 0 = nI n) (h2 : n ≤ 16) : p_X10_hasTimber I v = 0 ↔ ¬ (0 ≤ v ∧ v < nI n) := by
  unfold p_X10_hasTimber
  rw [h1]
  have h3 : (nI n).toInt = n := znI (by omega)
  split
  · rename_i c
    simp only [true_iff]
    exact fun q => absurd q.1 (Int32.not_le.mpr c)
  · split
    · rename_i c1 c
      simp only [true_iff]
      exact fun q => absurd q.2 (Int32.not_lt.mpr c)
    · split
      · rename_i c1 c2 c
        simp only [true_iff]
        intro q
        have a := zlt.mp q.2
        have b := zle.mp c
        rw [show (16 : Int32).toInt = 16 from rfl] at b
        omega
      · rename_i c1 c2 c
        constructor
        · intro q; cases q
        · intro q; exact absurd ⟨Int32.not_lt.mp c1, Int32.not_le.mp c2⟩ q
theorem isIn_n {v : Int32} {n : Nat} (hn : n < 2147483648) : p_X12_isIn v 0 (nI n - 1) = 0 ↔ ¬ (0 ≤ v ∧ v < nI n) := by
  rw [isIn_0]
  have h3 : (nI n).toInt = n := znI hn
  have h4 : (nI n - 1).toInt = n - 1 := by rw [zsub] <;> rw [h3, show (1 : Int32).toInt = 1 from rfl] <;> omega
  rw [zle (x := v), zlt, h3, h4]
  constructor <;> intro q r <;> exact q ⟨r.1, by omega⟩
theorem zsucc {n : Nat} (h : n < 2147483647) : (nI n).toNatClampNeg = n ∧ nI n + 1 = nI (n + 1) := ⟨znIc (by omega), nI_1 n⟩
theorem op_timber {G : Gp} {S : zSh} {I : zFI} {L : zFL} {n jn mn tl ln on : Nat} {v1 v2 : Int32} (h : iAll S I n jn mn tl ln on) : zOpI G mX11_timber fX11_timber lX11_timber mX12_timber fX12_timber lX12_timber [.int v1, .int v2] S I L 0 0 (fun S' I' L' => S' = S ∧ (∃ n', iAll S I' n' jn mn tl ln on) ∧ zSameJ I L I' L' jn ∧ I' 0 16 = I 0 16) := by
  have hT0 := h.told (L := L) 0
  have hT : (∃ n', iAll S (u2 I 84 0 0) n' jn mn tl ln on) ∧ zSameJ I L (u2 I 84 0 0) L jn ∧ u2 I 84 0 0 0 16 = I 0 16 := ⟨⟨_, hT0.1⟩, hT0.2⟩
  obtain ⟨hS, hNow, hTim, hJnt, hMrk, hShn, hTap, hFlt, hCus, hRng, hLea, hOut, hWrd⟩ := h
  obtain ⟨a1, a2, a3, a4, a5⟩ := id hTim
  refine ZC.of' (vX11_timber_0 hS (ZC.of' (vX10_addTimber_0 hS ⟨fun c1 => ?_, fun c1 => ⟨fun c2 => ?_, fun c2 => ⟨fun c3 => ?_, fun c3 => ⟨fun c4 => ?_, fun c4 => ⟨fun c5 => ?_, fun c5 => ?_⟩⟩⟩⟩⟩) rfl (Nat.le_of_ble_eq_true rfl) rfl)) rfl (Nat.le_of_ble_eq_true rfl) rfl
  · refine ⟨_, rfl, rfl, _, rfl, ZC.of' (vX12_timber_0 hS ⟨fun hc => ⟨rfl, rfl, hT⟩, fun hc => ?_⟩) rfl (Nat.le_of_ble_eq_true rfl) rfl⟩
    exfalso
    grind [p_X12_isIn]
  · refine ⟨_, rfl, rfl, _, rfl, ZC.of' (vX12_timber_0 hS ⟨fun hc => ⟨rfl, rfl, hT⟩, fun hc => ?_⟩) rfl (Nat.le_of_ble_eq_true rfl) rfl⟩
    exfalso
    grind [p_X12_isIn]
  · refine ⟨_, rfl, rfl, _, rfl, ZC.of' (vX12_timber_0 hS ⟨fun hc => ⟨rfl, rfl, hT⟩, fun hc => ⟨fun hd => ⟨rfl, rfl, hT⟩, fun hd => ?_⟩⟩) rfl (Nat.le_of_ble_eq_true rfl) rfl⟩
    exfalso
    grind [p_X12_isIn]
  · refine ⟨_, rfl, rfl, _, rfl, ZC.of' (vX12_timber_0 hS ⟨fun hc => ⟨rfl, rfl, hT⟩, fun hc => ⟨fun hd => ⟨rfl, rfl, hT⟩, fun hd => ?_⟩⟩) rfl (Nat.le_of_ble_eq_true rfl) rfl⟩
    exfalso
    grind [p_X12_isIn]
  · have hn : n < 16 := by
      rw [a1, zlt, znI (by omega), show (16 : Int32).toInt = 16 from rfl] at c5
      omega
    have hv : vp_in (I 10 0) 16 := by rw [a1]; exact znIin hn (by omega)
    obtain ⟨e1, e2⟩ := zsucc (n := n) (by omega)
    have hb : 0 ≤ I 0 14 := hNow.1
    refine ⟨hv, _, rfl, rfl, _, rfl, ZC.of' (vX12_timber_0 hS ⟨fun hc => ?_, fun hc => ⟨fun hd => ?_, fun hd => ⟨fun he => ⟨?_, ?_, rfl, ⟨n + 1, hS, hNow.fr rfl rfl rfl rfl, ?_, hJnt.fr ?_ (Int32.le_refl _) rfl rfl rfl rfl rfl rfl rfl rfl rfl rfl rfl rfl rfl, hMrk.fr (Int32.le_refl _) (Int32.le_refl _) rfl rfl rfl rfl rfl rfl rfl rfl rfl rfl rfl rfl, hShn.fr rfl rfl rfl rfl, hTap.fr rfl rfl rfl rfl, hFlt.fr rfl rfl rfl rfl, hCus.fr hS rfl rfl rfl rfl, hRng.fr (Int32.le_refl _) rfl rfl rfl rfl rfl rfl rfl rfl rfl rfl rfl rfl rfl, hLea.fr ?_ (Int32.le_refl _) rfl rfl rfl rfl rfl rfl rfl rfl rfl rfl, hOut.fr rfl rfl rfl rfl, hWrd.fr rfl⟩, ?_, rfl⟩, fun he => ?_⟩⟩⟩) rfl (Nat.le_of_ble_eq_true rfl) rfl⟩
    · exfalso
      grind [p_X12_isIn]
    · exfalso
      grind [p_X12_isIn]
    · show vp_in (I 84 3) 16
      rw [a3]
      exact znIin hn (by omega)
    · show some (Value.int (I 84 3 + 1 - 1)) = _
      rw [a3, a1]
    · rw [a1, e1]
      show nI n + 1 = nI (n + 1) ∧ n + 1 ≤ 16 ∧ I 84 3 + 1 = nI (n + 1) ∧ _
      rw [a3, e2]
      refine ⟨rfl, by omega, rfl, fun k hk => ?_, fun i k hik hk => ?_⟩
      · show u2 I 85 (I 84 3).toNatClampNeg v1 85 k = u2 I 11 n v1 11 k ∧ u2 I 86 (I 84 3).toNatClampNeg v2 86 k = u2 I 12 n v2 12 k ∧ u2 I 87 (I 84 3).toNatClampNeg (I 84 1) 87 k = u2 I 13 n (I 0 14) 13 k ∧ 0 ≤ u2 I 11 n v1 11 k ∧ u2 I 11 n v1 11 k ≤ 3 ∧ 1 ≤ u2 I 12 n v2 12 k ∧ u2 I 12 n v2 12 k ≤ 99 ∧ 0 ≤ u2 I 13 n (I 0 14) 13 k ∧ u2 I 13 n (I 0 14) 13 k ≤ I 0 14
        rw [a3, e1]
        by_cases hkn : k = n
        · subst hkn
          rw [u2_same, u2_same, u2_same, u2_same, u2_same, u2_same]
          exact ⟨rfl, rfl, hNow.2.2.2.2.1, Int32.not_lt.mp c1, by lia, Int32.not_lt.mp c3, Int32.not_lt.mp c4, hb, Int32.le_refl _⟩
        · rw [u2_ne _ _ _ _ (fun q => hkn q.2), u2_ne _ _ _ _ (fun q => hkn q.2), u2_ne _ _ _ _ (fun q => hkn q.2), u2_ne _ _ _ _ (fun q => hkn q.2), u2_ne _ _ _ _ (fun q => hkn q.2), u2_ne _ _ _ _ (fun q => hkn q.2)]
          exact a4 k (by omega)
      · show u2 I 13 n (I 0 14) 13 i ≤ u2 I 13 n (I 0 14) 13 k
        by_cases hkn : k = n
        · subst hkn
          rw [u2_same]
          by_cases hin : i = k
          · subst hin
            rw [u2_same]
            exact Int32.le_refl _
          · rw [u2_ne _ _ _ _ (fun q => hin q.2)]
            exact (a4 i (by omega)).2.2.2.2.2.2.2.2
        · rw [u2_ne _ _ _ _ (fun q => hkn q.2), u2_ne _ _ _ _ (fun q => (show i ≠ n by omega) q.2)]
          exact a5 i k hik (by omega)
    · exact nI_le (by omega) (by omega)
    · exact nI_le (by omega) (by omega)
    · rw [a1, e1]
      refine ⟨rfl, rfl, fun k hk => ⟨rfl, rfl, rfl, rfl, ?_⟩, fun a h1 h2 _ => ?_, fun i _ => rfl, rfl, rfl, rfl, fun a ha => ?_, rfl, rfl, rfl, rfl, rfl⟩
      · show u2 I 11 n v1 11 (I 14 k).toNatClampNeg = _
        obtain ⟨b1, b2, b3, b4, b5, b6, b7, -⟩ := hJnt.2.2.2.1 k hk
        refine u2_ne _ _ _ _ (fun q => ?_)
        have := zlt.mp b7
        rw [znI (by omega)] at this
        have h8 := zle.mp b6
        rw [show (0 : Int32).toInt = 0 from rfl] at h8
        have h9 := q.2
        rw [zc_eq] at h9
        omega
      · rw [← u2_row _ _ _ _ (show a ≠ 84 by omega), ← u2_row _ _ _ _ (show a ≠ 87 by omega), ← u2_row _ _ _ _ (show a ≠ 86 by omega), ← u2_row _ _ _ _ (show a ≠ 85 by omega), ← u2_row _ _ _ _ (show a ≠ 84 by omega), ← u2_row _ _ _ _ (show a ≠ 10 by omega), ← u2_row _ _ _ _ (show a ≠ 13 by omega), ← u2_row _ _ _ _ (show a ≠ 12 by omega), ← u2_row _ _ _ _ (show a ≠ 11 by omega)]
      · rw [← u2_row _ _ _ _ (show a ≠ 84 by omega), ← u2_row _ _ _ _ (show a ≠ 87 by omega), ← u2_row _ _ _ _ (show a ≠ 86 by omega), ← u2_row _ _ _ _ (show a ≠ 85 by omega), ← u2_row _ _ _ _ (show a ≠ 84 by omega), ← u2_row _ _ _ _ (show a ≠ 10 by omega), ← u2_row _ _ _ _ (show a ≠ 13 by omega), ← u2_row _ _ _ _ (show a ≠ 12 by omega), ← u2_row _ _ _ _ (show a ≠ 11 by omega)]
    · exfalso
      have he : I 84 3 = 16 := he
      rw [a3, ← a1] at he
      rw [he] at c5
      exact absurd c5 (by decide)
  · refine ⟨_, rfl, rfl, _, rfl, ZC.of' (vX12_timber_0 hS ⟨fun hc => ⟨rfl, rfl, hT⟩, fun hc => ⟨fun hd => ⟨rfl, rfl, hT⟩, fun hd => ⟨fun he => ?_, fun he => ⟨rfl, rfl, hT⟩⟩⟩⟩) rfl (Nat.le_of_ble_eq_true rfl) rfl⟩
    exfalso
    have he : ¬ I 84 3 = 16 := he
    rw [a3] at he
    rw [a1, zlt, znI (by omega), show (16 : Int32).toInt = 16 from rfl] at c5
    exact he (by rw [show n = 16 by omega]; rfl)
