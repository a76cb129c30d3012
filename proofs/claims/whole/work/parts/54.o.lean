theorem mes_0 {I : zFI} {v : Int32} (h : v = 0) : p_X5_measured I v = I 77 5 := by
  unfold p_X5_measured
  rw [if_pos h]
theorem mes_no {I : zFI} {v : Int32} (h : ¬ v = 0) (h2 : I 77 7 < 0) : p_X5_measured I v = -1000 := by
  unfold p_X5_measured
  rw [if_neg h, if_pos h2]
theorem mes_in {I : zFI} {v : Int32} {l : Nat} (h : ¬ v = 0) (h2 : I 77 7 = nI l) (hl : l < 60) : p_X5_measured I v = if v = 1 then I 79 l else if v = 2 then I 80 l else if I 77 5 < 2 then -1000 else if v = 3 then I 77 8 else if v = 4 then I 77 9 else -1000 := by
  unfold p_X5_measured
  rw [if_neg h, h2, if_neg (nI_pos (by omega)), if_neg (show ¬ (60 : Int32) ≤ nI l from nI_ge (b := 60) hl (by omega)), znIc (by omega)]
  by_cases c : 2 ≤ I 77 5
  · rw [if_pos c, if_neg (show ¬ I 77 5 < 2 by lia)]
  · rw [if_neg c, if_pos (show I 77 5 < 2 by lia)]
    by_cases d : v ≤ 2
    · rw [if_pos d, if_neg (show ¬ v = 3 by lia), if_neg (show ¬ v = 4 by lia)]
    · rw [if_neg d, if_neg (show ¬ v = 1 by lia), if_neg (show ¬ v = 2 by lia)]
theorem op_leans {G : Gp} {S : zSh} {I : zFI} {L : zFL} {n jn mn tl ln on : Nat} {v1 v2 : Int32} (h : iAll S I n jn mn tl ln on) : zOpI G mX11_leans fX11_leans lX11_leans mX12_leans fX12_leans lX12_leans [.int v1, .int v2] S I L 0 0 (fun S' I' L' => S' = S ∧ iAll S I' n jn mn tl ln on ∧ zSameJ I L I' L' jn ∧ I' 0 16 = I 0 16) := by
  have hA := h
  obtain ⟨hS, hNow, hTim, hJnt, hMrk, hShn, hTap, hFlt, hCus, hRng, hLea, hOut, hWrd⟩ := h
  obtain ⟨t1, t2, t3, t4, t5⟩ := id hTim
  obtain ⟨l1, l2, l3, l4⟩ := id hLea
  have sl := zsn_le I n
  refine ZC.of' (vX11_leans_0 hS (c_isTimber hS hTim (fun t u1 u2' => ⟨_, rfl, rfl, fun _ => ?_, fun q => absurd q (by decide)⟩) (fun c0 => ⟨_, rfl, rfl, fun q => absurd rfl q, fun _ => ?_⟩))) rfl (Nat.le_of_ble_eq_true rfl) rfl
  · subst u2'
    refine c_measure hS l1 l2 (lea_y hLea) (fun I1 h1 h2 h5 h6 h7 h8 => ⟨rfl, rfl, _, rfl, ?_⟩)
    have w := hA.w77 (L := L) h1 h2
    have w2 := w.1.told (L := L) 0
    have wT : iAll S (u2 I1 84 0 0) n jn mn tl ln on ∧ zSameJ I L (u2 I1 84 0 0) L jn ∧ (u2 I1 84 0 0) 0 16 = I 0 16 := ⟨w2.1, w.2.1.trans w2.2.1, w2.2.2.trans w.2.2⟩
    have c0 : ¬ p_X12_isTimber (u2 I1 84 0 0) (nI t) = 0 := fun q => by
      have m := (mTim_0 w2.1.2.1 w2.1.2.2.1).mp q
      refine m ⟨nI_pos' (by omega), ?_⟩
      have e : zsn (u2 I1 84 0 0) n = zsn I n := by
        unfold zsn p_X11_lastDaySeen
        rw [show (u2 I1 84 0 0) 13 = I 13 from h1 13 (by decide), show (u2 I1 84 0 0) 0 = I 0 from h1 0 (by decide)]
      rw [e]
      exact nI_lt u1 (by omega)
    refine ZC.of' (vX12_leans_0 hS ⟨fun _ _ => znIin (by omega) (by decide), fun q => absurd q c0, fun _ => ⟨fun cin => m_leansAt hA h1 h2 (fun I2 T g1 g2 => ⟨rfl, rfl, ?_⟩), fun cin => ?_⟩⟩) rfl (Nat.le_of_ble_eq_true rfl) rfl
    · generalize hg : zgd I (nI t) (p_X11_lastDaySeen I) ln = g at *
      have cl := zcnt_le g ln
      have z84 : I2 84 84 = 0 ↔ zcnt g ln = 0 := by
        rw [g1, zeq, znI (by omega), show (0 : Int32).toInt = 0 from rfl]
        omega
      have z1 : I2 84 84 = 1 ↔ zcnt g ln = 1 := by
        rw [g1, zeq, znI (by omega), show (1 : Int32).toInt = 1 from rfl]
        omega
      have cin := Classical.not_not.mp (fun q => cin ((isIn_0 _ _ _).mpr q))
      refine ⟨fun d0 => ⟨fun e => ?_, fun e => ?_⟩, fun d0 => ?_⟩
      · have hz := z84.mp e
        have := h6 hz
        refine ⟨?_, rfl, T⟩
        rw [mes_no d0 (by rw [this]; decide)]
      · have hz : zcnt g ln ≠ 0 := fun q => e (z84.mpr q)
        have hr := lea_r (t := nI t) (d := p_X11_lastDaySeen I) hLea
        rw [hg] at hr
        obtain ⟨f, l, rf, rl, fl, ll, x1, x2, x3, x4, x5, x6, x7, x8, x9, -⟩ := hr hz
        clear hr
        obtain ⟨g5, g6, g7, g8⟩ := g2 hz
        have e7 := h7 hz
        rw [rf] at g5 g7
        rw [rl] at g6 g8 e7
        have e79 : I1 79 = I 79 := h1 79 (by decide)
        have e80 : I1 80 = I 80 := h1 80 (by decide)
        have me := mes_in d0 e7 (show l < 60 by omega)
        rw [e79, e80, h5] at me
        rw [g5, g6, g7, g8]
        have com : ¬ v2 ≤ 2 → ¬ zcnt g ln = 1 → ZC G mX12_common fX12_common lX12_common [zo G 84, .int (I 80 l - I 80 f), .int (I 79 l - I 79 f)] S I2 L 0 0 (fun w S' I3 L3 => ∃ r3 : Int32, w = some (.int r3) ∧ S = S' ∧ ((¬ v2 = 3 → ¬ r3 = 0 ∧ (some (Value.int ((I3 84 86 - I3 84 85) / r3)) = some (Value.int (p_X5_measured I1 v2)) ∧ (S = S ∧ iAll S I3 n jn mn tl ln on ∧ zSameJ I L I3 L3 jn ∧ I3 0 16 = I 0 16))) ∧ (v2 = 3 → ¬ r3 = 0 ∧ (some (Value.int ((I3 84 88 - I3 84 87) / r3)) = some (Value.int (p_X5_measured I1 v2)) ∧ (S = S ∧ iAll S I3 n jn mn tl ln on ∧ zSameJ I L I3 L3 jn ∧ I3 0 16 = I 0 16))))) := fun d1 d2 => by
          have hc2 : 2 ≤ zcnt g ln := by omega
          have y0 := x7 hc2
          obtain ⟨y1, y2⟩ := h8 hc2 _ _ rfl rfl
          rw [rf, rl] at y1 y2
          have ge1 := Nat.gcd_le_right (I 80 l - I 80 f).toInt.natAbs (n := (I 79 l - I 79 f).toInt.toNat) (by omega)
          have ge2 := Nat.gcd_pos_of_pos_right (I 80 l - I 80 f).toInt.natAbs (n := (I 79 l - I 79 f).toInt.toNat) (by omega)
          have ne := nI_ne0 ge2 (by omega)
          have lt2 : ¬ nI (zcnt g ln) < 2 := nI_nlt (a := zcnt g ln) (b := 2) hc2 (by omega)
          have n1 : ¬ v2 = 1 := by lia
          have n2 : ¬ v2 = 2 := by lia
          rw [if_neg n1, if_neg n2, if_neg lt2] at me
          refine m_common hS x3 x4 (by rw [zle, show (0 : Int32).toInt = 0 from rfl]; omega) ⟨_, rfl, rfl, fun d3 => ⟨ne, ?_, rfl, T⟩, fun d3 => ⟨ne, ?_, rfl, T⟩⟩
          · have n4 : v2 = 4 := by have := cin.2; lia
            rw [me, if_neg d3, if_pos n4, y2, g5, g6]
          · rw [me, if_pos d3, y1, g7, g8]
        refine ⟨fun d1 => ⟨fun d2 => ⟨fun d3 => ?_, fun d3 => ⟨?_, rfl, T⟩⟩, fun d2 => ⟨?_, rfl, T⟩⟩, fun d1 => ⟨fun d2 => ⟨fun d3 => ⟨fun d4 => com d1 (fun q => d2 (z1.mpr q)), fun d4 => ?_⟩, fun d3 => ?_⟩, fun d2 => ⟨?_, rfl, T⟩⟩⟩
        · exfalso
          have := cin.1
          lia
        · rw [me, if_neg d2, if_pos d3]
        · rw [me, if_pos d2]
        · exfalso
          lia
        · exfalso
          lia
        · have n1 : ¬ v2 = 1 := by lia
          have n2 : ¬ v2 = 2 := by lia
          rw [me, if_neg n1, if_neg n2, z1.mp d2]
          rfl
      · refine ⟨?_, rfl, T⟩
        rw [mes_0 d0, h5, g1]
    · refine ⟨?_, rfl, wT⟩
      rw [isIn_0] at cin
      unfold p_X5_measured
      rw [if_neg (by lia), if_neg (show ¬ v2 = 1 by lia), if_neg (show ¬ v2 = 2 by lia), if_neg (show ¬ v2 = 3 by lia), if_neg (show ¬ v2 = 4 by lia)]
      simp
  · have hT := hA.told (L := L) 0
    refine ⟨_, rfl, ZC.of' (vX12_leans_0 hS ⟨fun a b => ?_, fun _ => ⟨rfl, rfl, hT⟩, fun q => absurd ((mTim_0 hT.1.2.1 hT.1.2.2.1).mpr c0) q⟩) rfl (Nat.le_of_ble_eq_true rfl) rfl⟩
    have b : ¬ I 84 3 ≤ v1 := b
    refine zvin (m := 16) rfl (Int32.not_lt.mp a) ?_
    rw [t3, Int32.not_le, zlt, znI (by omega)] at b
    rw [zlt, show (16 : Int32).toInt = 16 from rfl]
    omega
