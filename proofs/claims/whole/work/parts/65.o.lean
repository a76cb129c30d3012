theorem c_agree {G : Gp} {Q : zPost} {S : zSh} {I : zFI} {L : zFL} {r t k jn mn : Nat} (hS : zStd S) (hr : zCu r) (hMrk : iMrk I jn mn) (hShn : iShn I mn) (ht : t < 48) (hk : k < 48) (h0 : zNm I r (I 25 t) &&& zNm I r (I 25 k) = 0 → Q (some (.int 0)) S I L) (h1 : ¬ zNm I r (I 25 t) &&& zNm I r (I 25 k) = 0 → Q (some (.int 1)) S I L) : ZC G mX11_agreeInNumbers fX11_agreeInNumbers lX11_agreeInNumbers [zo G 0, zo G r, .int (nI t), .int (nI k)] S I L 0 0 Q := by
  refine ZC.of' (vX11_agreeInNumbers_0 hS hr (c_numbersOn hS hr hMrk hShn ht ⟨_, rfl, rfl, c_numbersOn hS hr hMrk hShn hk ⟨_, rfl, rfl, ?_⟩⟩)) rfl (Nat.le_of_ble_eq_true rfl) rfl
  rw [lg_cmp_eq]
  exact ⟨h0, h1⟩
theorem op_fits {G : Gp} {S : zSh} {I : zFI} {L : zFL} {n jn mn tl ln on : Nat} {v1 v2 v3 : Int32} (h : iAll S I n jn mn tl ln on) : zOpI G mX11_fits fX11_fits lX11_fits mX12_fits fX12_fits lX12_fits [.int v1, .int v2, .int v3] S I L 0 0 (fun S' I' L' => S' = S ∧ iAll S I' n jn mn tl ln on ∧ zSameJ I L I' L' jn ∧ I' 0 16 = I 0 16) := by
  have hA := h
  have hT := hA.told (L := L) 0
  obtain ⟨hS, hNow, hTim, hJnt, hMrk, hShn, hTap, hFlt, hCus, hRng, hLea, hOut, hWrd⟩ := h
  obtain ⟨j1, j2, j3, j4, j5, j6⟩ := id hJnt
  have sl := zsj_le I jn
  have hv : ∀ v2 : Int32, ¬ v2 < 0 → ¬ (u2 I 84 0 0) 84 13 ≤ v2 → vp_in v2 48 := fun v2 a b => by
    have b : ¬ I 84 13 ≤ v2 := b
    refine zvin (m := 48) rfl (Int32.not_lt.mp a) ?_
    rw [j3, Int32.not_le, zlt, znI (by omega)] at b
    rw [zlt, show (48 : Int32).toInt = 48 from rfl]
    omega
  have m0 := fun v => mJnt_0 (v := v) hT.1.2.1 hT.1.2.2.2.1
  have yes : ∀ j, j < zsj I jn → ¬ p_X12_isJoint (u2 I 84 0 0) (nI j) = 0 := fun j hj q => (m0 _).mp q ⟨nI_pos' (by omega), show nI j < nI (zsj I jn) from nI_lt hj (by omega)⟩
  refine ZC.of' (vX11_fits_0 hS ⟨fun c1 => ?_, fun c1 => c_isJoint hS hJnt (fun t u1 u2' => ⟨_, rfl, rfl, fun q => absurd q (by decide), fun _ => c_isJoint hS hJnt (fun k w1 w2 => ⟨_, rfl, rfl, fun q => absurd q (by decide), fun _ => ?_⟩) (fun c0 => ⟨_, rfl, rfl, fun _ => ?_, fun q => absurd rfl q⟩)⟩) (fun c0 => ⟨_, rfl, rfl, fun _ => ?_, fun q => absurd rfl q⟩)⟩) rfl (Nat.le_of_ble_eq_true rfl) rfl
  · exact ⟨_, rfl, ZC.of' (vX12_fits_0 hS ⟨fun _ => ⟨rfl, rfl, hT⟩, fun q => absurd (isIn_01.mpr (isCu_0.mp c1)) q⟩) rfl (Nat.le_of_ble_eq_true rfl) rfl⟩
  · subst u2'
    subst w2
    have cv := Classical.not_not.mp (fun q => c1 (isCu_0.mpr q))
    obtain ⟨c, hc, hcv, hcu⟩ := cu_of hCus cv
    obtain ⟨hr1, hr2⟩ := hS.rl cv
    have cu1 : iCu1 (u2 I 84 0 0) (zrl S v1) c := by
      unfold iCu1 at hcu ⊢
      rw [show (u2 I 84 0 0) 105 = I 105 from rfl, show (u2 I 84 0 0) (zrl S v1) = I (zrl S v1) from (zScrd.told I 0).1 _ (by rcases hr2 with w | w | w <;> rw [w] <;> decide)]
      exact hcu
    have st : p_X10_sortOf I (nI t) = I 16 t := pick_in (by omega) (by decide)
    have sk : p_X10_sortOf I (nI k) = I 16 k := pick_in (by omega) (by decide)
    have e96 : ∀ x, x < jn → I 96 (nI x).toNatClampNeg = I 16 x := fun x hx => by rw [znIc (by omega), (j4 x hx).2.2.1]
    have hin : ∀ x, x < jn → vp_in (nI x) 48 := fun x hx => znIin (by omega) (by decide)
    rw [st, sk]
    have model : ∀ x : Int32, ((¬ I 16 t = 0 → x = -1) ∧ (I 16 t = 0 → ((I 16 k = 1 → x = 0 ∨ x = 1) ∧ (I 16 k = 1 → (x = 1 ↔ zFt I (zrl S v1) t k)) ∧ (¬ I 16 k = 1 → x = -1)))) → ZC G mX12_fits fX12_fits lX12_fits [zo G 84, .int v1, .int (nI t), .int (nI k)] S I L 0 0 (fun v' S'' I'' L'' => v' = some (.int x) ∧ (fun S' I' L' => S' = S ∧ iAll S I' n jn mn tl ln on ∧ zSameJ I L I' L' jn ∧ I' 0 16 = I 0 16) S'' I'' L'') := fun x hx => by
      subst hcv
      refine ZC.of' (vX12_fits_0 hS ⟨fun q => absurd cv (isIn_01.mp q), fun _ => ⟨hv _, fun q => absurd q (yes t u1), fun _ => ⟨hv _, fun q => absurd q (yes k w1), fun _ => ⟨hin t (by omega), fun d1 => ?_, fun d1 => ⟨hin k (by omega), fun d2 => ?_, fun d2 => ?_⟩⟩⟩⟩⟩) rfl (Nat.le_of_ble_eq_true rfl) rfl
      · rw [e96 t (by omega)] at d1
        exact ⟨by rw [hx.1 d1], rfl, hT⟩
      · rw [e96 t (by omega)] at d1
        rw [e96 k (by omega)] at d2
        obtain ⟨y1, y2, y3⟩ := hx.2 d1
        refine m_isFit hT.1.mid hr2 hc cu1 (by omega) (by omega) (fun I1 y z o1 o2 => ⟨_, rfl, rfl, ?_⟩)
        have ft : zFt (u2 I 84 0 0) (zrl S (nI c)) t k ↔ zFt I (zrl S (nI c)) t k := by
          unfold zFt
          rw [(zScrd.told I 0).nm hr2, (zScrd.told I 0).nm hr2, (zScrd.told I 0).1 25 (by decide)]
          have e : p_X11_canFit (u2 I 84 0 0) (zrl S (nI c)) (nI t) (nI k) = p_X11_canFit I (zrl S (nI c)) (nI t) (nI k) := by
            rcases hr2 with w | w | w <;> rw [w] <;> rfl
          rw [e]
        rw [ft] at o2
        have T := ((zScrd.told I 0).trans z.scr).all (L := L) hA
        refine ⟨fun w => ⟨?_, rfl, T⟩, fun w => ⟨?_, rfl, T⟩⟩
        · rcases y1 d2 with q | q
          · rw [q]
          · have := o2.mpr ((y2 d2).mp q)
            rw [w] at this
            exact absurd this (by decide)
        · rw [(y2 d2).mpr (o2.mp (o1.resolve_left w))]
      · rw [e96 t (by omega)] at d1
        rw [e96 k (by omega)] at d2
        exact ⟨by rw [(hx.2 d1).2.2 d2], rfl, hT⟩
    refine ⟨fun d1 => ⟨_, rfl, model _ ⟨fun _ => rfl, fun q => absurd q d1⟩⟩, fun d1 => ⟨fun d2 => ⟨cv, c_agree hS hr2 hMrk hShn (by omega) (by omega) (fun w => ⟨_, rfl, rfl, fun _ => ⟨_, rfl, model _ ⟨fun q => absurd d1 q, fun _ => ⟨fun _ => Or.inl rfl, fun _ => ⟨fun q => absurd q (by decide), fun q => absurd w q.1⟩, fun q => absurd d2 q⟩⟩⟩, fun q => absurd rfl q⟩) (fun w => ⟨_, rfl, rfl, fun q => absurd q (by decide), fun _ => ⟨cv, fun f => ⟨_, rfl, model _ ⟨fun q => absurd d1 q, fun _ => ⟨fun _ => Or.inl rfl, fun _ => ⟨fun q => absurd q (by decide), fun q => absurd f q.2⟩, fun q => absurd d2 q⟩⟩⟩, fun f => ⟨_, rfl, model _ ⟨fun q => absurd d1 q, fun _ => ⟨fun _ => Or.inr rfl, fun _ => ⟨fun _ => ⟨w, f⟩, fun _ => rfl⟩, fun q => absurd d2 q⟩⟩⟩⟩⟩)⟩, fun d2 => ⟨_, rfl, model _ ⟨fun q => absurd d1 q, fun _ => ⟨fun q => absurd q d2, fun q => absurd q d2, fun _ => rfl⟩⟩⟩⟩⟩
  · subst u2'
    have cv := Classical.not_not.mp (fun q => c1 (isCu_0.mpr q))
    exact ⟨_, rfl, ZC.of' (vX12_fits_0 hS ⟨fun q => absurd cv (isIn_01.mp q), fun _ => ⟨hv _, fun q => absurd q (yes t u1), fun _ => ⟨hv _, fun _ => ⟨rfl, rfl, hT⟩, fun q => absurd ((m0 _).mpr c0) q⟩⟩⟩) rfl (Nat.le_of_ble_eq_true rfl) rfl⟩
  · have cv := Classical.not_not.mp (fun q => c1 (isCu_0.mpr q))
    exact ⟨_, rfl, ZC.of' (vX12_fits_0 hS ⟨fun q => absurd cv (isIn_01.mp q), fun _ => ⟨hv _, fun _ => ⟨rfl, rfl, hT⟩, fun q => absurd ((m0 _).mpr c0) q⟩⟩) rfl (Nat.le_of_ble_eq_true rfl) rfl⟩
