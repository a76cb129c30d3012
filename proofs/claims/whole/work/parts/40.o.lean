theorem iJnt.kn {I : zFI} {n jn k : Nat} (h : iJnt I n jn) (hn : n ≤ 16) (hk : k < jn) : ∃ t, t < n ∧ I 14 k = nI t := by
  obtain ⟨b1, b2, b3, b4, b5, b6, b7, -⟩ := h.2.2.2.1 k hk
  obtain ⟨t, h1, h2, -⟩ := zi_of ⟨b6, b7⟩ hn (by decide)
  exact ⟨t, h1, h2⟩
/-- Timbers.jointsOf -/
theorem c_jointsOf {G : Gp} {Q : zPost} {S : zSh} {I : zFI} {L : zFL} {t : Int32} {a : Nat} (hS : zStd S) (ha : a ≤ 48) (h : Q (some (.int (nI (zcnt (fun k => decide (I 14 k = t)) a)))) S I L) : ZC G mX10_jointsOf fX10_jointsOf lX10_jointsOf [zo G 10, .int t, .int (nI a)] S I L 0 0 Q := by
  have key : ∀ (k j : Nat), j + k = a → ZW G mX10_jointsOf fX10_jointsOf lX10_jointsOf 5 [zo G 10, .int t, .int (nI a), .int (nI (zcnt (fun k => decide (I 14 k = t)) j)), .int (nI j)] [] S I L 0 0 Q := by
    intro k
    induction k with
    | zero =>
      intro j hj
      have : j = a := by omega
      subst this
      exact vX10_jointsOf_5 hS ⟨fun _ => h, fun hc => absurd (Int32.le_refl _) hc⟩
    | succ k ih =>
      intro j hj
      have hcl : (nI j).toNatClampNeg = j := znIc (by omega)
      refine vX10_jointsOf_5 hS ⟨fun hc => absurd hc (nI_ge (by omega) (by omega)), fun _ => ⟨fun hc => absurd hc (show ¬ (48 : Int32) ≤ nI j from nI_ge (b := 48) (by omega) (by omega)), fun _ => ⟨znIin (by omega) (by decide), fun hc => ?_, fun hc => ?_⟩⟩⟩
      · rw [hcl] at hc
        have := ih (j + 1) (by omega)
        rw [zcnt_succ, if_neg (by simp [hc]), ← nI_1 j] at this
        exact this
      · rw [hcl] at hc
        have := ih (j + 1) (by omega)
        rw [zcnt_succ, if_pos (by simp [hc]), ← nI_1 j, ← nI_1] at this
        exact this
  exact ZC.of' (vX10_jointsOf_0 hS (key a 0 (by omega))) rfl (Nat.le_of_ble_eq_true rfl) rfl
set_option maxHeartbeats 1000000 in
theorem op_joint {G : Gp} {S : zSh} {I : zFI} {L : zFL} {n jn mn tl ln on : Nat} {v1 v2 v3 v4 : Int32} (h : iAll S I n jn mn tl ln on) : zOpI G mX11_joint fX11_joint lX11_joint mX12_joint fX12_joint lX12_joint [.int v1, .int v2, .int v3, .int v4] S I L 0 0 (fun S' I' L' => S' = S ∧ (∃ jn', iAll S I' n jn' mn tl ln on) ∧ I' 0 16 = 1) := by
  obtain ⟨hS, hNow, hTim, hJnt, hMrk, hShn, hTap, hFlt, hCus, hRng, hLea, hOut, hWrd⟩ := h
  obtain ⟨t1, t2, t3, t4, t5⟩ := id hTim
  obtain ⟨j1, j2, j3, j4, j5, j6⟩ := id hJnt
  have m1 : ∀ J : zFI, J 84 3 = nI n → (p_X12_isIn v1 0 (J 84 3 - 1) = 0 ↔ ¬ (0 ≤ v1 ∧ v1 < nI n)) := fun J hJ => by rw [hJ]; exact isIn_n (by omega)
  have bad : ∀ (J : zFI), J = u2 I 0 16 1 → (∃ jn', iAll S (u2 J 84 0 0) n jn' mn tl ln on) ∧ u2 J 84 0 0 0 16 = 1 := by
    intro J hJ
    subst hJ
    exact ⟨⟨jn, hS, hNow.fr rfl rfl rfl rfl, hTim.fr (Int32.le_refl _) rfl rfl rfl rfl rfl rfl rfl rfl, hJnt.fr (Int32.le_refl _) (Int32.le_refl _) rfl rfl rfl rfl rfl rfl rfl rfl rfl rfl rfl rfl rfl, hMrk.fr (Int32.le_refl _) (Int32.le_refl _) rfl rfl rfl rfl rfl rfl rfl rfl rfl rfl rfl rfl, hShn.fr rfl rfl rfl rfl, hTap.fr rfl rfl rfl rfl, hFlt.fr rfl rfl rfl rfl, hCus.fr hS rfl rfl rfl rfl, hRng.fr (Int32.le_refl _) rfl rfl rfl rfl rfl rfl rfl rfl rfl rfl rfl rfl rfl, hLea.fr (Int32.le_refl _) (Int32.le_refl _) rfl rfl rfl rfl rfl rfl rfl rfl rfl rfl, hOut.fr rfl rfl rfl rfl, hWrd.fr rfl⟩, rfl⟩
  refine ZC.of' (vX11_joint_0 hS (ZC.of' (vX10_addJoint_0 hS ⟨fun c0 => ?_, fun c0 => ⟨fun c1 => ?_, fun c1 => ?_⟩⟩) rfl (Nat.le_of_ble_eq_true rfl) rfl)) rfl (Nat.le_of_ble_eq_true rfl) rfl
  · rw [hasT_0 t1 t2] at c0
    refine ⟨_, rfl, rfl, _, rfl, ZC.of' (vX12_joint_0 hS ⟨fun hc => ⟨rfl, rfl, bad _ rfl⟩, fun hc => ?_⟩) rfl (Nat.le_of_ble_eq_true rfl) rfl⟩
    exact absurd ((m1 _ t3).mpr c0) hc
  · rw [hasT_0 t1 t2, Classical.not_not] at c0
    obtain ⟨t, u1, u2', u3⟩ := zi_of c0 t2 (by decide)
    have c1' : jn = 48 := by
      rw [j1, show (48 : Int32) = nI 48 from rfl, nI_leI (by omega) (by omega)] at c1
      omega
    refine ⟨_, rfl, rfl, _, rfl, ZC.of' (vX12_joint_0 hS ⟨fun hc => ⟨rfl, rfl, bad _ rfl⟩, fun hc => ⟨by rw [u2']; exact znIin (by omega) (by decide), fun hd => ⟨rfl, rfl, bad _ rfl⟩, fun hd => ⟨fun he => ⟨rfl, rfl, bad _ rfl⟩, fun he => ⟨fun hf => ⟨rfl, rfl, bad _ rfl⟩, fun hf => ⟨fun hg => ⟨rfl, rfl, bad _ rfl⟩, fun hg => ⟨fun hh => ?_, fun hh => ⟨rfl, rfl, bad _ rfl⟩⟩⟩⟩⟩⟩⟩) rfl (Nat.le_of_ble_eq_true rfl) rfl⟩
    exfalso
    have hh : ¬ I 84 13 = 48 := hh
    rw [j3, c1'] at hh
    exact hh rfl
  · rw [hasT_0 t1 t2, Classical.not_not] at c0
    obtain ⟨t, u1, u2', u3⟩ := zi_of c0 t2 (by decide)
    have hv : vp_in v1 16 := by rw [u2']; exact znIin (by omega) (by decide)
    have c1' : jn < 48 := by
      rw [j1, show (48 : Int32) = nI 48 from rfl, nI_leI (by omega) (by omega)] at c1
      omega
    have c0' : ∀ J : zFI, J 84 3 = nI n → ¬ p_X12_isIn v1 0 (J 84 3 - 1) = 0 := fun J hJ q => (m1 J hJ).mp q c0
    rw [j1]
    refine c_jointsOf hS j2 ⟨_, rfl, rfl, fun c2 => ?_, fun c2 => ?_⟩
    · -- fewer than six so far
      obtain ⟨k1, k2⟩ := j6 t (by omega)
      rw [u2', show (6 : Int32) = nI 6 from rfl, nI_ltI (by omega) (by omega)] at c2
      have hlen : I 86 v1.toNatClampNeg = I 12 v1.toNatClampNeg := by rw [u3]; exact (t4 t u1).2.1
      have h88 : ¬ I 88 v1.toNatClampNeg = 6 := by
        rw [u3, k1, show (6 : Int32) = nI 6 from rfl, nI_eq (by omega) (by omega)]
        omega
      have fail : ∀ x : Int32, x = -1 → ¬ ((0 ≤ v2 ∧ v2 ≤ I 12 v1.toNatClampNeg) ∧ (v3 = 0 ∨ v3 = 1) ∧ 1 ≤ v4 ∧ v4 ≤ 9) →
          ∃ r : Int32, some (Value.int x) = some (Value.int r) ∧ ZC G mX12_joint fX12_joint lX12_joint (zo G 84 :: [.int v1, .int v2, .int v3, .int v4]) S (u2 I 0 16 1) L 0 0 (fun v' S'' I'' L'' => v' = some (.int r) ∧ S'' = S ∧ (∃ jn', iAll S I'' n jn' mn tl ln on) ∧ I'' 0 16 = 1) := by
        intro x hx hno
        subst hx
        refine ⟨_, rfl, ZC.of' (vX12_joint_0 hS ⟨fun hc => ⟨rfl, rfl, bad _ rfl⟩, fun hc => ⟨hv, fun hd => ⟨rfl, rfl, bad _ rfl⟩, fun hd => ⟨fun he => ⟨rfl, rfl, bad _ rfl⟩, fun he => ⟨fun hf => ⟨rfl, rfl, bad _ rfl⟩, fun hf => ⟨fun hg => ⟨rfl, rfl, bad _ rfl⟩, fun hg => ⟨fun hh => ?_, fun hh => ⟨rfl, rfl, bad _ rfl⟩⟩⟩⟩⟩⟩⟩) rfl (Nat.le_of_ble_eq_true rfl) rfl⟩
        exfalso
        have hd : ¬ p_X12_isIn v2 0 (I 86 v1.toNatClampNeg) = 0 := hd
        rw [hlen, isIn_0, Classical.not_not] at hd
        rw [isIn_0, Classical.not_not] at he hf
        refine hno ⟨hd, ?_, hf⟩
        have := he
        grind
      refine ⟨fun c3 => ⟨_, rfl, rfl, fail _ rfl (fun q => absurd q.1.1 (Int32.not_le.mpr c3))⟩, fun c3 => ⟨hv, fun c4 => ⟨_, rfl, rfl, fail _ rfl (fun q => absurd q.1.2 (Int32.not_le.mpr c4))⟩, fun c4 => ?_⟩⟩
      have good : (v3 = 0 ∨ v3 = 1) → 1 ≤ v4 → v4 ≤ 9 → vp_in (I 10 4) 48 ∧
          (∃ r1 : Int32, some (Value.int (I 10 4 + 1 - 1)) = some (.int r1) ∧ S = S ∧ ∃ r : Int32, some (Value.int r1) = some (.int r) ∧ ZC G mX12_joint fX12_joint lX12_joint (zo G 84 :: [.int v1, .int v2, .int v3, .int v4]) S (u2 (u2 (u2 (u2 (u2 (u2 (u2 I 14 (I 10 4).toNatClampNeg v1) 15 (I 10 4).toNatClampNeg v2) 16 (I 10 4).toNatClampNeg v3) 17 (I 10 4).toNatClampNeg v4) 18 (I 10 4).toNatClampNeg (I 0 14)) 10 4 (I 10 4 + 1)) 0 16 1) L 0 0 (fun v' S'' I'' L'' => v' = some (.int r) ∧ S'' = S ∧ (∃ jn', iAll S I'' n jn' mn tl ln on) ∧ I'' 0 16 = 1)) := by
        intro h3 h4 h5
        rw [j1, znIc (by omega)]
        refine ⟨znIin c1' (by decide), _, rfl, rfl, _, rfl, ?_⟩
        generalize hJ : u2 (u2 (u2 (u2 (u2 (u2 (u2 I 14 jn v1) 15 jn v2) 16 jn v3) 17 jn v4) 18 jn (I 0 14)) 10 4 (nI jn + 1)) 0 16 1 = J
        have x84 : J 84 = I 84 := by rw [← hJ]; rfl
        have x86 : J 86 = I 86 := by rw [← hJ]; rfl
        have x88 : J 88 = I 88 := by rw [← hJ]; rfl
        refine ZC.of' (vX12_joint_0 hS ⟨fun hc => ?_, fun hc => ⟨hv, fun hd => ?_, fun hd => ⟨fun he => ?_, fun he => ⟨fun hf => ?_, fun hf => ⟨fun hg => ?_, fun hg => ⟨fun hh => ⟨?_, ?_, rfl, ⟨jn + 1, hS, ?_⟩, ?_⟩, fun hh => ?_⟩⟩⟩⟩⟩⟩) rfl (Nat.le_of_ble_eq_true rfl) rfl
        · exact absurd hc (c0' _ (by rw [x84]; exact t3))
        · exfalso
          rw [x86, hlen, isIn_0] at hd
          exact hd ⟨Int32.not_lt.mp c3, Int32.not_lt.mp c4⟩
        · exfalso
          rw [isIn_0] at he
          exact he (by rcases h3 with rfl | rfl <;> decide)
        · exfalso
          rw [isIn_0] at hf
          exact hf ⟨h4, h5⟩
        · exfalso
          rw [x88] at hg
          exact h88 hg
        · rw [x84, j3]
          exact znIin c1' (by decide)
        · rw [x84, j3]
        · rw [x84, x88, j3, znIc (by omega), nI_1]
          have cnt : ∀ s, s < 16 → zcnt (fun k => decide (u2 I 14 jn v1 14 k = nI s)) (jn + 1) = if s = t then zcnt (fun k => decide (I 14 k = nI s)) jn + 1 else zcnt (fun k => decide (I 14 k = nI s)) jn := by
            intro s hs
            have e : zcnt (fun k => decide (u2 I 14 jn v1 14 k = nI s)) jn = zcnt (fun k => decide (I 14 k = nI s)) jn := zcnt_congr (fun k hk => by rw [u2_ne _ _ _ _ (by omega)])
            rw [zcnt_succ, e, u2_same]
            by_cases hst : s = t
            · subst hst
              rw [if_pos (by simp [u2']), if_pos rfl]
            · have : ¬ nI t = nI s := by rw [nI_ne (by omega) (by omega)]; omega
              rw [if_neg (by simp [u2', this]), if_neg hst]
          rw [← hJ, nI_1]
          refine ⟨hNow.fr rfl rfl rfl rfl, hTim.fr (Int32.le_refl _) rfl rfl rfl rfl rfl rfl rfl rfl, ⟨rfl, by omega, rfl, fun k hk => ?_, fun i k hik hk => ?_, fun s hs => ?_⟩, hMrk.fr (nI_le (by omega) (by omega)) (Int32.le_refl _) rfl rfl rfl rfl rfl rfl rfl rfl rfl rfl rfl rfl, hShn.fr rfl rfl rfl rfl, hTap.fr rfl rfl rfl rfl, hFlt.fr rfl rfl rfl rfl, hCus.fr hS rfl rfl rfl rfl, hRng.fr (Int32.le_refl _) rfl rfl rfl rfl rfl rfl rfl rfl rfl rfl rfl rfl rfl, hLea.fr (Int32.le_refl _) (Int32.le_refl _) rfl rfl rfl rfl rfl rfl rfl rfl rfl rfl, hOut.fr rfl rfl rfl rfl, hWrd.fr rfl⟩
          · show u2 I 94 jn v1 94 k = u2 I 14 jn v1 14 k ∧ u2 I 95 jn v2 95 k = u2 I 15 jn v2 15 k ∧ u2 I 96 jn v3 96 k = u2 I 16 jn v3 16 k ∧ u2 I 97 jn v4 97 k = u2 I 17 jn v4 17 k ∧ u2 I 98 jn (I 84 1) 98 k = u2 I 18 jn (I 0 14) 18 k ∧ 0 ≤ u2 I 14 jn v1 14 k ∧ u2 I 14 jn v1 14 k < nI n ∧ 0 ≤ u2 I 15 jn v2 15 k ∧ u2 I 15 jn v2 15 k ≤ 99 ∧ (u2 I 16 jn v3 16 k = 0 ∨ u2 I 16 jn v3 16 k = 1) ∧ 1 ≤ u2 I 17 jn v4 17 k ∧ u2 I 17 jn v4 17 k ≤ 9 ∧ 0 ≤ u2 I 18 jn (I 0 14) 18 k ∧ u2 I 18 jn (I 0 14) 18 k ≤ I 0 14
            by_cases hkj : k = jn
            · subst hkj
              rw [u2_same, u2_same, u2_same, u2_same, u2_same, u2_same, u2_same, u2_same, u2_same, u2_same]
              have e12 := t4 t u1
              rw [u3] at c4
              exact ⟨rfl, rfl, rfl, rfl, hNow.2.2.2.2.1, c0.1, c0.2, Int32.not_lt.mp c3, Int32.le_trans (Int32.not_lt.mp c4) e12.2.2.2.2.2.2.1, h3, h4, h5, hNow.1, Int32.le_refl _⟩
            · rw [u2_ne _ _ _ _ (fun q => hkj q.2), u2_ne _ _ _ _ (fun q => hkj q.2), u2_ne _ _ _ _ (fun q => hkj q.2), u2_ne _ _ _ _ (fun q => hkj q.2), u2_ne _ _ _ _ (fun q => hkj q.2), u2_ne _ _ _ _ (fun q => hkj q.2), u2_ne _ _ _ _ (fun q => hkj q.2), u2_ne _ _ _ _ (fun q => hkj q.2), u2_ne _ _ _ _ (fun q => hkj q.2), u2_ne _ _ _ _ (fun q => hkj q.2)]
              exact j4 k (by omega)
          · show u2 I 18 jn (I 0 14) 18 i ≤ u2 I 18 jn (I 0 14) 18 k
            by_cases hkj : k = jn
            · subst hkj
              rw [u2_same]
              by_cases hij : i = k
              · subst hij
                rw [u2_same]
                exact Int32.le_refl _
              · rw [u2_ne _ _ _ _ (fun q => hij q.2)]
                exact (j4 i (by omega)).2.2.2.2.2.2.2.2.2.2.2.2.2
            · rw [u2_ne _ _ _ _ (fun q => hkj q.2), u2_ne _ _ _ _ (fun q => (show i ≠ jn by omega) q.2)]
              exact j5 i k hik (by omega)
          · show u2 I 88 v1.toNatClampNeg (I 88 v1.toNatClampNeg + 1) 88 s = nI (zcnt (fun k => decide (u2 I 14 jn v1 14 k = nI s)) (jn + 1)) ∧ zcnt (fun k => decide (u2 I 14 jn v1 14 k = nI s)) (jn + 1) ≤ 6
            rw [cnt s hs, u3]
            by_cases hst : s = t
            · subst hst
              rw [if_pos rfl, u2_same, k1, nI_1]
              exact ⟨rfl, by omega⟩
            · rw [if_neg hst, u2_ne _ _ _ _ (fun q => hst q.2)]
              exact j6 s hs
        · rw [← hJ]
          rfl
        · exfalso
          rw [x84, j3, show (48 : Int32) = nI 48 from rfl, nI_eq (by omega) (by omega)] at hh
          omega
      refine ⟨fun c5 => ⟨fun c6 => ⟨_, rfl, rfl, fail _ rfl (fun q => absurd q.2.2.1 (Int32.not_le.mpr c6))⟩, fun c6 => ⟨fun c7 => good (Or.inl c5) (Int32.not_lt.mp c6) c7, fun c7 => ⟨_, rfl, rfl, fail _ rfl (fun q => c7 q.2.2.2)⟩⟩⟩, fun c5 => ⟨fun c6 => ⟨_, rfl, rfl, fail _ rfl (fun q => by rcases q.2.1 with z | z; exact c5 z; exact c6 z)⟩, fun c6 => ⟨fun c7 => ⟨_, rfl, rfl, fail _ rfl (fun q => absurd q.2.2.1 (Int32.not_le.mpr c7))⟩, fun c7 => ⟨fun c8 => good (Or.inr c6) (Int32.not_lt.mp c7) c8, fun c8 => ⟨_, rfl, rfl, fail _ rfl (fun q => c8 q.2.2.2)⟩⟩⟩⟩⟩
    · obtain ⟨k1, k2⟩ := j6 t (by omega)
      rw [u2', show (6 : Int32) = nI 6 from rfl, nI_ltI (by omega) (by omega)] at c2
      refine ⟨_, rfl, rfl, _, rfl, ZC.of' (vX12_joint_0 hS ⟨fun hc => ⟨rfl, rfl, bad _ rfl⟩, fun hc => ⟨hv, fun hd => ⟨rfl, rfl, bad _ rfl⟩, fun hd => ⟨fun he => ⟨rfl, rfl, bad _ rfl⟩, fun he => ⟨fun hf => ⟨rfl, rfl, bad _ rfl⟩, fun hf => ⟨fun hg => ⟨rfl, rfl, bad _ rfl⟩, fun hg => ⟨fun hh => ?_, fun hh => ⟨rfl, rfl, bad _ rfl⟩⟩⟩⟩⟩⟩⟩) rfl (Nat.le_of_ble_eq_true rfl) rfl⟩
      exfalso
      have hg : ¬ I 88 v1.toNatClampNeg = 6 := hg
      rw [u3, k1, show (6 : Int32) = nI 6 from rfl, nI_eq (by omega) (by omega)] at hg
      omega
