theorem op_at {G : Gp} {S : zSh} {I : zFI} {L : zFL} {n jn mn tl ln on : Nat} {v1 v2 : Int32} (h : iAll S I n jn mn tl ln on) : zOpI G mX11_at fX11_at lX11_at mX12_at fX12_at lX12_at [.int v1, .int v2] S I L 0 0 (fun S' I' L' => S' = S ∧ iAll S I' n jn mn tl ln on ∧ zSameJ I L I' L' jn ∧ I' 0 16 = I 0 16) := by
  have hT := h.told (L := L) 0
  obtain ⟨hS, hNow, hTim, hJnt, hMrk, hShn, hTap, hFlt, hCus, hRng, hLea, hOut, hWrd⟩ := h
  obtain ⟨hS', hNow', hTim', hJnt', hMrk', hShn', hTap', hFlt', hCus', hRng', hLea', hOut', hWrd'⟩ := id hT.1
  obtain ⟨j1, j2, j3, j4, j5, j6⟩ := id hJnt
  obtain ⟨m1, m2, m3, m4⟩ := id hMrk
  have sj := zsj_le I jn
  have m0 : p_X12_isJoint (u2 I 84 0 0) v1 = 0 ↔ ¬ (0 ≤ v1 ∧ v1 < nI (zsj I jn)) := mJnt_0 hNow' hJnt'
  have hv : ¬ v1 < 0 → ¬ (u2 I 84 0 0) 84 13 ≤ v1 → vp_in v1 48 := fun a b => by
    refine zvin (m := 48) rfl (Int32.not_lt.mp a) ?_
    have b : ¬ I 84 13 ≤ v1 := b
    rw [j3, Int32.not_le, zlt, znI (by omega)] at b
    rw [zlt, show (48 : Int32).toInt = 48 from rfl]
    omega
  refine ZC.of' (vX11_at_0 hS (c_isJoint hS hJnt (fun j u1 u2' => ⟨_, rfl, rfl, fun _ => ?_, fun q => absurd q (by decide)⟩) (fun c0 => ⟨_, rfl, rfl, fun q => absurd rfl q, fun _ => ?_⟩))) rfl (Nat.le_of_ble_eq_true rfl) rfl
  · subst u2'
    have c0 : ¬ p_X12_isJoint (u2 I 84 0 0) (nI j) = 0 := fun q => m0.mp q ⟨nI_pos' (by omega), nI_lt u1 (by omega)⟩
    have jtc : (nI j).toNatClampNeg = j := znIc (by omega)
    have hin : vp_in (nI j) 48 := znIin (by omega) (by decide)
    have hj48 : j < 48 := by omega
    obtain ⟨b1, b2, b3, b4, -⟩ := j4 j (by omega)
    have P : ∀ a, p_X11_pick I a 48 (nI j) = I a j := fun a => pick_in (by omega) (by decide)
    refine ⟨fun d => ?_, fun d => ?_, fun d => ?_, fun d => ?_, fun d => ?_, fun d => ?_, fun d0 d1 d2 d3 d4 d5 => ?_⟩
    · subst d
      refine ⟨_, rfl, ZC.of' (vX12_at_0 hS ⟨hv, fun _ => ⟨fun q => absurd rfl q, fun _ => ⟨hin, ?_, rfl, hT⟩⟩, fun q => absurd q c0⟩) rfl (Nat.le_of_ble_eq_true rfl) rfl⟩
      rw [jtc, b1]
      exact congrArg (fun x => some (Value.int x)) (P 14).symm
    · subst d
      refine ⟨_, rfl, ZC.of' (vX12_at_0 hS ⟨hv, fun _ => ⟨fun _ => ⟨fun q => absurd rfl q, fun _ => ⟨hin, ?_, rfl, hT⟩⟩, fun q => absurd q (by decide)⟩, fun q => absurd q c0⟩) rfl (Nat.le_of_ble_eq_true rfl) rfl⟩
      rw [jtc, b2]
      exact congrArg (fun x => some (Value.int x)) (P 15).symm
    · subst d
      refine ⟨_, rfl, ZC.of' (vX12_at_0 hS ⟨hv, fun _ => ⟨fun _ => ⟨fun _ => ⟨fun q => absurd rfl q, fun _ => ⟨hin, ?_, rfl, hT⟩⟩, fun q => absurd q (by decide)⟩, fun q => absurd q (by decide)⟩, fun q => absurd q c0⟩) rfl (Nat.le_of_ble_eq_true rfl) rfl⟩
      rw [jtc, b3]
      exact congrArg (fun x => some (Value.int x)) (P 16).symm
    · subst d
      refine ⟨_, rfl, ZC.of' (vX12_at_0 hS ⟨hv, fun _ => ⟨fun _ => ⟨fun _ => ⟨fun _ => ⟨fun q => absurd rfl q, fun _ => ⟨hin, ?_, rfl, hT⟩⟩, fun q => absurd q (by decide)⟩, fun q => absurd q (by decide)⟩, fun q => absurd q (by decide)⟩, fun q => absurd q c0⟩) rfl (Nat.le_of_ble_eq_true rfl) rfl⟩
      rw [jtc, b4]
      exact congrArg (fun x => some (Value.int x)) (P 17).symm
    · subst d
      exact ⟨_, rfl, ZC.of' (vX12_at_0 hS ⟨hv, fun _ => ⟨fun _ => ⟨fun _ => ⟨fun _ => ⟨fun _ => ⟨fun q => absurd rfl q, fun _ => m_signsOf hS hNow' hMrk' hShn' hj48 ⟨_, rfl, rfl, rfl, rfl, hT⟩⟩, fun q => absurd q (by decide)⟩, fun q => absurd q (by decide)⟩, fun q => absurd q (by decide)⟩, fun q => absurd q (by decide)⟩, fun q => absurd q c0⟩) rfl (Nat.le_of_ble_eq_true rfl) rfl⟩
    · subst d
      exact ⟨_, rfl, ZC.of' (vX12_at_0 hS ⟨hv, fun _ => ⟨fun _ => ⟨fun _ => ⟨fun _ => ⟨fun _ => ⟨fun _ => ⟨fun q => absurd rfl q, fun _ => m_sideOf hS hNow' hMrk' hShn' hj48 ⟨_, rfl, rfl, rfl, rfl, hT⟩⟩, fun q => absurd q (by decide)⟩, fun q => absurd q (by decide)⟩, fun q => absurd q (by decide)⟩, fun q => absurd q (by decide)⟩, fun q => absurd q (by decide)⟩, fun q => absurd q c0⟩) rfl (Nat.le_of_ble_eq_true rfl) rfl⟩
    · obtain ⟨s1, s2⟩ := signs_eq hMrk hShn hj48
      have mm : ∀ x : Int32, (∀ y : Int32, y = p_X6_signsOn I (nI j) → (p_X12_isIn v2 10 (9 + y) = 0 → x = -1) ∧ (¬ p_X12_isIn v2 10 (9 + y) = 0 → vp_in ((6 * I 25 j + v2) - 10) 1200 ∧ I 103 ((6 * I 25 j + v2) - 10).toNatClampNeg = x)) → ZC G mX12_at fX12_at lX12_at [zo G 84, .int (nI j), .int v2] S I L 0 0 (fun v' S'' I'' L'' => v' = some (.int x) ∧ (fun S' I' L' => S' = S ∧ iAll S I' n jn mn tl ln on ∧ zSameJ I L I' L' jn ∧ I' 0 16 = I 0 16) S'' I'' L'') := fun x hx => by
        refine ZC.of' (vX12_at_0 hS ⟨hv, fun _ => ⟨fun _ => ⟨fun _ => ⟨fun _ => ⟨fun _ => ⟨fun _ => ⟨fun _ => m_signsOf hS hNow' hMrk' hShn' hj48 ⟨_, rfl, rfl, fun c => ⟨?_, rfl, hT⟩, fun c => m_mark25 hS hNow' hMrk' hShn' hj48 ⟨_, rfl, rfl, ?_, ?_, rfl, hT⟩⟩, fun q => absurd q d5⟩, fun q => absurd q d4⟩, fun q => absurd q d3⟩, fun q => absurd q d2⟩, fun q => absurd q d1⟩, fun q => absurd q d0⟩, fun q => absurd q c0⟩) rfl (Nat.le_of_ble_eq_true rfl) rfl
        · rw [(hx _ rfl).1 c]
        · exact ((hx _ rfl).2 c).1
        · exact congrArg (fun x => some (Value.int x)) ((hx _ rfl).2 c).2
      refine ⟨fun c1 => ⟨_, rfl, mm _ (fun y hy => ⟨fun _ => rfl, fun q => ?_⟩)⟩, fun c1 => ⟨_, rfl, mm _ (fun y hy => ⟨fun q => ?_, fun q => ?_⟩)⟩⟩
      · rw [isIn_0, Classical.not_not] at q
        exact absurd q.1 (Int32.not_le.mpr c1)
      · rw [isIn_0] at q
        have y6 : 0 ≤ y ∧ y ≤ 6 := by
          rcases shn_or hShn hj48 with e | ⟨k, k1, k2⟩
          · rw [hy, (s1 e).1]
            exact ⟨by decide, by decide⟩
          · rw [hy, (s2 k k1 k2).1]
            exact ⟨(m4 k k1).2.2.2.2.2.2.2.2.1, (m4 k k1).2.2.2.2.2.2.2.2.2.1⟩
        unfold p_X6_signAt
        have g1 : 10 ≤ v2.toInt := by
          have := zle.mp (Int32.not_lt.mp c1)
          rwa [show (10 : Int32).toInt = 10 from rfl] at this
        have g2 := zle.mp y6.1
        have g3 := zle.mp y6.2
        rw [show (0 : Int32).toInt = 0 from rfl] at g2
        rw [show (6 : Int32).toInt = 6 from rfl] at g3
        have g4 := zhi v2
        have g5 : (9 + y : Int32).toInt = 9 + y.toInt := by rw [zadd] <;> rw [show (9 : Int32).toInt = 9 from rfl] <;> omega
        have g6 : (v2 - 10 : Int32).toInt = v2.toInt - 10 := by rw [zsub] <;> rw [show (10 : Int32).toInt = 10 from rfl] <;> omega
        have g7 : ¬ v2.toInt ≤ 9 + y.toInt := fun w => q ⟨Int32.not_lt.mp c1, by rw [zle, g5]; exact w⟩
        rw [← hy, if_neg (by rw [zlt, g6, show (0 : Int32).toInt = 0 from rfl]; omega), if_pos (by rw [zle, g6]; omega)]
      · rw [isIn_0, Classical.not_not] at q
        rcases shn_or hShn hj48 with e | ⟨k, k1, k2⟩
        · exfalso
          rw [hy, (s1 e).1] at q
          have := q.1
          have := q.2
          lia
        · have hy2 := (s2 k k1 k2).1
          obtain ⟨b1, b2, b3, b4, b5, b6, b7, b8, b9, b10, b11, b12⟩ := m4 k k1
          obtain ⟨s, t1, t2, t3⟩ := zi_le (n := 6) b9 b10 (by decide)
          rw [hy, hy2, t2] at q
          have hz := znI (n := s) (by omega)
          have h9 : ((9 : Int32) + nI s).toInt = 9 + s := by rw [zadd] <;> rw [hz, show (9 : Int32).toInt = 9 from rfl] <;> omega
          have q1 := zle.mp q.1
          have q2 := zle.mp q.2
          rw [show (10 : Int32).toInt = 10 from rfl] at q1
          rw [h9] at q2
          obtain ⟨i, i1, i2⟩ : ∃ i : Nat, i < s ∧ v2 = 10 + nI i := by
            have ez : (v2 - 10).toInt = v2.toInt - 10 := by rw [zsub] <;> rw [show (10 : Int32).toInt = 10 from rfl] <;> omega
            obtain ⟨i, w1, w2⟩ := zof (x := v2 - 10) (by rw [zle, ez, show (0 : Int32).toInt = 0 from rfl]; omega)
            rw [w2, znI w1] at ez
            exact ⟨i, by omega, by rw [← w2]; lia⟩
          subst i2
          have e1 : 6 * I 25 j + (10 + nI i) - 10 = nI (6 * k + i) := by
            rw [k2, show 6 * nI k + (10 + nI i) - 10 = 6 * nI k + nI i by lia, show (6 : Int32) = nI 6 from rfl, pk_mul, nI_add]
          have e2 : (10 + nI i - 10 : Int32) = nI i := by lia
          have e3 : nI k * 6 + nI i = nI (6 * k + i) := by rw [show (6 : Int32) = nI 6 from rfl, pk_mul, nI_add, Nat.mul_comm]
          rw [e1, znIc (by omega)]
          refine ⟨znIin (by omega) (by decide), ?_⟩
          unfold p_X6_signAt
          rw [e2, if_neg (nI_pos (by omega)), hy2, t2, if_neg (nI_ge i1 (by omega)), P 25, k2, e3, pick_in (by omega) (by decide)]
          exact (b12 i (by rw [t2]; exact nI_lt i1 (by omega)) (by omega)).1
  · exact ⟨_, rfl, ZC.of' (vX12_at_0 hS ⟨hv, fun q => absurd (m0.mpr c0) q, fun _ => ⟨rfl, rfl, hT⟩⟩) rfl (Nat.le_of_ble_eq_true rfl) rfl⟩
/-- the first four of look -/
theorem op_look03 {G : Gp} {S : zSh} {I : zFI} {L : zFL} {n jn mn tl ln on : Nat} {v1 : Int32} (h : iAll S I n jn mn tl ln on) (hv : ¬ (4 ≤ v1 ∧ v1 ≤ 6)) : zOpI G mX11_look fX11_look lX11_look mX12_look fX12_look lX12_look [.int v1] S I L 0 0 (fun S' I' L' => S' = S ∧ iAll S I' n jn mn tl ln on ∧ zSameJ I L I' L' jn ∧ I' 0 16 = I 0 16) := by
  have hT := h.told (L := L) 0
  obtain ⟨hS, hNow, hTim, hJnt, hMrk, hShn, hTap, hFlt, hCus, hRng, hLea, hOut, hWrd⟩ := h
  obtain ⟨hS', hNow', hTim', hJnt', hMrk', hShn', hTap', hFlt', hCus', hRng', hLea', hOut', hWrd'⟩ := id hT.1
  obtain ⟨a1, a2, a3, a4, a5, a6⟩ := id hNow
  obtain ⟨t1, t2, t3, t4, t5⟩ := id hTim
  obtain ⟨j1, j2, j3, j4, j5, j6⟩ := id hJnt
  refine ZC.of' (vX11_look_0 hS ⟨fun d => ?_, fun d => ?_, fun d => ?_, fun d => ?_, fun d => ?_, fun d => ?_, fun d => ?_, fun d0 d1 d2 d3 d4 d5 d6 => ?_⟩) rfl (Nat.le_of_ble_eq_true rfl) rfl
  · subst d
    refine ⟨_, rfl, ZC.of' (vX12_look_0 hS ⟨fun q => absurd rfl q, fun _ => ⟨?_, rfl, hT⟩⟩) rfl (Nat.le_of_ble_eq_true rfl) rfl⟩
    rw [a5]
  · subst d
    refine ⟨_, rfl, ZC.of' (vX12_look_0 hS ⟨fun _ => ⟨fun q => absurd rfl q, fun _ => ⟨?_, rfl, hT⟩⟩, fun q => absurd q (by decide)⟩) rfl (Nat.le_of_ble_eq_true rfl) rfl⟩
    rw [a6]
  · subst d
    refine c_timbersSeen hS hTim ⟨_, rfl, rfl, _, rfl, ZC.of' (vX12_look_0 hS ⟨fun _ => ⟨fun _ => ⟨fun q => absurd rfl q, fun _ => ?_⟩, fun q => absurd q (by decide)⟩, fun q => absurd q (by decide)⟩) rfl (Nat.le_of_ble_eq_true rfl) rfl⟩
    have key : ∀ k m : Nat, m + k = n → ZW G mX12_look fX12_look lX12_look 33 [zo G 84, .int 2, .int (nI (zcnt (fun k => decide (¬ p_X12_isTimber (u2 I 84 0 0) (nI k) = 0)) m)), .int (nI m), .null, .null] [] S (u2 I 84 0 0) L 0 0 (fun v' S'' I'' L'' => v' = some (.int (nI (zsn I n))) ∧ (fun S' I' L' => S' = S ∧ iAll S I' n jn mn tl ln on ∧ zSameJ I L I' L' jn ∧ I' 0 16 = I 0 16) S'' I'' L'') := by
      intro k
      induction k with
      | zero =>
        intro m hm
        have : m = n := by omega
        subst this
        refine vX12_look_33 hS ⟨fun _ => ⟨?_, rfl, hT⟩, fun hc => ?_⟩
        · have e : zcnt (fun k => decide (¬ p_X12_isTimber (u2 I 84 0 0) (nI k) = 0)) m = zsn I m := by
            have sl := zsn_le I m
            have e : zcnt (fun k => decide (¬ p_X12_isTimber (u2 I 84 0 0) (nI k) = 0)) m = zcnt (fun k => decide (I 13 k ≤ p_X11_lastDaySeen I)) m := by
              refine zcnt_congr (fun k hk => ?_)
              rw [decide_eq_decide, mTim_0 hNow' hTim', Classical.not_not]
              show 0 ≤ nI k ∧ nI k < nI (zsn I m) ↔ _
              rw [zsn_lt hTim hk, nI_ltI (by omega) (by omega)]
              exact ⟨fun q => q.2, fun q => ⟨nI_pos' (by omega), q⟩⟩
            rw [e]
            exact zcnt_mono (fun i k h1 h2 h3 => decide_eq_true (Int32.le_trans (t5 i k h1 h2) (of_decide_eq_true h3)))
          rw [e]
        · have hc : ¬ I 84 3 ≤ nI m := hc
          rw [t3] at hc
          exact absurd (Int32.le_refl _) hc
      | succ k ih =>
        intro m hm
        have hn := ih (m + 1) (by omega)
        rw [zcnt_succ, ← nI_1 m] at hn
        refine vX12_look_33 hS ⟨fun hc => ?_, fun _ => ⟨fun _ _ => znIin (by omega) (by decide), fun hd => ?_, fun hd => ?_⟩⟩
        · have hc : I 84 3 ≤ nI m := hc
          rw [t3] at hc
          exact absurd hc (nI_ge (by omega) (by omega))
        · rw [if_neg (by simp [hd])] at hn
          exact hn
        · rw [if_pos (by simp [hd]), ← nI_1] at hn
          exact hn
    exact key n 0 (by omega)
  · subst d
    refine c_jointsSeen hS hJnt ⟨_, rfl, rfl, _, rfl, ZC.of' (vX12_look_0 hS ⟨fun _ => ⟨fun _ => ⟨fun _ => ⟨fun q => absurd rfl q, fun _ => ?_⟩, fun q => absurd q (by decide)⟩, fun q => absurd q (by decide)⟩, fun q => absurd q (by decide)⟩) rfl (Nat.le_of_ble_eq_true rfl) rfl⟩
    have key : ∀ k m : Nat, m + k = jn → ZW G mX12_look fX12_look lX12_look 68 [zo G 84, .int 3, .int (nI (zcnt (fun k => decide (¬ p_X12_isJoint (u2 I 84 0 0) (nI k) = 0)) m)), .int (nI m), .null, .null] [] S (u2 I 84 0 0) L 0 0 (fun v' S'' I'' L'' => v' = some (.int (nI (zsj I jn))) ∧ (fun S' I' L' => S' = S ∧ iAll S I' n jn mn tl ln on ∧ zSameJ I L I' L' jn ∧ I' 0 16 = I 0 16) S'' I'' L'') := by
      intro k
      induction k with
      | zero =>
        intro m hm
        have : m = jn := by omega
        subst this
        refine vX12_look_68 hS ⟨fun _ => ⟨?_, rfl, hT⟩, fun hc => ?_⟩
        · have e : zcnt (fun k => decide (¬ p_X12_isJoint (u2 I 84 0 0) (nI k) = 0)) m = zsj I m := by
            have e := zsj_eq (f := fun _ => true) hNow' hJnt'
            rw [zcnt_all] at e
            have e2 : zcnt (fun k => decide (¬ p_X12_isJoint (u2 I 84 0 0) (nI k) = 0)) m = zcnt (fun k => decide (¬ p_X12_isJoint (u2 I 84 0 0) (nI k) = 0) && true) m := zcnt_congr (fun k _ => (Bool.and_true _).symm)
            rw [e2, e]
            rfl
          rw [e]
        · have hc : ¬ I 84 13 ≤ nI m := hc
          rw [j3] at hc
          exact absurd (Int32.le_refl _) hc
      | succ k ih =>
        intro m hm
        have hn := ih (m + 1) (by omega)
        rw [zcnt_succ, ← nI_1 m] at hn
        refine vX12_look_68 hS ⟨fun hc => ?_, fun _ => ⟨fun _ _ => znIin (by omega) (by decide), fun hd => ?_, fun hd => ?_⟩⟩
        · have hc : I 84 13 ≤ nI m := hc
          rw [j3] at hc
          exact absurd hc (nI_ge (by omega) (by omega))
        · rw [if_neg (by simp [hd])] at hn
          exact hn
        · rw [if_pos (by simp [hd]), ← nI_1] at hn
          exact hn
    exact key jn 0 (by omega)
  · exact absurd (by rw [d]; decide) hv
  · exact absurd (by rw [d]; decide) hv
  · exact absurd (by rw [d]; decide) hv
  · exact ⟨_, rfl, ZC.of' (vX12_look_0 hS ⟨fun _ => ⟨fun _ => ⟨fun _ => ⟨fun _ => ⟨fun q => absurd (isIn_0 _ _ _ |>.mpr hv) q, fun _ => ⟨rfl, rfl, hT⟩⟩, fun q => absurd q d3⟩, fun q => absurd q d2⟩, fun q => absurd q d1⟩, fun q => absurd q d0⟩) rfl (Nat.le_of_ble_eq_true rfl) rfl⟩
