theorem zlate_or (p : Nat → Bool) : ∀ n, zlate p n = -1 ∨ ∃ k, k < n ∧ zlate p n = nI k ∧ p k = true
  | 0 => Or.inl rfl
  | n + 1 => by
    rw [zlate_succ]
    by_cases c : p n = true
    · rw [if_pos c]
      exact Or.inr ⟨n, Nat.lt_succ_self n, rfl, c⟩
    · rw [if_neg c]
      rcases zlate_or p n with h | ⟨k, h1, h2, h3⟩
      · exact Or.inl h
      · exact Or.inr ⟨k, Nat.lt_succ_of_lt h1, h2, h3⟩
theorem shn_or {I : zFI} {mn j : Nat} (h : iShn I mn) (hj : j < 48) : I 25 j = -1 ∨ ∃ k, k < mn ∧ I 25 j = nI k := by
  rw [h j hj]
  rcases zlate_or (fun k => decide (I 21 k ≤ p_X11_lastDaySeen I) && decide (I 20 k = nI j)) mn with h | ⟨k, h1, h2, -⟩
  · exact Or.inl h
  · exact Or.inr ⟨k, h1, h2⟩
theorem pick_in {I : zFI} {a N k : Nat} (hk : k < N) (hN : N < 2147483648) : p_X11_pick I a N (nI k) = I a k := by
  unfold p_X11_pick
  rw [if_neg (nI_pos (by omega)), if_neg (show ¬ Int32.ofNat N ≤ nI k from nI_ge hk (by omega)), znIc (by omega)]
theorem pick_no {I : zFI} {a N : Nat} : p_X11_pick I a N (-1) = -1 := by
  unfold p_X11_pick
  rw [if_pos (by decide)]
theorem m_mark25 {G : Gp} {Q : zPost} {S : zSh} {I : zFI} {L : zFL} {j jn mn : Nat} (hS : zStd S) (hNow : iNow I) (hMrk : iMrk I jn mn) (hShn : iShn I mn) (hj : j < 48) (h : Q (some (.int (I 25 j))) S I L) : ZC G mX12_markOf fX12_markOf lX12_markOf [zo G 84, .int (nI j)] S I L 0 0 Q := by
  obtain ⟨m1, m2, m3, m4⟩ := id hMrk
  refine m_markOf hS m3 m2 ?_
  rw [hShn j hj] at h
  have e : zlate (fun k => decide (¬ p_X12_isSeen I (I 100 k) = 0) && decide (I 99 k = nI j)) mn = zlate (fun k => decide (I 21 k ≤ p_X11_lastDaySeen I) && decide (I 20 k = nI j)) mn := by
    refine zlate_congr (fun k hk => ?_)
    obtain ⟨b1, b2, b3, b4, b5, b6, b7, b8, -⟩ := m4 k hk
    have := seen_0 hNow b8
    rw [b1, b2]
    congr 1
    rw [decide_eq_decide, this, Classical.not_not]
  rw [e]
  exact h
theorem signs_eq {I : zFI} {jn mn j : Nat} (hMrk : iMrk I jn mn) (hShn : iShn I mn) (hj : j < 48) : (I 25 j = -1 → p_X6_signsOn I (nI j) = 0 ∧ p_X6_sideOf I (nI j) = 0) ∧ ∀ k, k < mn → I 25 j = nI k → p_X6_signsOn I (nI j) = I 22 k ∧ p_X6_sideOf I (nI j) = I 23 k := by
  obtain ⟨m1, m2, m3, m4⟩ := id hMrk
  unfold p_X6_signsOn p_X6_sideOf
  rw [pick_in hj (by decide)]
  constructor
  · intro e
    rw [e, pick_no, pick_no]
    exact ⟨rfl, rfl⟩
  · intro k hk e
    rw [e, pick_in (by omega) (by decide), pick_in (by omega) (by decide)]
    obtain ⟨b1, b2, b3, b4, b5, b6, b7, b8, b9, b10, b11, -⟩ := m4 k hk
    constructor
    · by_cases c : 0 < I 22 k
      · rw [if_pos c]
      · rw [if_neg c]
        exact Int32.le_antisymm b9 (Int32.not_lt.mp c)
    · rcases b11 with e | e <;> rw [e] <;> rfl
theorem m_signsOf {G : Gp} {Q : zPost} {S : zSh} {I : zFI} {L : zFL} {j jn mn : Nat} (hS : zStd S) (hNow : iNow I) (hMrk : iMrk I jn mn) (hShn : iShn I mn) (hj : j < 48) (h : Q (some (.int (p_X6_signsOn I (nI j)))) S I L) : ZC G mX12_signsOf fX12_signsOf lX12_signsOf [zo G 84, .int (nI j)] S I L 0 0 Q := by
  obtain ⟨m1, m2, m3, m4⟩ := id hMrk
  obtain ⟨s1, s2⟩ := signs_eq hMrk hShn hj
  refine ZC.of' (vX12_signsOf_0 hS (m_mark25 hS hNow hMrk hShn hj ⟨_, rfl, rfl, fun hc => ?_, fun hc => ?_⟩)) rfl (Nat.le_of_ble_eq_true rfl) rfl
  · rcases shn_or hShn hj with e | ⟨k, k1, k2⟩
    · exact absurd e hc
    · rw [(s2 k k1 k2).1] at h
      rw [k2, znIc (by omega), (m4 k k1).2.2.1]
      exact ⟨znIin (by omega) (by decide), h⟩
  · rw [(s1 hc).1] at h
    exact h
theorem m_sideOf {G : Gp} {Q : zPost} {S : zSh} {I : zFI} {L : zFL} {j jn mn : Nat} (hS : zStd S) (hNow : iNow I) (hMrk : iMrk I jn mn) (hShn : iShn I mn) (hj : j < 48) (h : Q (some (.int (p_X6_sideOf I (nI j)))) S I L) : ZC G mX12_sideOf fX12_sideOf lX12_sideOf [zo G 84, .int (nI j)] S I L 0 0 Q := by
  obtain ⟨m1, m2, m3, m4⟩ := id hMrk
  obtain ⟨s1, s2⟩ := signs_eq hMrk hShn hj
  refine ZC.of' (vX12_sideOf_0 hS (m_mark25 hS hNow hMrk hShn hj ⟨_, rfl, rfl, fun hc => ?_, fun hc => ?_⟩)) rfl (Nat.le_of_ble_eq_true rfl) rfl
  · rcases shn_or hShn hj with e | ⟨k, k1, k2⟩
    · exact absurd e hc
    · rw [(s2 k k1 k2).2] at h
      rw [k2, znIc (by omega), (m4 k k1).2.2.2.1]
      exact ⟨znIin (by omega) (by decide), h⟩
  · rw [(s1 hc).2] at h
    exact h
theorem zsj_eq {I : zFI} {n jn : Nat} {f : Nat → Bool} (hNow : iNow I) (hJ : iJnt I n jn) : zcnt (fun k => decide (¬ p_X12_isJoint I (nI k) = 0) && f k) jn = zcnt f (zsj I jn) := by
  have hle := zsj_le I jn
  have hn := hJ.2.1
  have e : zcnt (fun k => decide (¬ p_X12_isJoint I (nI k) = 0) && f k) jn = zcnt (fun k => decide (I 18 k ≤ p_X11_lastDaySeen I) && f k) jn := by
    refine zcnt_congr (fun k hk => ?_)
    congr 1
    rw [decide_eq_decide, mJnt_0 hNow hJ, Classical.not_not, zsj_lt hJ hk, nI_ltI (by omega) (by omega)]
    exact ⟨fun q => q.2, fun q => ⟨nI_pos' (by omega), q⟩⟩
  rw [e]
  exact zcnt_lead (fun i k h1 h2 h3 => decide_eq_true (Int32.le_trans (hJ.2.2.2.2.1 i k h1 h2) (of_decide_eq_true h3)))
theorem op_of {G : Gp} {S : zSh} {I : zFI} {L : zFL} {n jn mn tl ln on : Nat} {v1 v2 : Int32} (h : iAll S I n jn mn tl ln on) : zOpI G mX11_of fX11_of lX11_of mX12_of fX12_of lX12_of [.int v1, .int v2] S I L 0 0 (fun S' I' L' => S' = S ∧ iAll S I' n jn mn tl ln on ∧ zSameJ I L I' L' jn ∧ I' 0 16 = I 0 16) := by
  have hT := h.told (L := L) 0
  obtain ⟨hS, hNow, hTim, hJnt, hMrk, hShn, hTap, hFlt, hCus, hRng, hLea, hOut, hWrd⟩ := h
  obtain ⟨hS', hNow', hTim', hJnt', hMrk', hShn', hTap', hFlt', hCus', hRng', hLea', hOut', hWrd'⟩ := id hT.1
  obtain ⟨t1, t2, t3, t4, t5⟩ := id hTim
  obtain ⟨j1, j2, j3, j4, j5, j6⟩ := id hJnt
  have sl := zsn_le I n
  have sj := zsj_le I jn
  have m0 : p_X12_isTimber (u2 I 84 0 0) v1 = 0 ↔ ¬ (0 ≤ v1 ∧ v1 < nI (zsn I n)) := mTim_0 hNow' hTim'
  have hv : ¬ v1 < 0 → ¬ (u2 I 84 0 0) 84 3 ≤ v1 → vp_in v1 16 := fun a b => by
    refine zvin (m := 16) rfl (Int32.not_lt.mp a) ?_
    have b : ¬ I 84 3 ≤ v1 := b
    rw [t3, Int32.not_le, zlt, znI (by omega)] at b
    rw [zlt, show (16 : Int32).toInt = 16 from rfl]
    omega
  refine ZC.of' (vX11_of_0 hS (c_isTimber hS hTim (fun t u1 u2' => ⟨_, rfl, rfl, fun _ => ?_, fun q => absurd q (by decide)⟩) (fun c0 => ⟨_, rfl, rfl, fun q => absurd rfl q, fun _ => ?_⟩))) rfl (Nat.le_of_ble_eq_true rfl) rfl
  · subst u2'
    have c0 : ¬ p_X12_isTimber (u2 I 84 0 0) (nI t) = 0 := fun q => m0.mp q ⟨nI_pos' (by omega), nI_lt u1 (by omega)⟩
    have htc : (nI t).toNatClampNeg = t := znIc (by omega)
    have hin : vp_in (nI t) 16 := znIin (by omega) (by decide)
    obtain ⟨b1, b2, b3, -⟩ := t4 t (by omega)
    obtain ⟨r1, r2, r3, r4, r5, r6, r7, r8, r9⟩ := hRng.2 t (by omega)
    have P : ∀ a, p_X11_pick I a 16 (nI t) = I a t := fun a => pick_in (by omega) (by decide)
    refine ⟨fun d => ?_, fun d => ?_, fun d => ?_, fun d => ?_, fun d => ?_, fun d => ?_, fun d => ?_, fun d0 d1 d2 d3 d4 d5 d6 => ?_⟩
    · subst d
      refine ⟨_, rfl, ZC.of' (vX12_of_0 hS ⟨hv, fun _ => ⟨fun q => absurd rfl q, fun _ => ⟨hin, ?_, rfl, hT⟩⟩, fun q => absurd q c0⟩) rfl (Nat.le_of_ble_eq_true rfl) rfl⟩
      rw [htc, b1]
      exact congrArg (fun x => some (Value.int x)) (P 11).symm
    · subst d
      refine ⟨_, rfl, ZC.of' (vX12_of_0 hS ⟨hv, fun _ => ⟨fun _ => ⟨fun q => absurd rfl q, fun _ => ⟨hin, ?_, rfl, hT⟩⟩, fun q => absurd q (by decide)⟩, fun q => absurd q c0⟩) rfl (Nat.le_of_ble_eq_true rfl) rfl⟩
      rw [htc, b2]
      exact congrArg (fun x => some (Value.int x)) (P 12).symm
    · subst d
      refine c_jointsSeen hS hJnt ⟨_, rfl, rfl, c_jointsOf hS (by omega) ⟨_, rfl, rfl, _, rfl, ZC.of' (vX12_of_0 hS ⟨hv, fun _ => ⟨fun _ => ⟨fun _ => ⟨fun q => absurd rfl q, fun _ => m_jointsSeen hS j3 j2 ⟨_, rfl, rfl, ?_, rfl, hT⟩⟩, fun q => absurd q (by decide)⟩, fun q => absurd q (by decide)⟩, fun q => absurd q c0⟩) rfl (Nat.le_of_ble_eq_true rfl) rfl⟩⟩
      have e := zsj_eq (f := fun k => decide ((u2 I 84 0 0) 94 k = nI t)) hNow' hJnt'
      rw [e]
      have e2 : zcnt (fun k => decide (u2 I 84 0 0 94 k = nI t)) (zsj (u2 I 84 0 0) jn) = zcnt (fun k => decide (I 14 k = nI t)) (zsj I jn) := by
        show zcnt (fun k => decide (I 94 k = nI t)) (zsj I jn) = _
        exact zcnt_congr (fun k hk => by rw [(j4 k (by omega)).1])
      rw [e2]
    · subst d
      obtain ⟨q, q1, q2, q3⟩ := zi_le (n := 24) r2 r3 (by decide)
      refine c_ringsSeen hS (by omega) q2 q1 ⟨_, rfl, rfl, _, rfl, ZC.of' (vX12_of_0 hS ⟨hv, fun _ => ⟨fun _ => ⟨fun _ => ⟨fun _ => ⟨fun q => absurd rfl q, fun _ => m_ringsSeen hS (by omega) (q := q) (r1.trans q2) q1 ⟨_, rfl, rfl, ?_, rfl, hT⟩⟩, fun q => absurd q (by decide)⟩, fun q => absurd q (by decide)⟩, fun q => absurd q (by decide)⟩, fun q => absurd q c0⟩) rfl (Nat.le_of_ble_eq_true rfl) rfl⟩
      refine congrArg (fun x => some (Value.int (nI x))) (zlead_congr (fun k hk => ?_))
      obtain ⟨s1, s2, s3, s4, s5, s6⟩ := r9 k (by rw [q2]; exact nI_lt hk (by omega)) (by omega)
      rw [decide_eq_decide]
      show ¬ p_X12_isSeen (u2 I 84 0 0) (I 91 (24 * t + k)) = 0 ↔ _
      rw [s2, seen_0 hNow' s6, Classical.not_not]
      rfl
    · subst d
      refine ⟨_, rfl, ZC.of' (vX12_of_0 hS ⟨hv, fun _ => ⟨fun _ => ⟨fun _ => ⟨fun _ => ⟨fun _ => ⟨fun q => absurd rfl q, fun _ => ⟨hin, ?_, rfl, hT⟩⟩, fun q => absurd q (by decide)⟩, fun q => absurd q (by decide)⟩, fun q => absurd q (by decide)⟩, fun q => absurd q (by decide)⟩, fun q => absurd q c0⟩) rfl (Nat.le_of_ble_eq_true rfl) rfl⟩
      rw [htc, r4]
      exact congrArg (fun x => some (Value.int x)) (P 72).symm
    · subst d
      have e : p_X8_barkTold I (nI t) = I 73 t := by
        unfold p_X8_barkTold
        rw [if_neg (nI_pos (by omega)), if_neg (show ¬ (16 : Int32) ≤ nI t from nI_ge (b := 16) (by omega) (by omega)), htc]
        rcases r8 with e | e <;> rw [e] <;> rfl
      rw [e]
      have mm : ∀ x : Int32, I 73 t = x → ZC G mX12_of fX12_of lX12_of [zo G 84, .int (nI t), .int 5] S I L 0 0 (fun v' S'' I'' L'' => v' = some (.int x) ∧ (fun S' I' L' => S' = S ∧ iAll S I' n jn mn tl ln on ∧ zSameJ I L I' L' jn ∧ I' 0 16 = I 0 16) S'' I'' L'') := fun x hx => by
        refine ZC.of' (vX12_of_0 hS ⟨hv, fun _ => ⟨fun _ => ⟨fun _ => ⟨fun _ => ⟨fun _ => ⟨fun _ => ⟨fun q => absurd rfl q, fun _ => ⟨hin, fun q => ⟨?_, rfl, hT⟩, fun q => ⟨?_, rfl, hT⟩⟩⟩, fun q => absurd q (by decide)⟩, fun q => absurd q (by decide)⟩, fun q => absurd q (by decide)⟩, fun q => absurd q (by decide)⟩, fun q => absurd q (by decide)⟩, fun q => absurd q c0⟩) rfl (Nat.le_of_ble_eq_true rfl) rfl
        · rw [htc, r7] at q
          rw [← hx, q]
        · rw [htc, r7] at q
          rw [← hx]
          rcases r8 with e | e
          · exact absurd e q
          · rw [e]
      exact ⟨fun q => ⟨_, rfl, mm _ q⟩, fun q => ⟨_, rfl, mm _ (r8.resolve_left q)⟩⟩
    · subst d
      refine ⟨_, rfl, ZC.of' (vX12_of_0 hS ⟨hv, fun _ => ⟨fun _ => ⟨fun _ => ⟨fun _ => ⟨fun _ => ⟨fun _ => ⟨fun _ => ⟨fun q => absurd rfl q, fun _ => ⟨hin, ?_, rfl, hT⟩⟩, fun q => absurd q (by decide)⟩, fun q => absurd q (by decide)⟩, fun q => absurd q (by decide)⟩, fun q => absurd q (by decide)⟩, fun q => absurd q (by decide)⟩, fun q => absurd q (by decide)⟩, fun q => absurd q c0⟩) rfl (Nat.le_of_ble_eq_true rfl) rfl⟩
      rw [htc, b3]
      exact congrArg (fun x => some (Value.int x)) (P 13).symm
    · exact ⟨_, rfl, ZC.of' (vX12_of_0 hS ⟨hv, fun _ => ⟨fun _ => ⟨fun _ => ⟨fun _ => ⟨fun _ => ⟨fun _ => ⟨fun _ => ⟨fun _ => ⟨rfl, rfl, hT⟩, fun q => absurd q d6⟩, fun q => absurd q d5⟩, fun q => absurd q d4⟩, fun q => absurd q d3⟩, fun q => absurd q d2⟩, fun q => absurd q d1⟩, fun q => absurd q d0⟩, fun q => absurd q c0⟩) rfl (Nat.le_of_ble_eq_true rfl) rfl⟩
  · exact ⟨_, rfl, ZC.of' (vX12_of_0 hS ⟨hv, fun q => absurd (m0.mpr c0) q, fun _ => ⟨rfl, rfl, hT⟩⟩) rfl (Nat.le_of_ble_eq_true rfl) rfl⟩
