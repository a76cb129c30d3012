/-- Rings.ringsSeen -/
theorem c_ringsSeen {G : Gp} {Q : zPost} {S : zSh} {I : zFI} {L : zFL} {d : Int32} {t q : Nat} (hS : zStd S) (ht : t < 16) (hq : I 69 t = nI q) (hq2 : q ≤ 24) (h : Q (some (.int (nI (zlead (fun k => decide (I 71 (24 * t + k) ≤ d)) q)))) S I L) : ZC G mX8_ringsSeen fX8_ringsSeen lX8_ringsSeen [zo G 67, .int (nI t), .int d] S I L 0 0 Q := by
  have htc : (nI t).toNatClampNeg = t := znIc (by omega)
  have hti : vp_in (nI t) 16 := znIin ht (by decide)
  have key : ∀ k m : Nat, m + k = q → (∀ j, j < m → I 71 (24 * t + j) ≤ d) → ZW G mX8_ringsSeen fX8_ringsSeen lX8_ringsSeen 14 [zo G 67, .int (nI t), .int d, .int (nI m)] [] S I L 0 0 Q := by
    intro k
    induction k with
    | zero =>
      intro m hm h1
      have : m = q := by omega
      subst this
      have e : zlead (fun k => decide (I 71 (24 * t + k) ≤ d)) m = m := zlead_eq (Nat.le_refl _) (fun j hj => decide_eq_true (h1 j hj)) (fun q => absurd q (Nat.lt_irrefl _))
      rw [e] at h
      refine vX8_ringsSeen_14 hS ⟨hti, fun _ => h, fun hc => ?_⟩
      rw [htc, hq] at hc
      exact absurd (Int32.le_refl _) hc
    | succ k ih =>
      intro m hm h1
      have ex : nI t * 24 + nI m = nI (24 * t + m) := by rw [show (24 : Int32) = nI 24 from rfl, pk_mul, nI_add, Nat.mul_comm]
      have hcl : (nI (24 * t + m)).toNatClampNeg = 24 * t + m := znIc (by omega)
      refine vX8_ringsSeen_14 hS ⟨hti, fun hc => ?_, fun _ => ⟨fun hc => absurd hc (show ¬ (24 : Int32) ≤ nI m from nI_ge (b := 24) (by omega) (by omega)), fun _ => ⟨by rw [ex]; exact znIin (by omega) (by decide), fun hc => ?_, fun hc => ?_⟩⟩⟩
      · rw [htc, hq] at hc
        exact absurd hc (nI_ge (by omega) (by omega))
      · rw [ex, hcl] at hc
        have e : zlead (fun k => decide (I 71 (24 * t + k) ≤ d)) q = m := zlead_eq (by omega) (fun j hj => decide_eq_true (h1 j hj)) (fun _ => decide_eq_false (Int32.not_le.mpr hc))
        rw [e] at h
        exact h
      · rw [ex, hcl] at hc
        rw [nI_1]
        refine ih (m + 1) (by omega) (fun j hj => ?_)
        rcases (by omega : j < m ∨ j = m) with w | rfl
        · exact h1 j w
        · exact Int32.not_lt.mp hc
  refine ZC.of' (vX8_ringsSeen_0 hS ⟨fun hc => absurd hc (nI_pos (by omega)), fun _ => ⟨fun _ => key q 0 (by omega) (fun j hj => absurd hj (Nat.not_lt_zero _)), fun hc => ?_⟩⟩) rfl (Nat.le_of_ble_eq_true rfl) rfl
  exact absurd (show nI t < nI 16 from nI_lt ht (by omega)) hc
/-- the model's ringsSeen -/
theorem m_ringsSeen {G : Gp} {Q : zPost} {S : zSh} {I : zFI} {L : zFL} {t q : Nat} (hS : zStd S) (ht : t < 16) (hq : I 89 t = nI q) (hq2 : q ≤ 24) (h : Q (some (.int (nI (zlead (fun k => decide (¬ p_X12_isSeen I (I 91 (24 * t + k)) = 0)) q)))) S I L) : ZC G mX12_ringsSeen fX12_ringsSeen lX12_ringsSeen [zo G 84, .int (nI t)] S I L 0 0 Q := by
  have htc : (nI t).toNatClampNeg = t := znIc (by omega)
  have hti : vp_in (nI t) 16 := znIin ht (by decide)
  have key : ∀ k m : Nat, m + k = q → (∀ j, j < m → ¬ p_X12_isSeen I (I 91 (24 * t + j)) = 0) → ZW G mX12_ringsSeen fX12_ringsSeen lX12_ringsSeen 2 [zo G 84, .int (nI t), .int (nI m)] [] S I L 0 0 Q := by
    intro k
    induction k with
    | zero =>
      intro m hm h1
      have : m = q := by omega
      subst this
      have e : zlead (fun k => decide (¬ p_X12_isSeen I (I 91 (24 * t + k)) = 0)) m = m := zlead_eq (Nat.le_refl _) (fun j hj => decide_eq_true (h1 j hj)) (fun q => absurd q (Nat.lt_irrefl _))
      rw [e] at h
      refine vX12_ringsSeen_2 hS ⟨hti, fun _ => h, fun hc => ?_⟩
      rw [htc, hq] at hc
      exact absurd (Int32.le_refl _) hc
    | succ k ih =>
      intro m hm h1
      have ex : 24 * nI t + nI m = nI (24 * t + m) := by rw [show (24 : Int32) = nI 24 from rfl, pk_mul, nI_add]
      have hcl : (nI (24 * t + m)).toNatClampNeg = 24 * t + m := znIc (by omega)
      refine vX12_ringsSeen_2 hS ⟨hti, fun hc => ?_, fun _ => ⟨by rw [ex]; exact znIin (by omega) (by decide), fun hc => ?_, fun hc => ?_⟩⟩
      · rw [htc, hq] at hc
        exact absurd hc (nI_ge (by omega) (by omega))
      · rw [ex, hcl] at hc
        have e : zlead (fun k => decide (¬ p_X12_isSeen I (I 91 (24 * t + k)) = 0)) q = m := zlead_eq (by omega) (fun j hj => decide_eq_true (h1 j hj)) (fun _ => decide_eq_false (fun w => w hc))
        rw [e] at h
        exact h
      · rw [ex, hcl] at hc
        rw [nI_1]
        refine ih (m + 1) (by omega) (fun j hj => ?_)
        rcases (by omega : j < m ∨ j = m) with w | rfl
        · exact h1 j w
        · exact hc
  exact ZC.of' (vX12_ringsSeen_0 hS (key q 0 (by omega) (fun j hj => absurd hj (Nat.not_lt_zero _)))) rfl (Nat.le_of_ble_eq_true rfl) rfl
/-- the model's jointsSeen -/
theorem m_jointsSeen {G : Gp} {Q : zPost} {S : zSh} {I : zFI} {L : zFL} {v : Int32} {jn : Nat} (hS : zStd S) (hj : I 84 13 = nI jn) (hj2 : jn ≤ 48) (h : Q (some (.int (nI (zcnt (fun k => decide (¬ p_X12_isJoint I (nI k) = 0) && decide (I 94 k = v)) jn)))) S I L) : ZC G mX12_jointsSeen fX12_jointsSeen lX12_jointsSeen [zo G 84, .int v] S I L 0 0 Q := by
  have key : ∀ k m : Nat, m + k = jn → ZW G mX12_jointsSeen fX12_jointsSeen lX12_jointsSeen 4 [zo G 84, .int v, .int (nI (zcnt (fun k => decide (¬ p_X12_isJoint I (nI k) = 0) && decide (I 94 k = v)) m)), .int (nI m)] [] S I L 0 0 Q := by
    intro k
    induction k with
    | zero =>
      intro m hm
      have : m = jn := by omega
      subst this
      refine vX12_jointsSeen_4 hS ⟨fun _ => h, fun hc => ?_⟩
      rw [hj] at hc
      exact absurd (Int32.le_refl _) hc
    | succ k ih =>
      intro m hm
      have hcl : (nI m).toNatClampNeg = m := znIc (by omega)
      have hin : vp_in (nI m) 48 := znIin (by omega) (by decide)
      have hn := ih (m + 1) (by omega)
      rw [zcnt_succ, ← nI_1 m] at hn
      refine vX12_jointsSeen_4 hS ⟨fun hc => ?_, fun _ => ⟨hin, fun hc => ?_, fun hc => ⟨fun _ _ => hin, fun hd => ?_, fun hd => ?_⟩⟩⟩
      · rw [hj] at hc
        exact absurd hc (nI_ge (by omega) (by omega))
      · rw [hcl] at hc
        rw [if_neg (by simp [hc])] at hn
        exact hn
      · rw [if_neg (by simp [hd])] at hn
        exact hn
      · rw [hcl] at hc
        rw [if_pos (by simp [hc, hd]), ← nI_1] at hn
        exact hn
  exact ZC.of' (vX12_jointsSeen_0 hS (key jn 0 (by omega))) rfl (Nat.le_of_ble_eq_true rfl) rfl
/-- the model's markOf -/
theorem m_markOf {G : Gp} {Q : zPost} {S : zSh} {I : zFI} {L : zFL} {v : Int32} {mn : Nat} (hS : zStd S) (hm : I 84 19 = nI mn) (hm2 : mn ≤ 200) (h : Q (some (.int (zlate (fun k => decide (¬ p_X12_isSeen I (I 100 k) = 0) && decide (I 99 k = v)) mn))) S I L) : ZC G mX12_markOf fX12_markOf lX12_markOf [zo G 84, .int v] S I L 0 0 Q := by
  have key : ∀ m : Nat, m ≤ mn → Q (some (.int (zlate (fun k => decide (¬ p_X12_isSeen I (I 100 k) = 0) && decide (I 99 k = v)) m))) S I L → ZW G mX12_markOf fX12_markOf lX12_markOf 7 [zo G 84, .int v, .int (nI m + -1)] [] S I L 0 0 Q := by
    intro m
    induction m with
    | zero =>
      intro hm h
      refine vX12_markOf_7 hS ⟨fun _ => h, fun hc => ?_⟩
      exact absurd (by decide) hc
    | succ m ih =>
      intro hm h
      have e : nI (m + 1) + -1 = nI m := by
        rw [← nI_1]
        lia
      rw [e]
      have hcl : (nI m).toNatClampNeg = m := znIc (by omega)
      rw [zlate_succ] at h
      refine vX12_markOf_7 hS ⟨fun hc => absurd hc (nI_pos (by omega)), fun _ => ⟨znIin (by omega) (by decide), fun hc => ?_, fun hc => ⟨fun hd => ?_, fun hd => ?_⟩⟩⟩
      · rw [hcl] at hc
        rw [if_neg (by simp [hc])] at h
        exact ih (by omega) h
      · rw [hcl] at hd
        rw [if_neg (by simp [hd])] at h
        exact ih (by omega) h
      · rw [hcl] at hc hd
        rw [if_pos (by simp [hc, hd])] at h
        exact h
  refine ZC.of' (vX12_markOf_0 hS ?_) rfl (Nat.le_of_ble_eq_true rfl) rfl
  rw [hm, show nI mn - 1 = nI mn + -1 by lia]
  exact key mn (Nat.le_refl _) h
