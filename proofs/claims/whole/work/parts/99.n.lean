/-- the model's members of the set v2, upward -/
theorem m_take {G : Gp} {Q : zPost} {S : zSh} {I : zFI} {L : zFL} {n : Nat} {v1 v2 : Int32} (hS : zStd S) (hn : n ≤ 16) (h3 : I 84 3 = nI n)
    (q : ∀ J, (∀ b, b ≠ 84 → b ≠ 126 → J b = I b) → (∀ k, k ≠ 66 → J 84 k = I 84 k) → J 84 66 = nI (zcnt (zbb v2) n) → (∀ t, t < n → zbb v2 t = true → J 126 (zcnt (zbb v2) t) = nI t) → ZW G mX12_findRaisings fX12_findRaisings lX12_findRaisings 54 [zo G 84, .int v1, .int v2, .int 0, .null, .null, .null, .null] [] S J L 0 0 Q) : ZC G mX12_findRaisings fX12_findRaisings lX12_findRaisings [zo G 84, .int v1, .int v2] S I L 0 0 Q := by
  have main : ∀ (k t : Nat) (J : zFI), t + k = n → (∀ b, b ≠ 84 → b ≠ 126 → J b = I b) → (∀ k, k ≠ 66 → J 84 k = I 84 k) → J 84 66 = nI (zcnt (zbb v2) t) → (∀ t', t' < t → zbb v2 t' = true → J 126 (zcnt (zbb v2) t') = nI t') → ZW G mX12_findRaisings fX12_findRaisings lX12_findRaisings 7 [zo G 84, .int v1, .int v2, .int (nI t), .null, .null, .null, .null] [] S J L 0 0 Q := by
    intro k
    induction k with
    | zero =>
      intro t J ht j1 j2 j3 j4
      have : t = n := by omega
      rw [this] at j3 j4
      rw [this]
      refine vX12_findRaisings_7 hS ⟨fun _ => q J j1 j2 j3 j4, fun no => ?_⟩
      rw [j2 3 (by omega), h3] at no
      exact absurd (Int32.le_refl _) no
    | succ k ih =>
      intro t J ht j1 j2 j3 j4
      have cl := zcnt_le (zbb v2) t
      refine vX12_findRaisings_7 hS ⟨fun no => ?_, fun _ => ⟨fun c => ⟨?_, ?_⟩, fun c => ?_⟩⟩
      · rw [j2 3 (by omega), h3] at no
        exact absurd no (nI_ge (by omega) (by omega))
      · rw [j3]
        exact znIin (by omega) (by omega)
      · have yes : zbb v2 t = true := zbb_iff.mpr (Classical.byContradiction (fun y => c ((ztest_0 (by omega)).mpr y)))
        rw [j3, znIc (by omega), nI_1, nI_1]
        refine ih (t + 1) _ (by omega) (fun b b0 b1 => ?_) (fun k hk => ?_) ?_ (fun t' a b => ?_)
        · rw [← u2_row _ _ _ _ b0, ← u2_row _ _ _ _ b1]
          exact j1 b b0 b1
        · rw [u2_ne _ _ _ _ (fun y => hk y.2), u2_ne _ _ _ _ (by omega)]
          exact j2 k hk
        · rw [u2_same, zcnt_succ, if_pos yes]
        · rcases (by omega : t' < t ∨ t' = t) with y | y
          · have := zcnt_up (p := zbb v2) (show t' + 1 ≤ t by omega)
            rw [zcnt_succ, if_pos b] at this
            rw [u2_ne _ _ _ _ (by omega), u2_ne _ _ _ _ (by omega)]
            exact j4 t' y b
          · rw [y, u2_ne _ _ _ _ (by omega), u2_same]
      · have no : ¬ zbb v2 t = true := fun y => (ztest_0 (by omega)).mp c (zbb_iff.mp y)
        rw [nI_1]
        refine ih (t + 1) J (by omega) j1 j2 ?_ (fun t' a b => j4 t' ?_ b)
        · rw [zcnt_succ, if_neg no]
          exact j3
        · rcases (by omega : t' < t ∨ t' = t) with y | y
          · exact y
          · rw [y] at b
            exact absurd b no
  refine ZC.of' (vX12_findRaisings_0 hS ?_) rfl (Nat.le_of_ble_eq_true rfl) rfl
  refine main n 0 _ (by omega) (fun b b0 _ => (u2_row _ _ _ _ b0).symm) (fun k hk => u2_ne _ _ _ _ (fun y => hk y.2)) ?_ (fun t' a => absurd a (Nat.not_lt_zero _))
  rw [u2_same]
  rfl
