/-- Raising.take: the members of frame v2, upward -/
def zme (I : zFI) (f : Nat) (v : Int32) (t : Nat) : Bool := decide (I (f + 2) t = v)
theorem c_take {G : Gp} {Q : zPost} {S : zSh} {I : zFI} {L : zFL} {f : Nat} {v2 : Int32} (hS : zStd S) (hf : zFm f)
    (q : ∀ I', (∀ b, b ≠ 60 → b ≠ 61 → I' b = I b) → (∀ k, k ≠ 0 → I' 60 k = I 60 k) → I' 60 0 = nI (zcnt (zme I f v2) 16) → (∀ t, t < 16 → zme I f v2 t = true → I' 61 (zcnt (zme I f v2) t) = nI t) → Q none S I' L) : ZC G mX7_take fX7_take lX7_take [zo G 60, zo G f, .int v2] S I L 0 0 Q := by
  have hf' : f = 44 ∨ f = 52 := hf
  have main : ∀ (k t : Nat) (J : zFI), t + k = 16 → (∀ b, b ≠ 60 → b ≠ 61 → J b = I b) → (∀ k, k ≠ 0 → J 60 k = I 60 k) → J 60 0 = nI (zcnt (zme I f v2) t) → (∀ t', t' < t → zme I f v2 t' = true → J 61 (zcnt (zme I f v2) t') = nI t') → ZW G mX7_take fX7_take lX7_take 7 [zo G 60, zo G f, .int v2, .int (nI t)] [] S J L 0 0 Q := by
    intro k
    induction k with
    | zero =>
      intro t J ht j1 j2 j3 j4
      have : t = 16 := by omega
      rw [this] at j3 j4
      rw [this]
      exact vX7_take_7 hS hf ⟨fun _ => q J j1 j2 j3 j4, fun no => absurd (Int32.le_refl _) no⟩
    | succ k ih =>
      intro t J ht j1 j2 j3 j4
      have e : p_X3_holding J f (nI t) = I (f + 2) t := by
        show p_X11_pick J (f + 2) 16 (nI t) = _
        rw [pick_in (by omega) (by omega), j1 (f + 2) (by omega) (by omega)]
      have cl := zcnt_le (zme I f v2) t
      refine vX7_take_7 hS hf ⟨fun no => absurd no (nI_ge (b := 16) (by omega) (by omega)), fun _ => ?_⟩
      rw [e, nI_1, j3, znIc (by omega)]
      refine ⟨fun no => absurd no (nI_ge (b := 16) (by omega) (by omega)), fun _ => ⟨fun c => ?_, fun c => ⟨znIin (by omega) (by omega), ?_⟩⟩⟩
      · have no : ¬ zme I f v2 t = true := fun y => c (of_decide_eq_true y)
        refine ih (t + 1) J (by omega) j1 j2 ?_ (fun t' a b => j4 t' ?_ b)
        · rw [zcnt_succ, if_neg no]
          exact j3
        · rcases (by omega : t' < t ∨ t' = t) with y | y
          · exact y
          · rw [y] at b
            exact absurd b no
      · have yes : zme I f v2 t = true := decide_eq_true c
        rw [nI_1]
        refine ih (t + 1) _ (by omega) (fun b b0 b1 => ?_) (fun k hk => ?_) ?_ (fun t' a b => ?_)
        · rw [← u2_row _ _ _ _ b0, ← u2_row _ _ _ _ b1]
          exact j1 b b0 b1
        · rw [u2_ne _ _ _ _ (fun y => hk y.2), u2_ne _ _ _ _ (by omega)]
          exact j2 k hk
        · rw [u2_same, zcnt_succ, if_pos yes]
        · rcases (by omega : t' < t ∨ t' = t) with y | y
          · have := zcnt_up (p := zme I f v2) (show t' + 1 ≤ t by omega)
            rw [zcnt_succ, if_pos b] at this
            rw [u2_ne _ _ _ _ (by omega), u2_ne _ _ _ _ (by omega)]
            exact j4 t' y b
          · rw [y, u2_ne _ _ _ _ (by omega), u2_same]
  refine ZC.of' (vX7_take_0 hS hf ?_) rfl (Nat.le_of_ble_eq_true rfl) rfl
  refine main 16 0 _ (by omega) (fun b b0 _ => (u2_row _ _ _ _ b0).symm) (fun k hk => u2_ne _ _ _ _ (fun y => hk y.2)) ?_ (fun t' a => absurd a (Nat.not_lt_zero _))
  rw [u2_same]
  rfl
