theorem zone_nI {m : Nat} (h : m ≤ 16) : zone m = nI (2 ^ m) := by
  have : ∀ k : Fin 17, zone k.1 = nI (2 ^ k.1) := by decide +kernel
  exact this ⟨m, by omega⟩
theorem zWp_none {bf : Nat → Int32} {m : Nat} {V : Nat → Int64} {t : Nat} (h : zWp bf m V t 0) (no : V t = 0) : zWp bf m V (t + 1) 0 := by
  have : ∀ j, zWp bf m V t j := fun j => by
    induction j with
    | zero => exact h
    | succ j ih => exact zWp_skip ih (Or.inr no)
  exact zWp_next (this m)
theorem lgz {x : Int64} : lg_cmp x 0 = 0 ↔ x = 0 := by
  rw [lg_cmp_eq]
theorem c_countWays {G : Gp} {Q : zPost} {S : zSh} {I : zFI} {L : zFL} {m : Nat} (hS : zStd S) (hm : m ≤ 16) (h0 : I 60 0 = nI m) (room : 2 ^ m ≤ zwl S) (hg : zGa I m) (q : ∀ L', (∀ b, b ≠ zwy S → L' b = L b) → zWy (I 63) m (L' (zwy S)) → Q none S I L') : ZC G mX7_countWays fX7_countWays lX7_countWays [zo G 60] S I L 0 0 Q := by
  have h16 := p16 hm
  have l16 : zwl S ≤ 65536 := hS.gr.2.2.2.2.2.2.2.2
  have pos := Nat.two_pow_pos m
  have main : ∀ (k t : Nat) (M : zFL), t + k = 2 ^ m → (∀ b, b ≠ zwy S → M b = L b) → zWp (I 63) m (M (zwy S)) t 0 → ZW G mX7_countWays fX7_countWays lX7_countWays 36 [zo G 60, .int (nI (2 ^ m)), .int (nI t), .null] [] S I M 0 0 Q := by
    intro k
    induction k with
    | zero =>
      intro t M ht m1 m2
      have : t = 2 ^ m := by omega
      rw [this] at m2
      rw [this]
      exact vX7_countWays_36 hS ⟨fun _ => q M m1 (zWp_end m2), fun no => absurd (Int32.le_refl _) no⟩
    | succ k ih =>
      intro t M ht m1 m2
      have tc : (nI t).toNatClampNeg = t := znIc (by omega)
      have inner : ∀ (d j : Nat) (N : zFL), j + d = m → (∀ b, b ≠ zwy S → N b = L b) → zWp (I 63) m (N (zwy S)) t j → ZW G mX7_countWays fX7_countWays lX7_countWays 57 [zo G 60, .int (nI (2 ^ m)), .int (nI t), .int (nI j)] [] S I N 0 0 Q := by
        intro d
        induction d with
        | zero =>
          intro j N hj n1 n2
          have : j = m := by omega
          rw [this] at n2
          rw [this]
          refine vX7_countWays_57 hS ⟨fun _ => ?_, fun no => ?_⟩
          · rw [nI_1]
            exact ih (t + 1) N (by omega) n1 (zWp_next n2)
          · rw [h0] at no
            exact absurd (Int32.le_refl _) no
        | succ d ihd =>
          intro j N hj n1 n2
          refine vX7_countWays_57 hS ⟨fun no => ?_, fun _ => ⟨znIin (by omega) (by omega), ?_⟩⟩
          · rw [h0] at no
            exact absurd no (nI_ge (by omega) (by omega))
          · rw [zone_eq, zor_nI hm (by omega) (by omega), nI_1, tc, znIc (show j < 2147483648 by omega)]
            have lt := add_lt (s := t) (i := j) (m := m) (by omega) (by omega)
            have cc := c_can (I := I) (i := j) (s := t) hg hm (by omega) (by omega)
            refine ⟨fun no => ihd (j + 1) N (by omega) n1 (zWp_skip n2 (Or.inl (fun y => no (cc.mpr y)))), fun yes => ⟨znIin (by omega) (by omega), znIin (by omega) (by omega), ?_⟩⟩
            rw [znIc (show t ||| 2 ^ j < 2147483648 by omega)]
            refine ihd (j + 1) _ (by omega) (fun b hb => ?_) (zWp_take n2 (by omega) (by omega) (cc.mp yes) ?_ (fun s hs => ?_))
            · rw [← u2_row _ _ _ _ hb]
              exact n1 b hb
            · rw [u2_same]
            · rw [u2_ne _ _ _ _ (fun y => hs y.2)]
      refine vX7_countWays_36 hS ⟨fun no => absurd no (nI_ge (by omega) (by omega)), fun _ => ⟨znIin (by omega) (by omega), fun _ => inner m 0 M (by omega) m1 m2, fun z => ?_⟩⟩
      rw [tc] at z
      rw [nI_1]
      exact ih (t + 1) M (by omega) m1 (zWp_none m2 (lgz.mp z))
  have clear : ∀ (k t : Nat) (M : zFL), t + k = 2 ^ m → (∀ b, b ≠ zwy S → M b = L b) → (∀ s, s < t → M (zwy S) s = 0) → ZW G mX7_countWays fX7_countWays lX7_countWays 9 [zo G 60, .int (nI (2 ^ m)), .int (nI t), .null] [] S I M 0 0 Q := by
    intro k
    induction k with
    | zero =>
      intro t M ht m1 m2
      have : t = 2 ^ m := by omega
      rw [this] at m2
      rw [this]
      refine vX7_countWays_9 hS ⟨fun _ => ⟨znIin (n := 0) (by omega) (by omega), ?_⟩, fun no => absurd (Int32.le_refl _) no⟩
      rw [show (0 : Int32).toNatClampNeg = 0 from rfl]
      refine main (2 ^ m) 0 _ (by omega) (fun b hb => ?_) (fun s hs => ?_)
      · rw [← u2_row _ _ _ _ hb]
        exact m1 b hb
      · rw [sL_congr (g := fun _ => 0) m (fun i _ => zwp_n (fun y => by rcases y.2 with y | y <;> omega)), sL_zero, Int64.add_zero]
        by_cases c : s = 0
        · rw [if_pos c, c]
          exact u2_same _ _ _ _
        · rw [if_neg c, u2_ne _ _ _ _ (fun y => c y.2)]
          exact m2 s hs
    | succ k ih =>
      intro t M ht m1 m2
      refine vX7_countWays_9 hS ⟨fun no => absurd no (nI_ge (by omega) (by omega)), fun _ => ⟨znIin (by omega) (by omega), ?_⟩⟩
      rw [nI_1, znIc (by omega)]
      refine ih (t + 1) _ (by omega) (fun b hb => ?_) (fun s hs => ?_)
      · rw [← u2_row _ _ _ _ hb]
        exact m1 b hb
      · by_cases c : s = t
        · rw [c, u2_same]
        · rw [u2_ne _ _ _ _ (fun y => c y.2)]
          exact m2 s (by omega)
  refine ZC.of' (vX7_countWays_0 hS ?_) rfl (Nat.le_of_ble_eq_true rfl) rfl
  rw [h0, zone_eq, zone_nI hm]
  exact clear (2 ^ m) 0 L (by omega) (fun _ _ => rfl) (fun s hs => absurd hs (Nat.not_lt_zero _))
