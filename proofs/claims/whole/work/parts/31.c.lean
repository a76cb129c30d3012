/-- Arrays.fill -/
theorem c_fill {G : Gp} {Q : zPost} {S : zSh} {I : zFI} {L : zFL} {a n : Nat} {x : Int32} (hS : zStd S) (ha : zHas S a (1, n)) (hn : n < 2147483648) (h : ∀ I', (∀ b, b ≠ a → I' b = I b) → (∀ j, j < n → I' a j = x) → Q none S I' L) : ZC G mJ7_fill_53178 fJ7_fill_53178 lJ7_fill_53178 [zo G a, .int x] S I L 0 0 Q := by
  have key : ∀ (k m : Nat) (I1 : zFI), m + k = n → (∀ b, b ≠ a → I1 b = I b) → (∀ j, j < m → I1 a j = x) → ZW G mJ7_fill_53178 fJ7_fill_53178 lJ7_fill_53178 5 [zo G a, .int x, .int (nI m), .int (nI n)] [] S I1 L 0 0 Q := by
    intro k
    induction k with
    | zero =>
      intro m I1 hm h1 h2
      refine vJ7_fill_53178_5 hS ha ⟨fun _ => h I1 h1 (fun j hj => h2 j (by omega)), fun hc => ?_⟩
      exact absurd (by rw [zle, znI (by omega), znI (by omega)]; omega) hc
    | succ k ih =>
      intro m I1 hm h1 h2
      refine vJ7_fill_53178_5 hS ha ⟨fun hc => ?_, fun _ => ?_⟩
      · rw [zle, znI (by omega), znI (by omega)] at hc
        omega
      · refine ⟨znIin (by omega) hn, ?_⟩
        rw [nI_1, znIc (by omega)]
        refine ih (m + 1) _ (by omega) (fun b hb => ?_) (fun j hj => ?_)
        · rw [← u2_row _ _ _ _ hb]
          exact h1 b hb
        · by_cases hjm : j = m
          · subst hjm
            exact u2_same _ _ _ _
          · rw [u2_ne _ _ _ _ (fun q => hjm q.2)]
            exact h2 j (by omega)
  exact ZC.of' (vJ7_fill_53178_0 hS ha (key n 0 I (by omega) (fun _ _ => rfl) (fun j hj => absurd hj (Nat.not_lt_zero _)))) rfl (Nat.le_of_ble_eq_true rfl) rfl
/-- Marks.showUpTo -/
theorem c_showUpTo {G : Gp} {Q : zPost} {S : zSh} {I : zFI} {L : zFL} {d : Int32} {n : Nat} (hS : zStd S) (hn : I 19 0 = nI n) (hn2 : n ≤ 200) (hj : ∀ k, k < n → 0 ≤ I 20 k ∧ I 20 k < 48)
    (h : ∀ I', (∀ b, b ≠ 25 → I' b = I b) → (∀ j, j < 48 → I' 25 j = zlate (fun k => decide (I 21 k ≤ d) && decide (I 20 k = nI j)) n) → Q none S I' L) : ZC G mX6_showUpTo fX6_showUpTo lX6_showUpTo [zo G 19, .int d] S I L 0 0 Q := by
  have key : ∀ (k m : Nat) (I1 : zFI), m + k = n → (∀ b, b ≠ 25 → I1 b = I b) → (∀ j, j < 48 → I1 25 j = zlate (fun k => decide (I 21 k ≤ d) && decide (I 20 k = nI j)) m) → ZW G mX6_showUpTo fX6_showUpTo lX6_showUpTo 10 [zo G 19, .int d, .int (nI m), .null] [] S I1 L 0 0 Q := by
    intro k
    induction k with
    | zero =>
      intro m I1 hm h1 h2
      have hmn : m = n := by omega
      subst hmn
      refine vX6_showUpTo_10 hS ⟨fun _ => h I1 h1 h2, fun hc => ?_⟩
      rw [h1 19 (by decide), hn] at hc
      exact absurd (by rw [zle]; omega) hc
    | succ k ih =>
      intro m I1 hm h1 h2
      have e19 := h1 19 (by decide)
      have e20 := h1 20 (by decide)
      have e21 := h1 21 (by decide)
      have hmc : (nI m).toNatClampNeg = m := znIc (by omega)
      have hjm := hj m (by omega)
      have step : ∀ I2 : zFI, (∀ b, b ≠ 25 → I2 b = I b) → (∀ j, j < 48 → I2 25 j = zlate (fun k => decide (I 21 k ≤ d) && decide (I 20 k = nI j)) (m + 1)) → ZW G mX6_showUpTo fX6_showUpTo lX6_showUpTo 10 [zo G 19, .int d, .int (nI m + 1), .null] [] S I2 L 0 0 Q := by
        intro I2 g1 g2
        rw [nI_1]
        exact ih (m + 1) I2 (by omega) g1 g2
      refine vX6_showUpTo_10 hS ⟨fun hc => ?_, fun _ => ⟨fun hc => ?_, fun _ => ⟨znIin (by omega) (by omega), fun hc => ?_, fun hc => ⟨fun hc2 => ?_, fun _ => ⟨fun hc2 => ?_, fun _ => ⟨?_, ?_⟩⟩⟩⟩⟩⟩
      · rw [e19, hn, zle, znI (by omega), znI (by omega)] at hc
        omega
      · rw [zle, znI (by omega), show (200 : Int32).toInt = 200 from rfl] at hc
        omega
      · rw [hmc, e21] at hc
        refine step I1 h1 (fun j hj2 => ?_)
        rw [h2 j hj2]
        rw [zlate_succ]
        have hc3 : ¬ I 21 m ≤ d := by rw [Int32.not_le]; exact hc
        simp [hc3]
      · rw [hmc, e20] at hc2
        exact absurd hc2 (Int32.not_lt.mpr hjm.1)
      · rw [hmc, e20] at hc2
        exact absurd hjm.2 (Int32.not_lt.mpr hc2)
      · rw [hmc, e20]
        exact zvin rfl hjm.1 hjm.2
      · rw [hmc, e20]
        rw [hmc, e21, Int32.not_lt] at hc
        obtain ⟨q, hq1, hq2⟩ := zof hjm.1
        have hq3 : q < 48 := by
          have := zlt.mp hjm.2
          rw [hq2, znI hq1, show (48 : Int32).toInt = 48 from rfl] at this
          omega
        rw [hq2, znIc hq1]
        refine step _ (fun b hb => ?_) (fun j hj2 => ?_)
        · rw [← u2_row _ _ _ _ hb]
          exact h1 b hb
        · rw [zlate_succ]
          by_cases hjq : j = q
          · subst hjq
            rw [u2_same]
            simp [hc, hq2]
          · rw [u2_ne _ _ _ _ (fun z => hjq z.2), h2 j hj2]
            have hne : ¬ nI q = nI j := fun z => hjq (by
              have := congrArg Int32.toInt z
              rw [znI hq1, znI (by omega)] at this
              omega)
            simp [hq2, hne]
  refine ZC.of' (vX6_showUpTo_0 hS ?_) rfl (Nat.le_of_ble_eq_true rfl) rfl
  refine c_fill hS (hS.has (a := 25) rfl rfl) (by decide) (fun I' h1 h2 => ⟨rfl, rfl, ?_⟩)
  exact key n 0 I' (by omega) h1 (fun j hj2 => h2 j hj2)
