theorem z16 (g i : Nat) : (nI g * 16 + nI i : Int32) = nI (16 * g + i) := by
  rw [show (16 : Int32) = nI 16 from rfl, pk_mul, nI_add, Nat.mul_comm]
theorem mem16 {i : Nat} (h : i < 16) : p_X3_isMember (nI i) = 1 := by
  unfold p_X3_isMember
  rw [if_neg (nI_pos (by omega)), if_neg (show ¬ (16 : Int32) ≤ nI i from nI_ge (b := 16) h (by omega))]
/-- Frames.keepRaising -/
theorem c_keepRaising {G : Gp} {Q : zPost} {S : zSh} {I : zFI} {L : zFL} {f g : Nat} {x : Int32} {y : Int64} (hS : zStd S) (hf : zFm f) (hg : g < 8)
    (q : ∀ I', (∀ b, b ≠ f → b ≠ f + 5 → b ≠ f + 7 → I' b = I b) → (∀ k, k ≠ 5 → I' f k = I f k) → I' f 5 = I f 5 ||| zone g → I' (f + 5) g = x → (∀ k, k ≠ g → I' (f + 5) k = I (f + 5) k) → (∀ i, i < 16 → I' (f + 7) (16 * g + i) = -1) → (∀ k, k < 16 * g ∨ 16 * g + 16 ≤ k → I' (f + 7) k = I (f + 7) k) → Q none S I' (u2 L (f + 6) g y)) : ZC G mX3_keepRaising fX3_keepRaising lX3_keepRaising [zo G f, .int (nI g), .int x, .long y] S I L 0 0 Q := by
  have main : ∀ (k i : Nat) (J : zFI), i + k = 16 → (∀ b, b ≠ f → b ≠ f + 5 → b ≠ f + 7 → J b = I b) → (∀ k, k ≠ 5 → J f k = I f k) → J f 5 = I f 5 ||| zone g → J (f + 5) g = x → (∀ k, k ≠ g → J (f + 5) k = I (f + 5) k) → (∀ i', i' < i → J (f + 7) (16 * g + i') = -1) → (∀ k, k < 16 * g ∨ 16 * g + 16 ≤ k → J (f + 7) k = I (f + 7) k) → ZW G mX3_keepRaising fX3_keepRaising lX3_keepRaising 39 [zo G f, .int (nI g), .int x, .long y, .null, .int (nI i)] [] S J (u2 L (f + 6) g y) 0 0 Q := by
    intro k
    induction k with
    | zero =>
      intro i J hi j1 j2 j3 j4 j5 j6 j7
      have : i = 16 := by omega
      rw [this] at j6
      rw [this]
      exact vX3_keepRaising_39 hS hf ⟨fun _ => q J j1 j2 j3 j4 j5 j6 j7, fun no => absurd (Int32.le_refl _) no⟩
    | succ k ih =>
      intro i J hi j1 j2 j3 j4 j5 j6 j7
      refine vX3_keepRaising_39 hS hf ⟨fun no => absurd no (nI_ge (b := 16) (by omega) (by omega)), fun _ => ?_⟩
      rw [z16, znIc (by omega), nI_1]
      refine ⟨znIin (by omega) (by omega), ih (i + 1) _ (by omega) (fun b b1 b2 b3 => ?_) (fun k hk => ?_) ?_ ?_ (fun k hk => ?_) (fun i' hi' => ?_) (fun k hk => ?_)⟩
      · rw [← u2_row _ _ _ _ b3]
        exact j1 b b1 b2 b3
      · rw [u2_ne _ _ _ _ (by omega)]
        exact j2 k hk
      · rw [u2_ne _ _ _ _ (by omega)]
        exact j3
      · rw [u2_ne _ _ _ _ (by omega)]
        exact j4
      · rw [u2_ne _ _ _ _ (by omega)]
        exact j5 k hk
      · rcases (by omega : i' < i ∨ i' = i) with c | c
        · rw [u2_ne _ _ _ _ (by omega)]
          exact j6 i' c
        · rw [c, u2_same]
      · rw [u2_ne _ _ _ _ (by omega)]
        exact j7 k hk
  refine ZC.of' (vX3_keepRaising_0 hS hf ⟨fun no => absurd no (nI_pos (by omega)), fun _ => ⟨fun no => absurd no (nI_ge (b := 8) (by omega) (by omega)), fun _ => ⟨znIin (by omega) (by omega), ?_⟩⟩⟩) rfl (Nat.le_of_ble_eq_true rfl) rfl
  rw [znIc (by omega), zone_eq]
  refine main 16 0 _ (by omega) (fun b b1 b2 b3 => ?_) (fun k hk => ?_) ?_ ?_ (fun k hk => ?_) (fun i' hi' => absurd hi' (Nat.not_lt_zero _)) (fun k hk => ?_)
  · rw [← u2_row _ _ _ _ b2, ← u2_row _ _ _ _ b1]
  · rw [u2_ne _ _ _ _ (by omega), u2_ne _ _ _ _ (by omega)]
  · rw [u2_ne _ _ _ _ (by omega), u2_same]
  · rw [u2_same]
  · rw [u2_ne _ _ _ _ (by omega), u2_ne _ _ _ _ (by omega)]
  · rw [u2_ne _ _ _ _ (by omega), u2_ne _ _ _ _ (by omega)]
/-- Raising.keepSteps -/
theorem c_keepSteps {G : Gp} {Q : zPost} {S : zSh} {I : zFI} {L : zFL} {f g m : Nat} {tm se ch : Nat → Nat} (hS : zStd S) (hf : zFm f) (hg : g < 8) (hm : m ≤ 16) (h0 : I 60 0 = nI m) (room : 2 ^ m ≤ zwl S) (ht : ∀ i, i < m → tm i < 16 ∧ I 61 i = nI (tm i)) (hg' : zGa I m) (s0 : se 0 = 0)
    (hs : ∀ k, k < m → se k < 2 ^ m ∧ ch k < m ∧ zcc (I 63) (ch k) (se k) ∧ I (zwo S) (se k ||| 2 ^ ch k) ≤ I (zwo S) 0 ∧ (∀ j, j < ch k → ¬ (zcc (I 63) j (se k) ∧ I (zwo S) (se k ||| 2 ^ j) ≤ I (zwo S) 0)) ∧ se (k + 1) = se k ||| 2 ^ ch k)
    (q : ∀ I', (∀ b, b ≠ f + 7 → I' b = I b) → (∀ i, i < m → I' (f + 7) (16 * g + i) = nI (tm (ch i))) → (∀ k, k < 16 * g ∨ 16 * g + m ≤ k → I' (f + 7) k = I (f + 7) k) → Q none S I' L) : ZC G mX7_keepSteps fX7_keepSteps lX7_keepSteps [zo G 60, zo G f, .int (nI g)] S I L 0 0 Q := by
  have h16 := p16 hm
  have pos := Nat.two_pow_pos m
  have hf' : f = 44 ∨ f = 52 := hf
  have l16 : zwl S ≤ 65536 := hS.gr.2.2.2.2.2.2.2.2
  have wo : zwo S = 66 ∨ 140 ≤ zwo S := hS.gr.2.2.2.2.2.1
  have main : ∀ (d k : Nat) (J : zFI), k + d = m → (∀ b, b ≠ f + 7 → J b = I b) → (∀ i, i < k → J (f + 7) (16 * g + i) = nI (tm (ch i))) → (∀ y, y < 16 * g ∨ 16 * g + m ≤ y → J (f + 7) y = I (f + 7) y) → ZW G mX7_keepSteps fX7_keepSteps lX7_keepSteps 5 [zo G 60, zo G f, .int (nI g), .int (nI (se k)), .int (nI k), .null] [] S J L 0 0 Q := by
    intro d
    induction d with
    | zero =>
      intro k J hk j1 j2 j3
      have : k = m := by omega
      rw [this] at j2
      rw [this]
      refine vX7_keepSteps_5 hS hf ⟨fun _ => q J j1 j2 j3, fun no => ?_⟩
      rw [j1 60 (by omega), h0] at no
      exact absurd (Int32.le_refl _) no
    | succ d ih =>
      intro k J hk j1 j2 j3
      obtain ⟨a1, a2, a3, a4, a5, a6⟩ := hs k (by omega)
      have scan : ∀ (e j : Nat), j + e = ch k → ZW G mX7_keepSteps fX7_keepSteps lX7_keepSteps 17 [zo G 60, zo G f, .int (nI g), .int (nI (se k)), .int (nI k), .int (nI j)] [] S J L 0 0 Q := by
        intro e
        induction e with
        | zero =>
          intro j hj
          have : j = ch k := by omega
          rw [this]
          have cc : (nI (se k) &&& J 139 (ch k) = J 63 (ch k)) ↔ zcc (I 63) (ch k) (se k) := by
            rw [j1 139 (by omega), j1 63 (by omega)]
            exact c_can hg' hm a2 a1
          have lt := add_lt a1 a2
          refine vX7_keepSteps_17 hS hf ⟨fun no => ?_, fun _ => ⟨znIin (by omega) (by omega), ?_⟩⟩
          · rw [j1 60 (by omega), h0] at no
            exact absurd no (nI_ge (by omega) (by omega))
          · rw [zone_eq, zor_nI hm a1 a2, nI_1, znIc (show se k ||| 2 ^ ch k < 2147483648 by omega), show (0 : Int32).toNatClampNeg = 0 from rfl, j1 (zwo S) (by omega), znIc (show ch k < 2147483648 by omega), j1 61 (by omega), (ht (ch k) a2).2]
            refine ⟨fun no => absurd (cc.mpr a3) no, fun _ => ⟨znIin (by omega) (by omega), znIin (n := 0) (by omega) (by omega), fun no => absurd a4 (Int32.not_le.mpr no), fun _ => ?_⟩⟩
            refine ZC.of' (vX3_keepStep_0 hS hf ⟨fun no => absurd no (nI_pos (by omega)), fun _ => ⟨fun no => absurd no (nI_ge (b := 8) (by omega) (by omega)), fun _ => ⟨fun no => ?_, fun _ => ?_⟩⟩⟩) rfl (Nat.le_of_ble_eq_true rfl) rfl
            · rw [mem16 (by omega)] at no
              exact absurd no (by decide)
            · rw [z16, znIc (by omega), ← a6, nI_1]
              refine ⟨znIin (by omega) (by omega), rfl, rfl, ih (k + 1) _ (by omega) (fun b hb => ?_) (fun i hi => ?_) (fun y hy => ?_)⟩
              · rw [← u2_row _ _ _ _ hb]
                exact j1 b hb
              · rcases (by omega : i < k ∨ i = k) with c | c
                · rw [u2_ne _ _ _ _ (by omega)]
                  exact j2 i c
                · rw [c, u2_same]
              · rw [u2_ne _ _ _ _ (by omega)]
                exact j3 y hy
        | succ e ihe =>
          intro j hj
          have cc : (nI (se k) &&& J 139 j = J 63 j) ↔ zcc (I 63) j (se k) := by
            rw [j1 139 (by omega), j1 63 (by omega)]
            exact c_can hg' hm (by omega) a1
          have lt := add_lt (i := j) a1 (show j < m by omega)
          refine vX7_keepSteps_17 hS hf ⟨fun no => ?_, fun _ => ⟨znIin (by omega) (by omega), ?_⟩⟩
          · rw [j1 60 (by omega), h0] at no
            exact absurd no (nI_ge (by omega) (by omega))
          · rw [zone_eq, zor_nI hm a1 (by omega), nI_1, znIc (show se k ||| 2 ^ j < 2147483648 by omega), show (0 : Int32).toNatClampNeg = 0 from rfl, j1 (zwo S) (by omega), znIc (show j < 2147483648 by omega)]
            refine ⟨fun _ => ihe (j + 1) (by omega), fun yes => ⟨znIin (by omega) (by omega), znIin (n := 0) (by omega) (by omega), fun _ => ihe (j + 1) (by omega), fun no => ?_⟩⟩
            exact absurd ⟨cc.mp yes, Int32.not_lt.mp no⟩ (a5 j (by omega))
      exact vX7_keepSteps_5 hS hf ⟨fun no => (by
        rw [j1 60 (by omega), h0] at no
        exact absurd no (nI_ge (by omega) (by omega))), fun _ => scan (ch k) 0 (by omega)⟩
  refine ZC.of' (vX7_keepSteps_0 hS hf ?_) rfl (Nat.le_of_ble_eq_true rfl) rfl
  have := main m 0 I (by omega) (fun _ _ => rfl) (fun i hi => absurd hi (Nat.not_lt_zero _)) (fun _ _ => rfl)
  rw [s0] at this
  exact this
theorem zMs_ex (bf : Nat → Int32) (m : Nat) (pr : Nat → Int32) : ∃ D, zMs bf m D pr := by
  have key : ∀ k, ∃ D : Nat → Int32, D (2 ^ m - 1) = 0 ∧ ∀ s, s < 2 ^ m - 1 → 2 ^ m - 1 ≤ s + k → D s = zmf bf D pr s m := by
    intro k
    induction k with
    | zero => exact ⟨fun _ => 0, rfl, fun s h1 h2 => by omega⟩
    | succ k ih =>
      obtain ⟨D, d1, d2⟩ := ih
      by_cases c : k + 1 ≤ 2 ^ m - 1
      · refine ⟨fun x => if x = 2 ^ m - 1 - (k + 1) then zmf bf D pr (2 ^ m - 1 - (k + 1)) m else D x, ?_, fun s h1 h2 => ?_⟩
        · show (if 2 ^ m - 1 = 2 ^ m - 1 - (k + 1) then _ else D (2 ^ m - 1)) = 0
          rw [if_neg (by omega)]
          exact d1
        · have up : ∀ s, 2 ^ m - 1 - (k + 1) ≤ s → ∀ x, s < x → (fun x => if x = 2 ^ m - 1 - (k + 1) then zmf bf D pr (2 ^ m - 1 - (k + 1)) m else D x) x = D x := fun s hs x hx => if_neg (by omega)
          rw [zmf_keep (up s (by omega)) m]
          by_cases e : s = 2 ^ m - 1 - (k + 1)
          · show (if s = 2 ^ m - 1 - (k + 1) then _ else D s) = _
            rw [if_pos e, e]
          · show (if s = 2 ^ m - 1 - (k + 1) then _ else D s) = _
            rw [if_neg e]
            exact d2 s h1 (by omega)
      · exact ⟨D, d1, fun s h1 h2 => d2 s h1 (by omega)⟩
  obtain ⟨D, d1, d2⟩ := key (2 ^ m)
  exact ⟨D, d1, fun s hs => d2 s hs (by omega)⟩
theorem zpr_none {mt : Nat → Int32} {hold : Int32} {m s : Nat} (h : ∀ x, x < m → ¬ zpp mt hold (nI s) x = true) : zpr mt hold m s = 0 := by
  unfold zpr
  rw [zcnt_part (a := 0) (b := m) (Nat.zero_le _) (fun k _ hk => h k hk)]
  rfl
theorem zpr_0 {mt : Nat → Int32} {hold : Int32} {m : Nat} : zpr mt hold m 0 = 0 := zpr_none (fun x _ => zpp_n0 (zb_0 x))
theorem zpr_full {mt : Nat → Int32} {hold : Int32} {m : Nat} (hm : m ≤ 16) (h : ∀ x, x < m → ∀ k, k < 32 → zb (mt x) k → k < m) : zpr mt hold m (2 ^ m - 1) = 0 := by
  have h16 := p16 hm
  refine zpr_none (fun x hx => zpp_n1 (Or.inr ?_))
  have e : mt x &&& nI (2 ^ m - 1) = mt x := zb_ext (fun k hk => by
    rw [zb_and, zb_nI (by omega) hk, full_bit]
    exact ⟨fun q => q.1, fun q => ⟨q, h x hx k hk q⟩⟩)
  rw [e]
  exact Int32.le_refl _
