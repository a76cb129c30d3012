theorem zabs_nI {a : Int32} (h : -1000000 ≤ a.toInt) : (if 0 ≤ a then a else 0 - a) = nI a.toInt.natAbs := by
  have hh := zhi a
  by_cases c : 0 ≤ a
  · rw [if_pos c]
    have := zle.mp c
    rw [show (0 : Int32).toInt = 0 from rfl] at this
    rw [zeq, znI (by omega)]
    omega
  · rw [if_neg c]
    have := zlt.mp (Int32.not_le.mp c)
    rw [show (0 : Int32).toInt = 0 from rfl] at this
    have e : (0 - a : Int32).toInt = - a.toInt := by rw [zsub] <;> rw [show (0 : Int32).toInt = 0 from rfl] <;> omega
    rw [zeq, e, znI (by omega)]
    omega
theorem znat {a : Int32} (h : 0 ≤ a) : a = nI a.toInt.toNat := by
  obtain ⟨n, h1, h2⟩ := zof h
  rw [h2, znI h1, Int.toNat_natCast]
/-- the rounds of findRate -/
theorem c_rate {G : Gp} {Q : zPost} {S : zSh} {I : zFI} {L : zFL} (hS : zStd S) (g : Nat) (hg : 0 < g) (hg2 : g < 2147483648) (h : Q none S (u2 (u2 I 77 8 ((I 77 8) / nI g)) 77 9 ((I 77 9) / nI g)) L) : ∀ N r x y : Nat, x ≤ y → y < 2147483648 → x * y < 2 ^ N → r + N ≤ 63 → Nat.gcd x y = g → ZW G mX5_findRate fX5_findRate lX5_findRate 69 [zo G 77, .int (nI x), .int (nI y), .int (nI r), .null] [] S I L 0 0 Q := by
  have fin : ∀ y, Nat.gcd 0 y = g → (nI y ≤ 0 → Q none S I L) ∧ (¬ nI y ≤ 0 → ¬ nI y = 0 ∧ ¬ nI y = 0 ∧ Q none S (u2 (u2 I 77 8 ((I 77 8) / nI y)) 77 9 ((I 77 9) / nI y)) L) := fun y hy => by
    rw [Nat.gcd_zero_left] at hy
    subst hy
    have : ¬ nI y ≤ 0 := nI_ge (b := y) (a := 0) hg (by omega)
    have h0 : ¬ nI y = 0 := fun q => this (by rw [q]; decide)
    exact ⟨fun q => absurd q this, fun _ => ⟨h0, h0, h⟩⟩
  intro N
  induction N with
  | zero =>
    intro r x y hxy hy hp hr hgc
    have hx : x = 0 := by
      rcases Nat.eq_zero_or_pos x with q | q
      · exact q
      · exfalso
        have := Nat.mul_pos q (show 0 < y by omega)
        omega
    subst hx
    exact vX5_findRate_69 hS ⟨fun hc => absurd hc (show ¬ nI 64 ≤ nI r from nI_ge (by omega) (by omega)), fun _ => ⟨fun _ => fin y hgc, fun q => absurd rfl q⟩⟩
  | succ N ih =>
    intro r x y hxy hy hp hr hgc
    refine vX5_findRate_69 hS ⟨fun hc => absurd hc (show ¬ nI 64 ≤ nI r from nI_ge (by omega) (by omega)), fun _ => ⟨fun q => ?_, fun q => ⟨q, ?_⟩⟩⟩
    · have : x = 0 := by
        rw [zeq, znI (by omega)] at q
        rw [show (0 : Int32).toInt = 0 from rfl] at q
        omega
      subst this
      exact fin y hgc
    · have hx : 0 < x := by
        rcases Nat.eq_zero_or_pos x with w | w
        · exact absurd (by rw [w]; rfl) q
        · exact w
      rw [pk_rem (by omega) hx (by omega), nI_1]
      have hm := Nat.mod_lt y hx
      refine ih (r + 1) (y % x) x (by omega) (by omega) ?_ (by omega) (by rw [← Nat.gcd_rec]; exact hgc)
      have h1 : x + y % x ≤ y := by
        have := Nat.div_add_mod y x
        have h2 : 1 ≤ y / x := Nat.div_pos hxy hx
        have h3 : x * 1 ≤ x * (y / x) := Nat.mul_le_mul_left x h2
        omega
      have h2 : (2 * (y % x)) * x ≤ y * x := Nat.mul_le_mul_right x (by omega)
      rw [Nat.mul_assoc, Nat.mul_comm y x] at h2
      rw [Nat.pow_succ] at hp
      omega
theorem c_findRate {G : Gp} {Q : zPost} {S : zSh} {I : zFI} {L : zFL} {f l : Nat} {a b : Int32} (hS : zStd S) (hf : I 77 6 = nI f) (hl : I 77 7 = nI l) (hf2 : f < 60) (hl2 : l < 60) (ha : a = I 80 l - I 80 f) (hb : b = I 79 l - I 79 f) (ha1 : -198 ≤ a.toInt) (ha2 : a.toInt ≤ 198) (hb1 : 0 < b.toInt) (hb2 : b.toInt ≤ 999)
    (h : ∀ I', (∀ k, k ≠ 77 → I' k = I k) → (∀ k, k ≠ 8 → k ≠ 9 → I' 77 k = I 77 k) → I' 77 8 = a / nI (Nat.gcd a.toInt.natAbs b.toInt.toNat) → I' 77 9 = b / nI (Nat.gcd a.toInt.natAbs b.toInt.toNat) → Q none S I' L) : ZC G mX5_findRate fX5_findRate lX5_findRate [zo G 77] S I L 0 0 Q := by
  refine ZC.of' (vX5_findRate_0 hS ?_) rfl (Nat.le_of_ble_eq_true rfl) rfl
  rw [hf, hl, pick_in hl2 (by decide), pick_in hf2 (by decide), pick_in hl2 (by decide), pick_in hf2 (by decide)]
  have eb : u2 I 77 8 (I 80 l - I 80 f) 79 l - u2 I 77 8 (I 80 l - I 80 f) 79 f = b := hb.symm
  rw [eb, ← ha, zabs_nI (by omega)]
  have hbn : b = nI b.toInt.toNat := znat (by rw [zle, show (0 : Int32).toInt = 0 from rfl]; omega)
  generalize hx : a.toInt.natAbs = x at h
  generalize hy : b.toInt.toNat = y at h hbn
  have hyp : 0 < y := by omega
  have hg : 0 < Nat.gcd x y := Nat.gcd_pos_of_pos_right x hyp
  have hgle : Nat.gcd x y ≤ y := Nat.gcd_le_right x hyp
  have go : ∀ N r x' y' : Nat, x' ≤ y' → y' < 2147483648 → x' * y' < 2 ^ N → r + N ≤ 63 → Nat.gcd x' y' = Nat.gcd x y → ZW G mX5_findRate fX5_findRate lX5_findRate 69 [zo G 77, .int (nI x'), .int (nI y'), .int (nI r), .null] [] S (u2 (u2 I 77 8 a) 77 9 b) L 0 0 Q := by
    refine c_rate hS (Nat.gcd x y) hg (by omega) (h _ (fun k hk => ?_) (fun k h8 h9 => ?_) ?_ ?_)
    · rw [← u2_row _ _ _ _ hk, ← u2_row _ _ _ _ hk, ← u2_row _ _ _ _ hk, ← u2_row _ _ _ _ hk]
    · rw [u2_ne _ _ _ _ (by omega), u2_ne _ _ _ _ (by omega), u2_ne _ _ _ _ (by omega), u2_ne _ _ _ _ (by omega)]
    · rw [u2_ne _ _ _ _ (by omega), u2_same, u2_ne _ _ _ _ (by omega), u2_same]
    · rw [u2_same, u2_same]
  show ZW G mX5_findRate fX5_findRate lX5_findRate 69 [zo G 77, .int (nI x), .int b, .int (nI 0), .null] [] S (u2 (u2 I 77 8 a) 77 9 b) L 0 0 Q
  conv => arg 6; rw [hbn]
  have hp : x * y ≤ 198 * 999 := Nat.mul_le_mul (by omega) (by omega)
  by_cases c : x ≤ y
  · exact go 20 0 x y c (by omega) (by omega) (by omega) rfl
  · have hx0 : 0 < x := by omega
    refine vX5_findRate_69 hS ⟨fun hc => absurd hc (by decide), fun _ => ⟨fun q => ?_, fun q => ⟨q, ?_⟩⟩⟩
    · rw [zeq, znI (by omega)] at q
      rw [show (0 : Int32).toInt = 0 from rfl] at q
      omega
    · rw [pk_rem (by omega) hx0 (by omega), Nat.mod_eq_of_lt (by omega)]
      exact go 20 1 y x (by omega) (by omega) (by rw [Nat.mul_comm]; omega) (by omega) (Nat.gcd_comm _ _)
/-- the model's common -/
theorem m_common {G : Gp} {Q : zPost} {S : zSh} {I : zFI} {L : zFL} {a b : Int32} (hS : zStd S) (ha1 : -198 ≤ a.toInt) (ha2 : a.toInt ≤ 198) (hb1 : 0 ≤ b) (h : Q (some (.int (nI (Nat.gcd a.toInt.natAbs b.toInt.toNat)))) S I L) : ZC G mX12_common fX12_common lX12_common [zo G 84, .int a, .int b] S I L 0 0 Q := by
  have hbn := znat hb1
  have hbl := zhi b
  have hb0 := zle.mp hb1
  rw [show (0 : Int32).toInt = 0 from rfl] at hb0
  generalize hx : a.toInt.natAbs = x at h
  generalize hy : b.toInt.toNat = y at h hbn
  have key : ∀ N x' y' : Nat, y' ≤ N → x' < 2147483648 → y' < 2147483648 → Nat.gcd x' y' = Nat.gcd x y → ZW G mX12_common fX12_common lX12_common 14 [zo G 84, .int a, .int b, .int (nI x'), .int (nI y'), .null] [] S I L 0 0 Q := by
    intro N
    induction N with
    | zero =>
      intro x' y' h1 h2 h3 h4
      have : y' = 0 := by omega
      subst this
      rw [Nat.gcd_zero_right] at h4
      refine vX12_common_14 hS ⟨fun _ => by rw [h4]; exact h, fun q => absurd rfl q⟩
    | succ N ih =>
      intro x' y' h1 h2 h3 h4
      refine vX12_common_14 hS ⟨fun q => ?_, fun q => ⟨q, ?_⟩⟩
      · rw [zeq, znI (by omega)] at q
        rw [show (0 : Int32).toInt = 0 from rfl] at q
        have : y' = 0 := by omega
        subst this
        rw [Nat.gcd_zero_right] at h4
        rw [h4]
        exact h
      · have hy0 : 0 < y' := by
          rcases Nat.eq_zero_or_pos y' with w | w
          · exact absurd (by rw [w]; rfl) q
          · exact w
        have := Nat.mod_lt x' hy0
        rw [pk_rem (by omega) hy0 (by omega)]
        exact ih y' (x' % y') (by omega) (by omega) (by omega) (by rw [Nat.gcd_comm, ← Nat.gcd_rec, Nat.gcd_comm]; exact h4)
  have e : (if 0 ≤ a then a else 0 - a) = nI x := by rw [zabs_nI (by omega), hx]
  refine ZC.of' (vX12_common_0 hS ⟨fun c => ?_, fun c => ?_⟩) rfl (Nat.le_of_ble_eq_true rfl) rfl
  · rw [if_pos c] at e
    have := key y x y (Nat.le_refl _) (by omega) (by omega) rfl
    rw [← e, ← hbn] at this
    exact this
  · rw [if_neg c] at e
    have e2 : -a = nI x := by rw [← e]; lia
    have := key y x y (Nat.le_refl _) (by omega) (by omega) rfl
    rw [← e2, ← hbn] at this
    exact this
