theorem z105 (c a b : Nat) : (((50 : Int32) * nI c + 30) + 4 * nI a) + nI b = nI (50 * c + 30 + 4 * a + b) := by
  rw [show (50 : Int32) = nI 50 from rfl, show (30 : Int32) = nI 30 from rfl, show (4 : Int32) = nI 4 from rfl, pk_mul, pk_mul, nI_add, nI_add, nI_add]
theorem z53 (c : Nat) : ((50 : Int32) * nI c + 3) = nI (50 * c + 3) := by
  rw [show (50 : Int32) = nI 50 from rfl, show (3 : Int32) = nI 3 from rfl, pk_mul, nI_add]
theorem ah12_row {I J : zFI} (e : J 105 = I 105) (c a b : Int32) : p_X12_isAhead J c a b = p_X12_isAhead I c a b := by
  unfold p_X12_isAhead
  rw [e]
set_option maxHeartbeats 1000000 in
/-- the model's mates of the members and who is ahead -/
theorem m_link {G : Gp} {Q : zPost} {S : zSh} {I : zFI} {L : zFL} {c r m : Nat} {tm : Nat → Nat} {mt : Nat → Int32} {v2 : Int32} (hS : zStd S) (hc : c ≤ 1) (hm : m ≤ 16) (h0 : I 84 66 = nI m) (hu : iCu1 I r c) (ht : ∀ i, i < m → tm i < 16 ∧ I 126 i = nI (tm i) ∧ I 124 (tm i) = mt (tm i)) (hk : ∀ i, i < m → ∃ k, k < 4 ∧ I 85 (tm i) = nI k ∧ I 11 (tm i) = nI k)
    (q : ∀ J, (∀ b, b ≠ 127 → b ≠ 128 → b ≠ 129 → J b = I b) → zLn mt tm (fun _ _ => True) m (J 127) → zLn mt tm (zAh I r) m (J 128) → J 129 (2 ^ m - 1) = 0 → ZW G mX12_findRaisings fX12_findRaisings lX12_findRaisings 226 [zo G 84, .int (nI c), .int v2, .int (nI (2 ^ m - 1)), .int (I r 3), .int (nI (2 ^ m - 1) + (-1)), .null, .null] [] S J L 0 0 Q) :
    ZW G mX12_findRaisings fX12_findRaisings lX12_findRaisings 54 [zo G 84, .int (nI c), .int v2, .int 0, .null, .null, .null, .null] [] S I L 0 0 Q := by
  have h16 := p16 hm
  have pos := Nat.two_pow_pos m
  have main : ∀ (k i : Nat) (J : zFI), i + k = m → (∀ b, b ≠ 127 → b ≠ 128 → J b = I b) → (∀ y, y < i → zLk mt tm (fun _ _ => True) y m (J 127 y) ∧ zLk mt tm (zAh I r) y m (J 128 y)) → ZW G mX12_findRaisings fX12_findRaisings lX12_findRaisings 54 [zo G 84, .int (nI c), .int v2, .int (nI i), .null, .null, .null, .null] [] S J L 0 0 Q := by
    intro k
    induction k with
    | zero =>
      intro i J hi j1 j4
      have : i = m := by omega
      rw [this] at j4
      rw [this]
      have e1 : (1 : Int32) <<< ((J 84 66) &&& 31) - 1 = nI (2 ^ m - 1) := by
        rw [j1 84 (by omega) (by omega), h0, zone_eq, zone_nI hm]
        have := nI_pre (2 ^ m - 1)
        rw [show 2 ^ m - 1 + 1 = 2 ^ m by omega] at this
        exact this
      refine vX12_findRaisings_54 hS ⟨fun _ => ?_, fun no => ?_⟩
      · rw [e1, z53, znIc (show 50 * c + 3 < 2147483648 by omega), znIc (show 2 ^ m - 1 < 2147483648 by omega), j1 105 (by omega) (by omega), hu.1 3 (by omega), Int32.sub_eq_add_neg]
        refine ⟨znIin (by omega) (by omega), znIin (by omega) (by omega), q _ (fun b b1 b2 b3 => ?_) (fun y hy x hx => ?_) (fun y hy x hx => ?_) (u2_same _ _ _ _)⟩
        · rw [← u2_row _ _ _ _ b3]
          exact j1 b b1 b2
        · rw [← u2_row _ _ _ _ (show 127 ≠ 129 by omega)]
          exact (j4 y hy).1 x hx
        · rw [← u2_row _ _ _ _ (show 128 ≠ 129 by omega)]
          exact (j4 y hy).2 x hx
      · rw [j1 84 (by omega) (by omega), h0] at no
        exact absurd (Int32.le_refl _) no
    | succ k ih =>
      intro i J hi j1 j4
      have ic : (nI i).toNatClampNeg = i := znIc (by omega)
      obtain ⟨t1, t2, t3⟩ := ht i (by omega)
      obtain ⟨ka, ka4, ka1, ka2⟩ := hk i (by omega)
      have inner : ∀ (d x : Nat) (K : zFI), x + d = m → (∀ b, b ≠ 127 → b ≠ 128 → K b = I b) → (∀ y, y < i → K 127 y = J 127 y ∧ K 128 y = J 128 y) → zLk mt tm (fun _ _ => True) i x (K 127 i) → zLk mt tm (zAh I r) i x (K 128 i) → ZW G mX12_findRaisings fX12_findRaisings lX12_findRaisings 79 [zo G 84, .int (nI c), .int v2, .int (nI i), .int (nI x), .null, .null, .null] [] S K L 0 0 Q := by
        intro d
        induction d with
        | zero =>
          intro x K hx k1 k2 k3 k4
          have : x = m := by omega
          rw [this] at k3 k4
          rw [this]
          refine vX12_findRaisings_79 hS ⟨fun _ => ?_, fun no => ?_⟩
          · rw [nI_1]
            refine ih (i + 1) K (by omega) k1 (fun y hy => ?_)
            rcases (by omega : y < i ∨ y = i) with e | e
            · rw [(k2 y e).1, (k2 y e).2]
              exact j4 y e
            · rw [e]
              exact ⟨k3, k4⟩
          · rw [k1 84 (by omega) (by omega), h0] at no
            exact absurd (Int32.le_refl _) no
        | succ d ihd =>
          intro x K hx k1 k2 k3 k4
          have xc : (nI x).toNatClampNeg = x := znIc (by omega)
          obtain ⟨s1, s2, s3⟩ := ht x (by omega)
          obtain ⟨kb, kb4, kb1, kb2⟩ := hk x (by omega)
          refine vX12_findRaisings_79 hS ⟨fun no => ?_, fun _ => ?_⟩
          · rw [k1 84 (by omega) (by omega), h0] at no
            exact absurd no (nI_ge (by omega) (by omega))
          · rw [ic, xc, k1 126 (by omega) (by omega), t2, s2, znIc (show tm i < 2147483648 by omega), znIc (show tm x < 2147483648 by omega), k1 124 (by omega) (by omega), t3, k1 85 (by omega) (by omega), ka1, kb1, z105, z105, zone_eq, nI_1, ah12_row (I := I) (show (u2 K 127 i (K 127 i ||| zone x)) 105 = I 105 by rw [← u2_row _ _ _ _ (show 105 ≠ 127 by omega)]; exact k1 105 (by omega) (by omega)), ah_eq hu kb4 ka4 hc rfl]
            have ahe : zAh I r (tm i) (tm x) ↔ ¬ p_X1_isAhead I r (nI kb) (nI ka) = 0 := by
              unfold zAh
              rw [ka2, kb2]
            refine ⟨znIin (by omega) (by omega), znIin (by omega) (by omega), znIin (by omega) (by omega), fun yes => ⟨znIin (by omega) (by omega), znIin (by omega) (by omega), fun _ => znIin (by omega) (by omega), fun no => ?_, fun ah => ?_⟩, fun no => ?_⟩
            · have yb : zb (mt (tm i)) (tm x) := Classical.byContradiction (fun y => yes ((ztest_0 (by omega)).mpr y))
              refine ihd (x + 1) _ (by omega) (fun b b1 b2 => ?_) (fun y hy => ?_) ?_ ?_
              · rw [← u2_row _ _ _ _ b1]
                exact k1 b b1 b2
              · rw [u2_ne _ _ _ _ (by omega), u2_ne _ _ _ _ (by omega)]
                exact k2 y hy
              · rw [u2_same]
                exact zLk_take k3 (by omega) ⟨yb, trivial⟩
              · rw [u2_ne _ _ _ _ (by omega)]
                exact zLk_skip k4 (fun y => ahe.mp y.2 no)
            · have yb : zb (mt (tm i)) (tm x) := Classical.byContradiction (fun y => yes ((ztest_0 (by omega)).mpr y))
              refine ihd (x + 1) _ (by omega) (fun b b1 b2 => ?_) (fun y hy => ?_) ?_ ?_
              · rw [← u2_row _ _ _ _ b2, ← u2_row _ _ _ _ b1]
                exact k1 b b1 b2
              · rw [u2_ne _ _ _ _ (by omega), u2_ne _ _ _ _ (by omega), u2_ne _ _ _ _ (by omega), u2_ne _ _ _ _ (by omega)]
                exact k2 y hy
              · rw [u2_ne _ _ _ _ (by omega), u2_same]
                exact zLk_take k3 (by omega) ⟨yb, trivial⟩
              · rw [u2_same]
                exact zLk_take k4 (by omega) ⟨yb, ahe.mpr ah⟩
            · have nb := (ztest_0 (by omega)).mp no
              exact ihd (x + 1) K (by omega) k1 k2 (zLk_skip k3 (fun y => nb y.1)) (zLk_skip k4 (fun y => nb y.1))
      refine vX12_findRaisings_54 hS ⟨fun no => ?_, fun _ => ⟨znIin (by omega) (by omega), ?_⟩⟩
      · rw [j1 84 (by omega) (by omega), h0] at no
        exact absurd no (nI_ge (by omega) (by omega))
      · rw [ic]
        refine inner m 0 _ (by omega) (fun b b1 b2 => ?_) (fun y hy => ?_) ?_ ?_
        · rw [← u2_row _ _ _ _ b2, ← u2_row _ _ _ _ b1]
          exact j1 b b1 b2
        · rw [u2_ne _ _ _ _ (by omega), u2_ne _ _ _ _ (by omega), u2_ne _ _ _ _ (by omega), u2_ne _ _ _ _ (by omega)]
          exact ⟨rfl, rfl⟩
        · rw [u2_ne _ _ _ _ (by omega), u2_same]
          exact zLk_zero
        · rw [u2_same]
          exact zLk_zero
  exact main m 0 I (by omega) (fun _ _ _ => rfl) (fun y hy => absurd hy (Nat.not_lt_zero _))
/-- the model's findRaisings -/
theorem m_raisings {G : Gp} {Q : zPost} {S : zSh} {I : zFI} {L : zFL} {c r n : Nat} {mt : Nat → Int32} {F : Int32} (hS : zStd S) (hc : c ≤ 1) (hr : zCu r) (hu : iCu1 I r c) (hT : iTim I n) (hF : ∀ x, x < 16 → zb F x → x < n ∧ I 124 x = mt x)
    (q : ∀ J L' tm, (∀ b, b ≠ 84 → b ≠ 126 → b ≠ 127 → b ≠ 128 → b ≠ 129 → J b = I b) → (∀ k, k ≠ 66 → J 84 k = I 84 k) → J 84 66 = nI (zcnt (zbb F) 16) → zTm (zbb F) tm → (∀ i, i < zcnt (zbb F) 16 → J 126 i = nI (tm i)) → zLn mt tm (fun _ _ => True) (zcnt (zbb F) 16) (J 127) → zLn mt tm (zAh I r) (zcnt (zbb F) 16) (J 128) → zMs (J 128) (zcnt (zbb F) 16) (J 129) (zpr (J 127) (I r 3) (zcnt (zbb F) 16)) → (∀ b, b ≠ 130 → L' b = L b) → zWy (J 128) (zcnt (zbb F) 16) (L' 130) → Q none S J L') : ZC G mX12_findRaisings fX12_findRaisings lX12_findRaisings [zo G 84, .int (nI c), .int F] S I L 0 0 Q := by
  obtain ⟨-, n16, h3, rows, -⟩ := hT
  have hr' : r = 8 ∨ r = 9 ∨ r = 83 := hr
  have m16 := zcnt_le (zbb F) 16
  have e16 : zcnt (zbb F) 16 = zcnt (zbb F) n := zcnt_part n16 (fun k h1 h2 y => by
    have := (hF k h2 (zbb_iff.mp y)).1
    omega)
  refine m_take hS n16 h3 (fun J1 a1 a2 a3 a4 => ?_)
  rw [← e16] at a3
  obtain ⟨t1, t2⟩ := zTm_of (p := zbb F) (row := J1 126) (fun t ht y => a4 t (hF t ht (zbb_iff.mp y)).1 y)
  have hu1 : iCu1 J1 r c := by
    unfold iCu1
    rw [a1 105 (by omega) (by omega), a1 r (by omega) (by omega)]
    exact hu
  have ahe : zAh J1 r = zAh I r := by
    funext x y
    unfold zAh
    rw [ah_row (a1 r (by omega) (by omega)), a1 11 (by omega) (by omega)]
  refine m_link (m := zcnt (zbb F) 16) (tm := fun i => (J1 126 i).toNatClampNeg) (mt := mt) hS hc m16 a3 hu1 (fun i hi => ?_) (fun i hi => ?_) (fun J2 b1 b2 b3 b4 => ?_)
  · obtain ⟨u1, u2', u3⟩ := t1 i hi
    refine ⟨u1, t2 i hi, ?_⟩
    rw [a1 124 (by omega) (by omega)]
    exact (hF _ u1 (zbb_iff.mp u2')).2
  · obtain ⟨u1, u2', u3⟩ := t1 i hi
    obtain ⟨w1, -, -, w4, w5, -⟩ := rows _ (hF _ u1 (zbb_iff.mp u2')).1
    obtain ⟨k, k1, k2⟩ := zof w4
    refine ⟨k, ?_, ?_, ?_⟩
    · rw [k2, zle, znI k1, show (3 : Int32).toInt = 3 from rfl] at w5
      omega
    · rw [a1 85 (by omega) (by omega), w1, k2]
    · rw [a1 11 (by omega) (by omega), k2]
  · rw [ahe] at b3
    have e66 : J2 84 66 = nI (zcnt (zbb F) 16) := by rw [b1 84 (by omega) (by omega) (by omega)]; exact a3
    refine m_most hS m16 e66 b4 (fun J3 d1 d2 => ?_)
    have e66' : J3 84 66 = nI (zcnt (zbb F) 16) := by rw [d1 84 (by omega)]; exact e66
    refine m_ways hS m16 e66' (u2_same _ _ _ _) (fun L' l1 V => ?_)
    have e128 : J3 128 = J2 128 := d1 128 (by omega)
    have e127 : J3 127 = J2 127 := d1 127 (by omega)
    refine q J3 L' (fun i => (J1 126 i).toNatClampNeg) (fun b c1 c2 c3 c4 c5 => ?_) (fun k hk => ?_) e66' t1 (fun i hi => ?_) ?_ ?_ ?_ (fun b hb => ?_) V
    · rw [d1 b c5, b1 b c3 c4 c5, a1 b c1 c2]
    · rw [d1 84 (by omega), b1 84 (by omega) (by omega) (by omega), a2 k hk]
    · rw [d1 126 (by omega), b1 126 (by omega) (by omega) (by omega)]
      exact t2 i hi
    · rw [e127]
      exact b2
    · rw [e128]
      exact b3
    · rw [e128, e127, ← a1 r (by omega) (by omega)]
      exact d2
    · rw [l1 b hb, ← u2_row _ _ _ _ hb]
