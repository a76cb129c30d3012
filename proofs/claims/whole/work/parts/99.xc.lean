theorem op_orders {G : Gp} {S : zSh} {I : zFI} {L : zFL} {n jn mn tl ln on : Nat} {v1 v2 : Int32} (h : iAll S I n jn mn tl ln on) (hJ : I 0 16 = 0 → zJ2 S I L (zsj I jn)) (hR : I 0 16 = 0 → zRs S I L) : zOpJ G mX11_orders fX11_orders lX11_orders mX12_orders fX12_orders lX12_orders [.int v1, .int v2] S I L 2 131072 (fun S' I' L' => zPo S I L n jn mn tl ln on S' I' L') := by
  refine ZC.of' (vX11_orders_g (bc := 0) (bs := 0) h.1 (c_isFrame2 h hJ hR (fun I1 L1 c g hc e1 e2 hg A w z R => ?_) (fun I1 L1 c hc e1 no A w z R => ?_) (fun cv => ?_))) rfl (Nat.le_of_ble_eq_true rfl) rfl
  · have g8 : g < 8 := Nat.lt_of_lt_of_le hg (zfc_8 A z hc)
    have gc : (nI g).toNatClampNeg = g := znIc (by omega)
    rw [e1, e2]
    refine ⟨_, rfl, rfl, fun y => absurd y (by decide), fun _ => c_raise11 A hc w z R hg (fun S2 I2 L2 gs A2 w2 z2 R2 b2 f2 => ⟨44 + 8 * c, zFm_c hc, rfl, A2.1, _, rfl, ?_⟩)⟩
    have mem : p_X3_ordersOf L2 (44 + 8 * c) (nI g) = L2 (44 + 8 * c + 6) g := by
      unfold p_X3_ordersOf
      rw [if_neg (nI_pos (by omega)), if_neg (show ¬ (8 : Int32) ≤ nI g from nI_ge (b := 8) g8 (by omega)), gc]
    rw [mem]
    refine ZC.of' (vX12_orders_0 A2.1 (m_hasYes A2 hc z2 (by rw [f2]; exact hg) (fun K r nr wK mK gK g4 => ⟨r, rfl, rfl, fun _ => ⟨znIin (by omega) (by omega), ?_⟩, fun y => absurd y nr⟩))) rfl (Nat.le_of_ble_eq_true rfl) rfl
    obtain ⟨AK, eK, zK', RK⟩ := st_scr A2 w2 z2 R2 wK (fun _ _ => rfl)
    rw [gc]
    have lo : ∀ x, x < 67 → K x = I2 x := fun x hx => wK.low hx
    have e1 : K (44 + 8 * c + 1) = I2 (44 + 8 * c + 1) := lo _ (by omega)
    refine m_found AK hc zK' RK g8 (by rw [lo (44 + 8 * c) (by omega)]; exact b2) (by rw [e1]; exact g4) (by rw [e1]; exact gK) (fun J M m tm wJ l m16 e66 ht V o u0 u1 => ⟨rfl, rfl, ?_⟩)
    have p := p16 m16
    have pos := Nat.two_pow_pos m
    have ex : (1 : Int32) <<< ((J 84 66) &&& 31) - 1 = nI (2 ^ m - 1) := by
      rw [e66, zone_eq, zone_nI m16]
      have := nI_pre (2 ^ m - 1)
      rw [show 2 ^ m - 1 + 1 = 2 ^ m by omega] at this
      exact this
    rw [ex, znIc (show 2 ^ m - 1 < 2147483648 by omega), ← o]
    exact ⟨znIin (by omega) (by omega), rfl, zPo_scr A2 gs w2 z2 R2 (wK.trans wJ) l⟩
  · rw [e1]
    refine ⟨_, rfl, rfl, fun _ => ⟨_, rfl, ?_⟩, fun y => absurd rfl y⟩
    exact ZC.of' (vX12_orders_0 A.1 (m_hasNone A hc z no (fun K r r0 wK => ⟨r, rfl, rfl, fun y => absurd r0 y, fun _ => ⟨rfl, zPo_scr A (Or.inl rfl) w z R wK (fun _ _ => rfl)⟩⟩))) rfl (Nat.le_of_ble_eq_true rfl) rfl
  · refine ⟨_, rfl, rfl, fun _ => ⟨_, rfl, ?_⟩, fun y => absurd rfl y⟩
    exact ZC.of' (vX12_orders_0 h.1 (m_hasNo h.1 cv ⟨_, rfl, rfl, fun y => absurd rfl y, fun _ => ⟨rfl, zPo_told h⟩⟩)) rfl (Nat.le_of_ble_eq_true rfl) rfl
/-- the model's steps of a raising -/
theorem m_steps {G : Gp} {Q : zPost} {S : zSh} {I : zFI} {L : zFL} {m i : Nat} {v1 v2 hold : Int32} {tm se ch : Nat → Nat} (hS : zStd S) (hm : m ≤ 16) (h0 : I 84 66 = nI m) (hi : i < m) (ht : ∀ i, i < m → tm i < 16 ∧ I 126 i = nI (tm i)) (s0 : se 0 = 0)
    (hs : ∀ k, k < m → se k < 2 ^ m ∧ ch k < m ∧ zcc (I 128) (ch k) (se k) ∧ zmx (I 129 (se k ||| 2 ^ ch k)) (zpr (I 127) hold m (se k ||| 2 ^ ch k)) ≤ I 129 0 ∧ (∀ j, j < ch k → ¬ (zcc (I 128) j (se k) ∧ zmx (I 129 (se k ||| 2 ^ j)) (zpr (I 127) hold m (se k ||| 2 ^ j)) ≤ I 129 0)) ∧ se (k + 1) = se k ||| 2 ^ ch k)
    (q : Q (some (.int (nI (tm (ch i))))) S I L) : ZW G mX12_raised fX12_raised lX12_raised 78 [zo G 84, .int v1, .int v2, .int (nI i), .int hold, .int 0, .int (-1), .int 0] [] S I L 0 0 Q := by
  have h16 := p16 hm
  have main : ∀ (d k : Nat) (v6 : Int32), k + d = i + 1 → (0 < k → v6 = nI (ch (k - 1))) → ZW G mX12_raised fX12_raised lX12_raised 78 [zo G 84, .int v1, .int v2, .int (nI i), .int hold, .int (nI (se k)), .int v6, .int (nI k)] [] S I L 0 0 Q := by
    intro d
    induction d with
    | zero =>
      intro k v6 hk h6
      have h6 := h6 (by omega)
      have : k - 1 = i := by omega
      rw [this] at h6
      obtain ⟨a1, a2, -⟩ := hs i hi
      refine vX12_raised_78 hS ⟨fun _ => ?_, fun no => absurd (nI_lt (by omega) (by omega)) no⟩
      rw [h6, znIc (by omega), (ht _ a2).2]
      exact ⟨znIin (by omega) (by omega), q⟩
    | succ d ih =>
      intro k v6 hk h6
      obtain ⟨a1, a2, a3, a4, a5, a6⟩ := hs k (by omega)
      have scan : ∀ (e j : Nat), j + e = ch k → ZW G mX12_raised fX12_raised lX12_raised 87 [zo G 84, .int v1, .int v2, .int (nI i), .int hold, .int (nI (se k)), .int (nI j), .int (nI k)] [] S I L 0 0 Q := by
        intro e
        induction e with
        | zero =>
          intro j hj
          have : j = ch k := by omega
          rw [this]
          have cc := m_can (I := I) (i := ch k) (s := se k) hm a2 a1
          have lt := add_lt a1 a2
          have ab := zmx_le.mp a4
          refine vX12_raised_87 hS ⟨fun _ => znIin (by omega) (by omega), fun no => absurd a3 (cc.mp no), fun _ => ?_⟩
          rw [zone_eq, zor_nI hm a1 a2, nI_1, nI_1, znIc (show se k ||| 2 ^ ch k < 2147483648 by omega), show (0 : Int32).toNatClampNeg = 0 from rfl]
          refine ⟨znIin (by omega) (by omega), fun no => absurd ab.1 (Int32.not_le.mpr no), fun _ => m_props hS hm h0 ⟨_, rfl, rfl, fun _ => ?_, fun no => absurd ab.2 no⟩⟩
          rw [← a6]
          exact ih (k + 1) _ (by omega) (fun _ => by rw [Nat.add_sub_cancel])
        | succ e ihe =>
          intro j hj
          have cc := m_can (I := I) (i := j) (s := se k) hm (by omega) a1
          have lt := add_lt (i := j) a1 (show j < m by omega)
          refine vX12_raised_87 hS ⟨fun _ => znIin (by omega) (by omega), fun no => ?_, fun yes => ?_⟩
          · rw [nI_1]
            exact ihe (j + 1) (by omega)
          · rw [zone_eq, zor_nI hm a1 (by omega), nI_1, nI_1, znIc (show se k ||| 2 ^ j < 2147483648 by omega), show (0 : Int32).toNatClampNeg = 0 from rfl]
            refine ⟨znIin (by omega) (by omega), fun _ => ihe (j + 1) (by omega), fun lo => m_props hS hm h0 ⟨_, rfl, rfl, fun hp => ?_, fun _ => ihe (j + 1) (by omega)⟩⟩
            exact absurd ⟨Classical.not_not.mp (fun y => yes (cc.mpr y)), zmx_le.mpr ⟨Int32.not_lt.mp lo, hp⟩⟩ (a5 j (by omega))
      exact vX12_raised_78 hS ⟨fun y => absurd y (fun y => by
        rw [zlt, znI (by omega), znI (by omega)] at y
        omega), fun _ => scan (ch k) 0 (by omega)⟩
  have := main (i + 1) 0 (-1) (by omega) (fun y => absurd y (Nat.lt_irrefl 0))
  rw [s0] at this
  exact this
theorem step_in {I : zFI} {f g i : Nat} (hg : g < 8) (hi : i < 16) : p_X3_stepOf I f (nI g) (nI i) = I (f + 7) (16 * g + i) := by
  unfold p_X3_stepOf
  rw [mem16 hi, if_neg (by decide), z16, pick_in (by omega) (by omega)]
theorem step_out {I : zFI} {f : Nat} {v2 v : Int32} (h : ¬ ∃ i, i < 16 ∧ v = nI i) : p_X3_stepOf I f v2 v = -1 := by
  unfold p_X3_stepOf p_X3_isMember
  by_cases c : v < 0
  · rw [if_pos c, if_pos rfl]
  · rw [if_neg c]
    by_cases d : (16 : Int32) ≤ v
    · rw [if_pos d, if_pos rfl]
    · obtain ⟨i, i1, i2⟩ := zof (Int32.not_lt.mp c)
      rw [i2, zle, znI i1, show (16 : Int32).toInt = 16 from rfl] at d
      exact absurd ⟨i, by omega, i2⟩ h
theorem op_raised {G : Gp} {S : zSh} {I : zFI} {L : zFL} {n jn mn tl ln on : Nat} {v1 v2 v3 : Int32} (h : iAll S I n jn mn tl ln on) (hJ : I 0 16 = 0 → zJ2 S I L (zsj I jn)) (hR : I 0 16 = 0 → zRs S I L) : zOpI G mX11_raised fX11_raised lX11_raised mX12_raised fX12_raised lX12_raised [.int v1, .int v2, .int v3] S I L 2 131072 (fun S' I' L' => zPo S I L n jn mn tl ln on S' I' L') := by
  refine ZC.of' (vX11_raised_g (bc := 0) (bs := 0) h.1 (c_isFrame2 h hJ hR (fun I1 L1 c g hc e1 e2 hg A w z R => ?_) (fun I1 L1 c hc e1 no A w z R => ?_) (fun cv => ?_))) rfl (Nat.le_of_ble_eq_true rfl) rfl
  · have g8 : g < 8 := Nat.lt_of_lt_of_le hg (zfc_8 A z hc)
    have gc : (nI g).toNatClampNeg = g := znIc (by omega)
    rw [e1, e2]
    refine ⟨_, rfl, rfl, fun y => absurd y (by decide), fun _ => c_raise11 A hc w z R hg (fun S2 I2 L2 gs A2 w2 z2 R2 b2 f2 => ⟨44 + 8 * c, zFm_c hc, rfl, A2.1, _, rfl, ?_⟩)⟩
    refine ZC.of' (vX12_raised_0 A2.1 (m_hasYes A2 hc z2 (by rw [f2]; exact hg) (fun K r nr wK mK gK g4 => ⟨r, rfl, rfl, fun _ => ⟨znIin (by omega) (by omega), ?_⟩, fun y => absurd y nr⟩))) rfl (Nat.le_of_ble_eq_true rfl) rfl
    obtain ⟨AK, eK, zK', RK⟩ := st_scr A2 w2 z2 R2 wK (fun _ _ => rfl)
    rw [gc]
    have lo : ∀ x, x < 67 → K x = I2 x := fun x hx => wK.low hx
    have e1 : K (44 + 8 * c + 1) = I2 (44 + 8 * c + 1) := lo _ (by omega)
    have e7 : K (44 + 8 * c + 7) = I2 (44 + 8 * c + 7) := lo _ (by omega)
    refine m_found AK hc zK' RK g8 (by rw [lo (44 + 8 * c) (by omega)]; exact b2) (by rw [e1]; exact g4) (by rw [e1]; exact gK) (fun J M m tm wJ l m16 e66 ht V o u0 u1 => ⟨rfl, rfl, ?_⟩)
    have fin := zPo_scr (S0 := S) (I0 := I) (L0 := L) A2 gs w2 z2 R2 (wK.trans wJ) l
    rw [show (0 : Int32).toNatClampNeg = 0 from rfl, e66, z53, znIc (show 50 * c + 3 < 2147483648 by omega)]
    rw [e7] at u0 u1
    refine ⟨fun much => ?_, fun less => ⟨fun yes => ⟨znIin (by omega) (by omega), ?_⟩, fun no => ?_⟩⟩
    · have z0 : M 130 (2 ^ m - 1) = 0 := Classical.byContradiction (fun nz => by
        obtain ⟨-, -, b, -⟩ := u1 nz
        rw [much, show (1000000 : Int32).toInt = 1000000 from rfl] at b
        omega)
      obtain ⟨-, -, b⟩ := u0 z0
      by_cases c1 : ∃ i, i < 16 ∧ v3 = nI i
      · obtain ⟨i, i1, i2⟩ := c1
        rw [i2, step_in g8 i1, b i i1]
        exact ⟨rfl, fin⟩
      · rw [step_out c1]
        exact ⟨rfl, fin⟩
    · have nz : ¬ M 130 (2 ^ m - 1) = 0 := fun z0 => less (u0 z0).2.1
      obtain ⟨-, -, -, -, se, ch, s0, hs⟩ := u1 nz
      obtain ⟨i, i1, i2⟩ := Classical.not_not.mp (fun y => yes ((isIn_cnt (v := v3) (k := m) (by omega)).mpr y))
      have st := (hs i i1).2.2.2.2.2.2
      rw [i2, step_in g8 (by omega), st]
      exact m_steps A2.1 m16 e66 i1 ht s0 (fun k hk => by
        obtain ⟨b1, b2, b3, b4, b5, b6, -⟩ := hs k hk
        exact ⟨b1, b2, b3, b4, b5, b6⟩) ⟨rfl, fin⟩
    · have nz : ¬ M 130 (2 ^ m - 1) = 0 := fun z0 => less (u0 z0).2.1
      obtain ⟨-, -, -, b, -⟩ := u1 nz
      have out := (isIn_cnt (v := v3) (k := m) (by omega)).mp no
      by_cases c1 : ∃ i, i < 16 ∧ v3 = nI i
      · obtain ⟨i, i1, i2⟩ := c1
        rw [i2, step_in g8 i1, b i i1 (Classical.byContradiction (fun y => out ⟨i, by omega, i2⟩))]
        exact ⟨rfl, fin⟩
      · rw [step_out c1]
        exact ⟨rfl, fin⟩
  · rw [e1]
    refine ⟨_, rfl, rfl, fun _ => ⟨_, rfl, ?_⟩, fun y => absurd rfl y⟩
    exact ZC.of' (vX12_raised_0 A.1 (m_hasNone A hc z no (fun K r r0 wK => ⟨r, rfl, rfl, fun y => absurd r0 y, fun _ => ⟨rfl, zPo_scr A (Or.inl rfl) w z R wK (fun _ _ => rfl)⟩⟩))) rfl (Nat.le_of_ble_eq_true rfl) rfl
  · refine ⟨_, rfl, rfl, fun _ => ⟨_, rfl, ?_⟩, fun y => absurd rfl y⟩
    exact ZC.of' (vX12_raised_0 h.1 (m_hasNo h.1 cv ⟨_, rfl, rfl, fun y => absurd rfl y, fun _ => ⟨rfl, zPo_told h⟩⟩)) rfl (Nat.le_of_ble_eq_true rfl) rfl
