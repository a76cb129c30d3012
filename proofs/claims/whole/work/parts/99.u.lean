/-! what is right of a raising: of members p, mates mt, A: who comes ahead of whom -/
def zRt (mt : Nat → Int32) (p : Nat → Bool) (A : Nat → Nat → Prop) (hold : Int32) (most : Int32) (ord : Int64) (st : Nat → Int32) : Prop :=
  ∃ (tm : Nat → Nat) (nr bf : Nat → Int32) (V : Nat → Int64) (D : Nat → Int32), zTm p tm ∧ zLn mt tm (fun _ _ => True) (zcnt p 16) nr ∧ zLn mt tm A (zcnt p 16) bf ∧ zWy bf (zcnt p 16) V ∧ zMs bf (zcnt p 16) D (zpr nr hold (zcnt p 16)) ∧ ord = V (2 ^ zcnt p 16 - 1) ∧
    (V (2 ^ zcnt p 16 - 1) = 0 → most = -1 ∧ ∀ i, i < 16 → st i = -1) ∧
    (¬ V (2 ^ zcnt p 16 - 1) = 0 → most = D 0 ∧ (∀ i, i < zcnt p 16 → st i = nI (tm (zch bf (fun x => zmx (D x) (zpr nr hold (zcnt p 16) x) ≤ D 0) i))) ∧ ∀ i, i < 16 → zcnt p 16 ≤ i → st i = -1)
theorem zRt_congr {mt mt' : Nat → Int32} {p p' : Nat → Bool} {A A' : Nat → Nat → Prop} {hold most : Int32} {ord : Int64} {st : Nat → Int32} (h : zRt mt p A hold most ord st) (ep : ∀ x, x < 16 → p x = p' x) (e1 : ∀ a, a < 16 → p a = true → mt a = mt' a) (e2 : ∀ a b, a < 16 → b < 16 → p a = true → p b = true → (A a b ↔ A' a b)) : zRt mt' p' A' hold most ord st := by
  obtain ⟨tm, nr, bf, V, D, a1, a2, a3, a4⟩ := h
  have ec : zcnt p' 16 = zcnt p 16 := zcnt_congr (fun x hx => (ep x hx).symm)
  refine ⟨tm, nr, bf, V, D, fun i hi => ?_, ?_, ?_, ?_⟩
  · rw [ec] at hi
    obtain ⟨b1, b2, b3⟩ := a1 i hi
    refine ⟨b1, by rw [← ep _ b1]; exact b2, ?_⟩
    exact (zcnt_congr (fun x hx => (ep x (by omega)).symm)).trans b3
  · rw [ec]
    exact zLn_congr a2 (fun _ _ => rfl) (fun i hi => e1 _ (a1 i hi).1 (a1 i hi).2.1) (fun _ _ _ _ => Iff.rfl)
  · rw [ec]
    exact zLn_congr a3 (fun _ _ => rfl) (fun i hi => e1 _ (a1 i hi).1 (a1 i hi).2.1) (fun i x hi hx => e2 _ _ (a1 i hi).1 (a1 x hx).1 (a1 i hi).2.1 (a1 x hx).2.1)
  · rw [ec]
    exact a4
/-- a raising's rows in frames f at g -/
def zRf (I : zFI) (L : zFL) (f g : Nat) (mt : Nat → Int32) (p : Nat → Bool) (A : Nat → Nat → Prop) (hold : Int32) : Prop := zRt mt p A hold (I (f + 5) g) (L (f + 6) g) (fun i => I (f + 7) (16 * g + i))
theorem zcc_lt {bf : Nat → Int32} {i s m : Nat} (hs : s < 2 ^ m) (h : zcc bf i s) : ∀ k, k < 32 → zb (bf i) k → k < m := fun k hk q => Classical.byContradiction (fun no => by
  have := Nat.testBit_lt_two_pow (show s < 2 ^ k from Nat.lt_of_lt_of_le hs (Nat.pow_le_pow_right (by omega) (by omega)))
  rw [h.2 k hk q] at this
  exact Bool.noConfusion this)
set_option maxHeartbeats 1000000 in
/-- Raising.raise -/
theorem c_raise {G : Gp} {Q : zPost} {S : zSh} {I : zFI} {L : zFL} {f g r : Nat} (hS : zStd S) (hf : zFm f) (hr : zCu r) (hg : g < 8) (hirr : ∀ t, t < 16 → ¬ zb (I (f + 1) t) t)
    (q : ∀ S' I' L', zGo S S' (zcnt (zme I f (nI g)) 16) → zStd S' → (∀ b, b < 139 → b ≠ f → b ≠ f + 5 → b ≠ f + 7 → ¬ (60 ≤ b ∧ b ≤ 66) → I' b = I b) → (∀ k, k ≠ 5 → I' f k = I f k) → I' f 5 = I f 5 ||| zone g → (∀ k, k ≠ g → I' (f + 5) k = I (f + 5) k) → (∀ k, k < 16 * g ∨ 16 * g + 16 ≤ k → I' (f + 7) k = I (f + 7) k) →
      (∀ b, b < 139 → b ≠ f + 6 → b ≠ 65 → L' b = L b) → (∀ k, k ≠ g → L' (f + 6) k = L (f + 6) k) → zRf I' L' f g (I (f + 1)) (zme I f (nI g)) (zAh I r) (I r 3) → Q none S' I' L') : ZC G mX7_raise fX7_raise lX7_raise [zo G 60, zo G f, .int (nI g), zo G 10, zo G r] S I L 2 131072 Q := by
  have hf' : f = 44 ∨ f = 52 := hf
  have hr' : r = 8 ∨ r = 9 ∨ r = 83 := hr
  have m16 := zcnt_le (zme I f (nI g)) 16
  have h16 := p16 m16
  have pos := Nat.two_pow_pos (zcnt (zme I f (nI g)) 16)
  refine ZC.of' (vX7_raise_g (bc := 0) (bs := 0) hS hf hr ?_) rfl (Nat.le_of_ble_eq_true rfl) rfl
  refine c_take hS hf (fun I1 a1 a2 a3 a4 => ⟨rfl, rfl, ?_⟩)
  obtain ⟨t1, t2⟩ := zTm_of (row := I1 61) a4
  have tms : ∀ i, i < zcnt (zme I f (nI g)) 16 → (I1 61 i).toNatClampNeg < 16 ∧ I1 61 i = nI (I1 61 i).toNatClampNeg := fun i hi => ⟨(t1 i hi).1, t2 i hi⟩
  refine c_link (tm := fun i => (I1 61 i).toNatClampNeg) hS hf hr m16 a3 tms (fun I2 b1 b2 b3 b4 b5 => ⟨rfl, rfl, ?_⟩)
  rw [a1 (f + 1) (by omega) (by omega)] at b2 b3
  have ahe : zAh I1 r = zAh I r := by
    funext x y
    unfold zAh
    rw [ah_row (a1 r (by omega) (by omega)), a1 11 (by omega) (by omega)]
  rw [ahe] at b3
  rw [a1 r (by omega) (by omega)] at b4
  have e60 : I2 60 0 = nI (zcnt (zme I f (nI g)) 16) := by rw [b1 60 (by omega) (by omega) (by omega) (by omega)]; exact a3
  have e61 : I2 61 = I1 61 := b1 61 (by omega) (by omega) (by omega) (by omega)
  refine c_makeRoom hS m16 e60 (fun S' go => ⟨rfl, go.std hS m16, ?_⟩)
  have hS' := go.std hS m16
  have l16 : zwl S' ≤ 65536 := hS'.gr.2.2.2.2.2.2.2.2
  have wo : zwo S' = 66 ∨ 140 ≤ zwo S' := hS'.gr.2.2.2.2.2.1
  have wy : zwy S' = 65 ∨ 140 ≤ zwy S' := hS'.gr.2.2.2.2.1
  have room := go.room
  have ga : zGa I2 (zcnt (zme I f (nI g)) 16) := fun i hi => ⟨b5 i hi, fun y => hirr _ (tms i hi).1 ((b3 i hi i (by omega)).mp y).2.1⟩
  refine c_countWays hS' m16 e60 room ga (fun L1 l1 V1 => ⟨rfl, rfl, ?_⟩)
  have e1 : (1 : Int32) <<< ((I2 60 0) &&& 31) - 1 = nI (2 ^ zcnt (zme I f (nI g)) 16 - 1) := by
    rw [e60, zone_eq, zone_nI m16]
    have := nI_pre (2 ^ zcnt (zme I f (nI g)) 16 - 1)
    rw [show 2 ^ zcnt (zme I f (nI g)) 16 - 1 + 1 = 2 ^ zcnt (zme I f (nI g)) 16 by omega] at this
    exact this
  rw [e1, znIc (show 2 ^ zcnt (zme I f (nI g)) 16 - 1 < 2147483648 by omega)]
  generalize hmm : zcnt (zme I f (nI g)) 16 = m at *
  obtain ⟨D, hD⟩ := zMs_ex (I2 63) m (zpr (I2 62) (I r 3) m)
  have zero8 : ∀ J : zFI, (∀ b, b ≠ f → b ≠ f + 5 → b ≠ f + 7 → J b = I2 b) → ∀ b, b < 139 → b ≠ f → b ≠ f + 5 → b ≠ f + 7 → ¬ (60 ≤ b ∧ b ≤ 66) → J b = I b := fun J hJ b c1 c2 c3 c4 c5 => by
    rw [hJ b c2 c3 c4, b1 b (by omega) (by omega) (by omega) (by omega), a1 b (by omega) (by omega)]
  have ef : I2 f = I f := by rw [b1 f (by omega) (by omega) (by omega) (by omega), a1 f (by omega) (by omega)]
  have ef5 : I2 (f + 5) = I (f + 5) := by rw [b1 (f + 5) (by omega) (by omega) (by omega) (by omega), a1 (f + 5) (by omega) (by omega)]
  have ef7 : I2 (f + 7) = I (f + 7) := by rw [b1 (f + 7) (by omega) (by omega) (by omega) (by omega), a1 (f + 7) (by omega) (by omega)]
  refine ⟨znIin (by omega) (by omega), fun nz => ?_, fun z => ?_⟩
  · have full : ¬ L1 (zwy S') (2 ^ m - 1) = 0 := fun y => nz (lgz.mpr y)
    refine c_measureWorst hS' m16 e60 room b4 V1 ga (fun I3 d1 d2 d3 => ⟨rfl, rfl, znIin (n := 0) (by omega) (by omega), ?_⟩)
    rw [show (0 : Int32).toNatClampNeg = 0 from rfl]
    have hpr := fun s => zpr_16 (I2 62) (I r 3) m16 s
    have pf : zpr (I2 62) (I r 3) m (2 ^ m - 1) = 0 := zpr_full m16 (fun x hx k hk y => ((b2 x hx k hk).mp y).1)
    have key := z_worst m16 V1 full hD hpr pf d2 d3
    have pz := zWy_pos m16 V1
    have w0 : I3 (zwo S') 0 = D 0 := by
      obtain ⟨k1, k2, k3⟩ := key 0 pos pz.1
      rw [k3, zpr_0]
      unfold zmx
      by_cases c : D 0 ≤ 0
      · rw [if_pos c]
        rw [zle] at c
        rw [zeq]
        rw [show (0 : Int32).toInt = 0 from rfl] at c ⊢
        omega
      · rw [if_neg c]
    refine c_keepRaising hS' hf hg (fun I4 g1 g2 g3 g4 g5 g6 g7 => ⟨rfl, rfl, ?_⟩)
    have chain := z_chain m16 V1 full hpr d3 key (v := D 0) (by rw [w0]; exact Int32.le_refl _)
    have e63 : I4 63 = I2 63 := by rw [g1 63 (by omega) (by omega) (by omega), d1 63 (by omega)]
    have ewo : I4 (zwo S') = I3 (zwo S') := g1 _ (by omega) (by omega) (by omega)
    have okk : ∀ s j, s < 2 ^ m → ¬ L1 (zwy S') s = 0 → j < m → zcc (I2 63) j s → (I3 (zwo S') (s ||| 2 ^ j) ≤ D 0 ↔ zmx (D (s ||| 2 ^ j)) (zpr (I2 62) (I r 3) m (s ||| 2 ^ j)) ≤ D 0) := fun s j hs hv hj hc => by
      rw [(key _ (add_lt hs hj) (pz.2.1 s j hs hj hc hv)).2.2]
    refine c_keepSteps (m := m) (tm := fun i => (I1 61 i).toNatClampNeg) (se := zse (I2 63) (fun x => zmx (D x) (zpr (I2 62) (I r 3) m x) ≤ D 0)) (ch := zch (I2 63) (fun x => zmx (D x) (zpr (I2 62) (I r 3) m x) ≤ D 0)) hS' hf hg m16 (by rw [g1 60 (by omega) (by omega) (by omega), d1 60 (by omega)]; exact e60) room (fun i hi => ?_) (ga.row (by rw [g1 139 (by omega) (by omega) (by omega), d1 139 (by omega)]) e63) rfl (fun k hk => ?_) (fun I5 n1 n2 n3 => ⟨rfl, rfl, ?_⟩)
    · rw [g1 61 (by omega) (by omega) (by omega), d1 61 (by omega), e61]
      exact tms i hi
    · obtain ⟨c1, c2, c3, c4, c5⟩ := chain k (by omega)
      obtain ⟨u1, u2', u3, u4⟩ := c5 hk
      rw [e63, ewo, w0]
      refine ⟨c1, u1, u2', (okk _ _ c1 c3 u1 u2').mpr u3, fun j hj y => u4 j hj ⟨y.1, (okk _ _ c1 c3 (by omega) y.1).mp y.2⟩, rfl⟩
    · refine q S' I5 _ go hS' (fun b c1 c2 c3 c4 c5 => ?_) (fun k hk => ?_) ?_ (fun k hk => ?_) (fun k hk => ?_) (fun b c1 c2 c3 => ?_) (fun k hk => ?_) ?_
      · rw [n1 b c4, g1 b c2 c3 c4, d1 b (by omega), b1 b (by omega) (by omega) (by omega) (by omega), a1 b (by omega) (by omega)]
      · rw [n1 f (by omega), g2 k hk, d1 f (by omega), ef]
      · rw [n1 f (by omega), g3, d1 f (by omega), ef]
      · rw [n1 (f + 5) (by omega), g5 k hk, d1 (f + 5) (by omega), ef5]
      · rw [n3 k (by omega), g7 k hk, d1 (f + 7) (by omega), ef7]
      · rw [← u2_row _ _ _ _ c2]
        exact l1 b (by omega)
      · rw [u2_ne _ _ _ _ (by omega), l1 (f + 6) (by omega)]
      · unfold zRf zRt
        rw [hmm]
        refine ⟨fun i => (I1 61 i).toNatClampNeg, I2 62, I2 63, L1 (zwy S'), D, t1, b2, b3, V1, hD, u2_same _ _ _ _, fun y => absurd y full, fun _ => ⟨?_, fun i hi => n2 i hi, fun i i1 i2 => ?_⟩⟩
        · rw [n1 (f + 5) (by omega), g4, w0]
        · show I5 (f + 7) (16 * g + i) = -1
          rw [n3 _ (by omega), g6 i i1]
  · have none := lgz.mp z
    refine c_keepRaising hS' hf hg (fun I4 g1 g2 g3 g4 g5 g6 g7 => ⟨rfl, rfl, ?_⟩)
    refine q S' I4 _ go hS' (fun b c1 c2 c3 c4 c5 => ?_) (fun k hk => ?_) ?_ (fun k hk => ?_) (fun k hk => ?_) (fun b c1 c2 c3 => ?_) (fun k hk => ?_) ?_
    · exact zero8 I4 g1 b c1 c2 c3 c4 c5
    · rw [g2 k hk, ef]
    · rw [g3, ef]
    · rw [g5 k hk, ef5]
    · rw [g7 k hk, ef7]
    · rw [← u2_row _ _ _ _ c2]
      exact l1 b (by omega)
    · rw [u2_ne _ _ _ _ (by omega), l1 (f + 6) (by omega)]
    · unfold zRf zRt
      rw [hmm]
      refine ⟨fun i => (I1 61 i).toNatClampNeg, I2 62, I2 63, L1 (zwy S'), D, t1, b2, b3, V1, hD, ?_, fun _ => ⟨g4, fun i hi => g6 i hi⟩, fun y => absurd none y⟩
      rw [u2_same, none]
