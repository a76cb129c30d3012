/-- member x of the set s needs a prop -/
noncomputable def zpp (mt : Nat → Int32) (hold s : Int32) (x : Nat) : Bool := zbb s x && decide (¬ (hold ≤ nI (zpc (mt x &&& s)) ∨ nI (zpc (mt x)) ≤ nI (zpc (mt x &&& s))))
theorem zpp_n0 {mt : Nat → Int32} {hold s : Int32} {x : Nat} (h : ¬ zb s x) : ¬ zpp mt hold s x = true := by
  unfold zpp
  rw [Bool.eq_false_iff.mpr (fun y => h (zbb_iff.mp y)), Bool.false_and]
  exact Bool.noConfusion
theorem zpp_n1 {mt : Nat → Int32} {hold s : Int32} {x : Nat} (h : hold ≤ nI (zpc (mt x &&& s)) ∨ nI (zpc (mt x)) ≤ nI (zpc (mt x &&& s))) : ¬ zpp mt hold s x = true := by
  unfold zpp
  rw [decide_eq_false (fun y => y h), Bool.and_false]
  exact Bool.noConfusion
theorem zpp_y {mt : Nat → Int32} {hold s : Int32} {x : Nat} (h0 : zb s x) (h : ¬ (hold ≤ nI (zpc (mt x &&& s)) ∨ nI (zpc (mt x)) ≤ nI (zpc (mt x &&& s)))) : zpp mt hold s x = true := by
  unfold zpp
  rw [zbb_iff.mpr h0, decide_eq_true h]
  rfl
theorem c_props {G : Gp} {Q : zPost} {S : zSh} {I : zFI} {L : zFL} {m : Nat} {hold s : Int32} (hS : zStd S) (hm : m ≤ 16) (h0 : I 60 0 = nI m) (need : ∀ x, x < m → ∀ r : Int32, I 64 x ≤ r ↔ hold ≤ r ∨ nI (zpc (I 62 x)) ≤ r) (q : Q (some (.int (nI (zcnt (zpp (I 62) hold s) m)))) S I L) : ZC G mX7_props fX7_props lX7_props [zo G 60, .int s] S I L 0 0 Q := by
  have key : ∀ (k x : Nat), x + k = m → ZW G mX7_props fX7_props lX7_props 4 [zo G 60, .int s, .int (nI (zcnt (zpp (I 62) hold s) x)), .int (nI x)] [] S I L 0 0 Q := by
    intro k
    induction k with
    | zero =>
      intro x hx
      rw [show x = m by omega]
      refine vX7_props_4 hS ⟨fun _ => q, fun no => ?_⟩
      rw [h0] at no
      exact absurd (Int32.le_refl _) no
    | succ k ih =>
      intro x hx
      have i1 := ih (x + 1) (by omega)
      rw [zcnt_succ] at i1
      have xc : (nI x).toNatClampNeg = x := znIc (by omega)
      refine vX7_props_4 hS ⟨fun no => ?_, fun _ => ⟨fun c => ?_, fun c => ⟨znIin (by omega) (by omega), ?_⟩⟩⟩
      · rw [h0] at no
        exact absurd no (nI_ge (by omega) (by omega))
      · rw [if_neg (zpp_n0 (fun y => c ((zb_test (by omega)).mpr y)))] at i1
        rw [nI_1]
        exact i1
      · have bx := (zb_test (by omega)).mp c
        have e : p_J6_bitCount_0f7a4 (I 62 x &&& s) = nI (zpc (I 62 x &&& s)) := pc32 _
        rw [xc, e, need x (by omega), nI_1]
        refine ⟨fun y => ?_, fun y => ?_⟩
        · rw [if_neg (zpp_n1 y)] at i1
          exact i1
        · rw [if_pos (zpp_y bx y)] at i1
          rw [nI_1]
          exact i1
  exact ZC.of' (vX7_props_0 hS (key m 0 (by omega))) rfl (Nat.le_of_ble_eq_true rfl) rfl
theorem m_props {G : Gp} {Q : zPost} {S : zSh} {I : zFI} {L : zFL} {m : Nat} {hold s : Int32} (hS : zStd S) (hm : m ≤ 16) (h0 : I 84 66 = nI m) (q : Q (some (.int (nI (zcnt (zpp (I 127) hold s) m)))) S I L) : ZC G mX12_props fX12_props lX12_props [zo G 84, .int hold, .int s] S I L 0 0 Q := by
  have key : ∀ (k x : Nat), x + k = m → ZW G mX12_props fX12_props lX12_props 5 [zo G 84, .int hold, .int s, .int (nI (zcnt (zpp (I 127) hold s) x)), .int (nI x), .null] [] S I L 0 0 Q := by
    intro k
    induction k with
    | zero =>
      intro x hx
      rw [show x = m by omega]
      refine vX12_props_5 hS ⟨fun _ => q, fun no => ?_⟩
      rw [h0] at no
      exact absurd (Int32.le_refl _) no
    | succ k ih =>
      intro x hx
      have i1 := ih (x + 1) (by omega)
      rw [zcnt_succ] at i1
      have xc : (nI x).toNatClampNeg = x := znIc (by omega)
      refine vX12_props_5 hS ⟨fun no => ?_, fun _ => ⟨fun c => ⟨znIin (by omega) (by omega), m_ones hS ⟨_, rfl, rfl, ?_⟩⟩, fun c => ?_⟩⟩
      · rw [h0] at no
        exact absurd no (nI_ge (by omega) (by omega))
      · have bx : zb s x := Classical.byContradiction (fun y => c ((ztest_0 (by omega)).mpr y))
        rw [xc]
        refine ⟨fun y => ?_, fun y => m_ones hS ⟨_, rfl, rfl, fun z => ?_, fun z => ?_⟩⟩
        · rw [if_neg (zpp_n1 (Or.inl y))] at i1
          rw [nI_1]
          exact i1
        · rw [if_neg (zpp_n1 (Or.inr z))] at i1
          rw [nI_1]
          exact i1
        · rw [if_pos (zpp_y bx (fun w => w.elim y z))] at i1
          rw [nI_1, nI_1]
          exact i1
      · rw [if_neg (zpp_n0 ((ztest_0 (by omega)).mp c))] at i1
        rw [nI_1]
        exact i1
  exact ZC.of' (vX12_props_0 hS (key m 0 (by omega))) rfl (Nat.le_of_ble_eq_true rfl) rfl
