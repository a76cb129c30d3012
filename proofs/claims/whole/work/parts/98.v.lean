theorem zcnt_first (p : Nat → Bool) : ∀ n, zcnt p (n + 1) = (if p 0 = true then 1 else 0) + zcnt (fun i => p (i + 1)) n := by
  intro n
  induction n with
  | zero =>
    rw [zcnt_succ]
    by_cases c : p 0 = true
    · rw [if_pos c, if_pos c]
      rfl
    · rw [if_neg c, if_neg c]
      rfl
  | succ n ih =>
    rw [zcnt_succ, ih, zcnt_succ]
    by_cases c : p (n + 1) = true
    · rw [if_pos c, if_pos c]
      omega
    · rw [if_neg c, if_neg c]
theorem land_even (a b : Nat) : (2 * a) &&& (2 * b + 1) = 2 * (a &&& b) := by
  refine Nat.eq_of_testBit_eq (fun i => ?_)
  rw [Nat.testBit_and]
  cases i with
  | zero => simp [Nat.testBit_zero]
  | succ i =>
    rw [Nat.testBit_succ, Nat.testBit_succ, Nat.testBit_succ, show 2 * a / 2 = a by omega, show (2 * b + 1) / 2 = b by omega, show 2 * (a &&& b) / 2 = a &&& b by omega, Nat.testBit_and]
theorem land_odd (a : Nat) : (2 * a + 1) &&& (2 * a) = 2 * a := by
  refine Nat.eq_of_testBit_eq (fun i => ?_)
  rw [Nat.testBit_and]
  cases i with
  | zero => simp [Nat.testBit_zero]
  | succ i => rw [Nat.testBit_succ, Nat.testBit_succ, show (2 * a + 1) / 2 = a by omega, show 2 * a / 2 = a by omega, Bool.and_self]
/-- one bit fewer -/
theorem pop_dec : ∀ (n v : Nat), v < 2 ^ n → ¬ v = 0 → zcnt (fun i => (v &&& (v - 1)).testBit i) n + 1 = zcnt (fun i => v.testBit i) n := by
  intro n
  induction n with
  | zero => intro v h1 h2; omega
  | succ n ih =>
    intro v h1 h2
    have p2 : 2 ^ (n + 1) = 2 * 2 ^ n := by rw [Nat.pow_succ, Nat.mul_comm]
    rw [p2] at h1
    rw [zcnt_first, zcnt_first]
    have sh : ∀ w : Nat, (fun i => w.testBit (i + 1)) = fun i => (w / 2).testBit i := fun w => funext (fun i => Nat.testBit_succ _ _)
    rw [sh, sh]
    rcases (by omega : v = 2 * (v / 2) ∨ v = 2 * (v / 2) + 1) with c | c
    · have i1 := ih (v / 2) (by omega) (by omega)
      have e : v &&& (v - 1) = 2 * ((v / 2) &&& (v / 2 - 1)) := by
        have := land_even (v / 2) (v / 2 - 1)
        rw [← this]
        congr 1
        omega
      have b0 : v.testBit 0 = false := by
        rw [Nat.testBit_zero]
        exact decide_eq_false (by omega)
      have b1 : (v &&& (v - 1)).testBit 0 = false := by
        rw [e, Nat.testBit_zero]
        exact decide_eq_false (by omega)
      rw [b0, b1, e, show 2 * ((v / 2) &&& (v / 2 - 1)) / 2 = (v / 2) &&& (v / 2 - 1) by omega]
      simp only [Bool.false_eq_true, if_false]
      omega
    · have e : v &&& (v - 1) = 2 * (v / 2) := by
        have := land_odd (v / 2)
        rw [← c, show 2 * (v / 2) = v - 1 by omega] at this
        rw [this]
        omega
      have b0 : v.testBit 0 = true := by
        rw [Nat.testBit_zero]
        exact decide_eq_true (by omega)
      have b1 : (v &&& (v - 1)).testBit 0 = false := by
        rw [e, Nat.testBit_zero]
        exact decide_eq_false (by omega)
      rw [b0, b1, e, show 2 * (v / 2) / 2 = v / 2 by omega]
      simp only [Bool.false_eq_true, if_false, if_true]
      omega
/-- how many bits of v are set -/
def zpc (v : Int32) : Nat := zcnt (fun i => v.toBitVec.getLsbD i) 32
theorem zpc_0 : zpc 0 = 0 := by decide
theorem zpc_dec {v : Int32} (h : ¬ v = 0) : zpc (v &&& (v - 1)) + 1 = zpc v := by
  have n0 : ¬ v.toBitVec.toNat = 0 := fun q => h (Int32.toBitVec_inj.mp (BitVec.eq_of_toNat_eq (by rw [q]; rfl)))
  have hlt : v.toBitVec.toNat < 2 ^ 32 := v.toBitVec.isLt
  have e : ((v &&& (v - 1)).toBitVec).toNat = v.toBitVec.toNat &&& (v.toBitVec.toNat - 1) := by
    rw [Int32.toBitVec_and, BitVec.toNat_and, Int32.toBitVec_sub]
    congr 1
    rw [BitVec.toNat_sub, show (Int32.toBitVec 1).toNat = 1 from rfl]
    omega
  have := pop_dec 32 v.toBitVec.toNat hlt n0
  unfold zpc
  have t : ∀ w : Int32, (fun i => w.toBitVec.getLsbD i) = fun i => w.toBitVec.toNat.testBit i := fun w => funext (fun i => rfl)
  rw [t, t, e]
  exact this
theorem m_ones {G : Gp} {Q : zPost} {S : zSh} {I : zFI} {L : zFL} {v : Int32} (hS : zStd S) (q : Q (some (.int (nI (zpc v)))) S I L) : ZC G mX12_ones fX12_ones lX12_ones [zo G 84, .int v] S I L 0 0 Q := by
  have key : ∀ (k a : Nat) (u : Int32), zpc u = k → a + k = zpc v → ZW G mX12_ones fX12_ones lX12_ones 4 [zo G 84, .int v, .int (nI a), .int u] [] S I L 0 0 Q := by
    intro k
    induction k with
    | zero =>
      intro a u hu ha
      refine vX12_ones_4 hS ⟨fun _ => ?_, fun no => ?_⟩
      · rw [show a = zpc v by omega]
        exact q
      · have := zpc_dec no
        omega
    | succ k ih =>
      intro a u hu ha
      refine vX12_ones_4 hS ⟨fun e => ?_, fun no => ?_⟩
      · rw [e, zpc_0] at hu
        omega
      · have := zpc_dec no
        rw [nI_1]
        exact ih (a + 1) _ (by omega) (by omega)
  exact ZC.of' (vX12_ones_0 hS (key (zpc v) 0 v rfl (by omega))) rfl (Nat.le_of_ble_eq_true rfl) rfl
