/-! sets of members as numbers -/
theorem zb_nI {s k : Nat} (hs : s < 4294967296) (hk : k < 32) : zb (nI s) k ↔ s.testBit k = true := by
  unfold zb
  have e : (nI s).toBitVec = BitVec.ofNat 32 s := rfl
  rw [e, BitVec.getLsbD_ofNat]
  simp [hk]
theorem two_lt {i m : Nat} (h : i < m) : 2 ^ i < 2 ^ m := Nat.pow_lt_pow_right (by omega) h
theorem p16 {m : Nat} (h : m ≤ 16) : 2 ^ m ≤ 65536 := Nat.le_trans (Nat.pow_le_pow_right (by omega) h) (by decide)
theorem add_lt {s i m : Nat} (hs : s < 2 ^ m) (hi : i < m) : s ||| 2 ^ i < 2 ^ m := Nat.or_lt_two_pow hs (two_lt hi)
theorem del_lt {s i m : Nat} (hs : s < 2 ^ m) (hi : i < m) : s ^^^ 2 ^ i < 2 ^ m := Nat.xor_lt_two_pow hs (two_lt hi)
theorem add_bit (s i k : Nat) : (s ||| 2 ^ i).testBit k = true ↔ s.testBit k = true ∨ k = i := by
  rw [Nat.testBit_or, Bool.or_eq_true, Nat.testBit_two_pow, decide_eq_true_iff]
  exact ⟨fun q => q.elim Or.inl (fun y => Or.inr y.symm), fun q => q.elim Or.inl (fun y => Or.inr y.symm)⟩
theorem del_bit {s i : Nat} (h : s.testBit i = true) (k : Nat) : (s ^^^ 2 ^ i).testBit k = true ↔ s.testBit k = true ∧ ¬ k = i := by
  rw [Nat.testBit_xor, Nat.testBit_two_pow]
  by_cases c : i = k
  · rw [decide_eq_true c, ← c, h]
    simp
  · rw [decide_eq_false c, Bool.xor_false]
    exact ⟨fun q => ⟨q, fun y => c y.symm⟩, fun q => q.1⟩
theorem bits_ext {s s' : Nat} (h : ∀ k, s.testBit k = true ↔ s'.testBit k = true) : s = s' := Nat.eq_of_testBit_eq (fun k => Bool.eq_iff_iff.mpr (h k))
theorem del_add {s i : Nat} (h : s.testBit i = true) : (s ^^^ 2 ^ i) ||| 2 ^ i = s := bits_ext (fun k => by
  rw [add_bit, del_bit h]
  refine ⟨fun q => q.elim And.left (fun y => by rw [y]; exact h), fun q => ?_⟩
  by_cases c : k = i
  · exact Or.inr c
  · exact Or.inl ⟨q, c⟩)
theorem add_del {s i : Nat} (h : ¬ s.testBit i = true) : (s ||| 2 ^ i) ^^^ 2 ^ i = s := bits_ext (fun k => by
  rw [del_bit ((add_bit s i i).mpr (Or.inr rfl)), add_bit]
  refine ⟨fun q => q.1.resolve_right q.2, fun q => ⟨Or.inl q, fun y => ?_⟩⟩
  rw [y] at q
  exact h q)
theorem add_gt {s i : Nat} (h : ¬ s.testBit i = true) : s < s ||| 2 ^ i := by
  rcases Nat.lt_or_ge s (s ||| 2 ^ i) with c | c
  · exact c
  · have e : s ||| 2 ^ i = s := Nat.le_antisymm c Nat.left_le_or
    have := (add_bit s i i).mpr (Or.inr rfl)
    rw [e] at this
    exact absurd this h
theorem del_less {s i : Nat} (h : s.testBit i = true) : s ^^^ 2 ^ i < s := by
  have n : ¬ (s ^^^ 2 ^ i).testBit i = true := fun q => ((del_bit h i).mp q).2 rfl
  have := add_gt n
  rw [del_add h] at this
  exact this
theorem zor_nI {s i m : Nat} (hm : m ≤ 16) (hs : s < 2 ^ m) (hi : i < m) : nI s ||| zone i = nI (s ||| 2 ^ i) := by
  have h16 := p16 hm
  have := add_lt hs hi
  refine zb_ext (fun k hk => ?_)
  rw [zb_or, zb_nI (by omega) hk, zb_nI (by omega) hk, zb_one (by omega) hk, add_bit]
theorem zb_and (a b : Int32) (k : Nat) : zb (a &&& b) k ↔ zb a k ∧ zb b k := by
  unfold zb
  rw [Int32.toBitVec_and, BitVec.getLsbD_and]
  simp
theorem zb_not (a : Int32) {k : Nat} (hk : k < 32) : zb (a ^^^ -1) k ↔ ¬ zb a k := by
  unfold zb
  have e : (Int32.toBitVec (-1)).getLsbD k = true := by
    have : ∀ j : Fin 32, (Int32.toBitVec (-1)).getLsbD j.1 = true := by decide
    exact this ⟨k, hk⟩
  rw [Int32.toBitVec_xor, BitVec.getLsbD_xor, e]
  simp
theorem zdel_nI {s i m : Nat} (hm : m ≤ 16) (hs : s < 2 ^ m) (hi : i < m) (h : s.testBit i = true) : nI s &&& (zone i ^^^ -1) = nI (s ^^^ 2 ^ i) := by
  have h16 := p16 hm
  have := del_lt hs hi
  refine zb_ext (fun k hk => ?_)
  rw [zb_and, zb_not _ hk, zb_nI (by omega) hk, zb_nI (by omega) hk, zb_one (by omega) hk, del_bit h]
/-- member i can come to the set s -/
def zcc (bf : Nat → Int32) (i s : Nat) : Prop := ¬ s.testBit i = true ∧ ∀ k, k < 32 → zb (bf i) k → s.testBit k = true
theorem zand_0 {a b : Int32} : a &&& b = 0 ↔ ∀ k, k < 32 → ¬ (zb a k ∧ zb b k) := by
  refine ⟨fun h k hk q => ?_, fun h => zb_ext (fun k hk => ?_)⟩
  · have := (zb_and a b k).mpr q
    rw [h] at this
    exact zb_0 k this
  · rw [zb_and]
    exact ⟨fun q => absurd q (h k hk), fun q => absurd q (zb_0 k)⟩
theorem ztest_0 {v : Int32} {x : Nat} (hx : x < 32) : (v >>> (nI x &&& 31)) &&& 1 = 0 ↔ ¬ zb v x := by
  rw [← zb_test hx]
  have key : ∀ y : Int32, y &&& 1 = 0 ∨ y &&& 1 = 1 := fun y => by
    by_cases c : zb y 0
    · refine Or.inr (zb_ext (fun k hk => ?_))
      rw [zb_and, show (1 : Int32) = zone 0 by decide, zb_one (by omega) hk]
      exact ⟨fun q => q.2, fun q => ⟨by rw [q]; exact c, q⟩⟩
    · refine Or.inl (zand_0.mpr (fun k hk q => ?_))
      rw [show (1 : Int32) = zone 0 by decide, zb_one (by omega) hk] at q
      rw [q.2] at q
      exact c q.1
  rcases key (v >>> (nI x &&& 31)) with h | h
  · rw [h]
    exact ⟨fun _ => by decide, fun _ => rfl⟩
  · rw [h]
    exact ⟨fun q => absurd q (by decide), fun q => absurd rfl q⟩
theorem zcan_iff {I : zFI} {r i s m : Nat} (hm : m ≤ 16) (hi : i < m) (hs : s < 2 ^ m) : (if ((nI s >>> (nI i &&& 31)) &&& (1 : Int32)) = 0 then (if ((I r (nI i).toNatClampNeg) &&& (nI s ^^^ (-1 : Int32))) = 0 then (1 : Int32) else (0 : Int32)) else (0 : Int32)) = 0 ↔ ¬ zcc (I r) i s := by
  have h16 := p16 hm
  have e : (I r i &&& (nI s ^^^ -1)) = 0 ↔ ∀ k, k < 32 → zb (I r i) k → s.testBit k = true := by
    rw [zand_0]
    refine ⟨fun h k hk q => Classical.byContradiction (fun no => h k hk ⟨q, (zb_not _ hk).mpr (fun y => no ((zb_nI (by omega) hk).mp y))⟩), fun h k hk q => (zb_not _ hk).mp q.2 ((zb_nI (by omega) hk).mpr (h k hk q.1))⟩
  rw [znIc (by omega)]
  unfold zcc
  by_cases c : s.testBit i = true
  · rw [if_neg (fun y => (ztest_0 (by omega)).mp y ((zb_nI (by omega) (by omega)).mpr c))]
    exact ⟨fun _ q => q.1 c, fun _ => rfl⟩
  · rw [if_pos ((ztest_0 (by omega)).mpr (fun y => c ((zb_nI (by omega) (by omega)).mp y)))]
    by_cases d : I r i &&& (nI s ^^^ -1) = 0
    · rw [if_pos d]
      exact ⟨fun y => absurd y (by decide), fun y => absurd ⟨c, e.mp d⟩ y⟩
    · rw [if_neg d]
      exact ⟨fun _ q => d (e.mpr q.2), fun _ => rfl⟩
/-- the row of gates: what is ahead, and the member itself, which is not ahead of itself -/
def zGa (I : zFI) (m : Nat) : Prop := ∀ i, i < m → I 139 i = I 63 i ||| zone i ∧ ¬ zb (I 63 i) i
theorem zGa.row {I J : zFI} {m : Nat} (h : zGa I m) (e1 : J 139 = I 139) (e2 : J 63 = I 63) : zGa J m := by
  unfold zGa
  rw [e1, e2]
  exact h
theorem c_can {I : zFI} {i s m : Nat} (hg : zGa I m) (hm : m ≤ 16) (hi : i < m) (hs : s < 2 ^ m) : (nI s &&& I 139 i = I 63 i) ↔ zcc (I 63) i s := by
  have h16 := p16 hm
  obtain ⟨g1, g2⟩ := hg i hi
  have bit : ∀ k, k < 32 → (zb (nI s &&& I 139 i) k ↔ s.testBit k = true ∧ (zb (I 63 i) k ∨ k = i)) := fun k hk => by
    rw [zb_and, zb_nI (by omega) hk, g1, zb_or, zb_one (by omega) hk]
  unfold zcc
  constructor
  · intro e
    rw [e] at bit
    exact ⟨fun q => g2 ((bit i (by omega)).mpr ⟨q, Or.inr rfl⟩), fun k hk q => ((bit k hk).mp q).1⟩
  · intro h
    refine zb_ext (fun k hk => (bit k hk).trans ⟨fun q => ?_, fun q => ⟨h.2 k hk q, Or.inl q⟩⟩)
    rcases q.2 with y | y
    · exact y
    · exact absurd (y ▸ q.1) h.1
theorem m_can {I : zFI} {i s m : Nat} (hm : m ≤ 16) (hi : i < m) (hs : s < 2 ^ m) : p_X12_canCome I (nI i) (nI s) = 0 ↔ ¬ zcc (I 128) i s := zcan_iff hm hi hs
