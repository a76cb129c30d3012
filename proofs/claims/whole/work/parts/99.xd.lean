/-! the years in which most spans agree: f y of them in the year y -/
def zym (f : Nat → Nat) : Nat → Nat
  | 0 => 0
  | m + 1 => if f m ≤ zym f m then zym f m else f m
def zyf (f : Nat → Nat) : Nat → Int32
  | 0 => -1
  | m + 1 => if f m ≤ zym f m then zyf f m else nI m
def zyl (f : Nat → Nat) : Nat → Int32
  | 0 => -1
  | m + 1 => if f m ≤ zym f m then (if f m = zym f m then (if zym f m = 0 then zyl f m else (if zyl f m = nI m - 1 then nI m else zyl f m)) else zyl f m) else nI m
theorem zy_inv (f : Nat → Nat) : ∀ m, m < 2000 → (∀ y, y < m → f y ≤ zym f m) ∧ (zym f m = 0 → zyf f m = -1 ∧ zyl f m = -1) ∧ (0 < zym f m → ∃ F E, F ≤ E ∧ E < m ∧ zyf f m = nI F ∧ zyl f m = nI E ∧ f F = zym f m ∧ (∀ y, y < F → f y < zym f m) ∧ (∀ y, F ≤ y → y ≤ E → f y = zym f m) ∧ (E + 1 < m → ¬ f (E + 1) = zym f m)) := by
  intro m
  induction m with
  | zero => intro _; exact ⟨fun y hy => absurd hy (Nat.not_lt_zero _), fun _ => ⟨rfl, rfl⟩, fun h => absurd h (Nat.lt_irrefl 0)⟩
  | succ m ih =>
    intro hm
    obtain ⟨i1, i2, i3⟩ := ih (by omega)
    by_cases c : f m ≤ zym f m
    · have em : zym f (m + 1) = zym f m := if_pos c
      have ef : zyf f (m + 1) = zyf f m := if_pos c
      have el : zyl f (m + 1) = if f m = zym f m then (if zym f m = 0 then zyl f m else (if zyl f m = nI m - 1 then nI m else zyl f m)) else zyl f m := if_pos c
      rw [em, ef, el]
      refine ⟨fun y hy => ?_, fun z => ?_, fun pos => ?_⟩
      · rcases (by omega : y < m ∨ y = m) with e | e
        · exact i1 y e
        · rw [e]; exact c
      · have := i2 z
        refine ⟨this.1, ?_⟩
        by_cases d : f m = zym f m
        · rw [if_pos d, if_pos z]
          exact this.2
        · rw [if_neg d]
          exact this.2
      · obtain ⟨F, E, a1, a2, a3, a4, a5, a6, a7, a8⟩ := i3 pos
        have pre : nI m - 1 = nI (m - 1) := by
          have := nI_pre (m - 1)
          rw [show m - 1 + 1 = m by omega] at this
          exact this
        by_cases d : f m = zym f m
        · rw [if_pos d, if_neg (by omega), pre]
          by_cases e : zyl f m = nI (m - 1)
          · rw [if_pos e]
            have : E = m - 1 := nI_same (by omega) (by omega) (a4.symm.trans e)
            refine ⟨F, m, by omega, by omega, a3, rfl, a5, a6, fun y y1 y2 => ?_, fun y => absurd y (by omega)⟩
            rcases (by omega : y ≤ E ∨ y = m) with q | q
            · exact a7 y y1 q
            · rw [q]; exact d
          · rw [if_neg e]
            have : ¬ E = m - 1 := fun y => e (by rw [a4, y])
            exact ⟨F, E, a1, by omega, a3, a4, a5, a6, a7, fun _ => a8 (by omega)⟩
        · rw [if_neg d]
          refine ⟨F, E, a1, by omega, a3, a4, a5, a6, a7, fun y => ?_⟩
          rcases (by omega : E + 1 < m ∨ E + 1 = m) with q | q
          · exact a8 q
          · rw [q]; exact d
    · have em : zym f (m + 1) = f m := if_neg c
      have ef : zyf f (m + 1) = nI m := if_neg c
      have el : zyl f (m + 1) = nI m := if_neg c
      rw [em, ef, el]
      refine ⟨fun y hy => ?_, fun z => by omega, fun pos => ⟨m, m, Nat.le_refl _, by omega, rfl, rfl, rfl, fun y hy => ?_, fun y y1 y2 => by rw [show y = m by omega], fun y => absurd y (by omega)⟩⟩
      · rcases (by omega : y < m ∨ y = m) with e | e
        · have := i1 y e
          omega
        · rw [e]; exact Nat.le_refl _
      · have := i1 y hy
        omega
/-- of the first k spans those in the year y -/
theorem zcnt_list {q : Nat → Bool} {P R : Nat → Bool} (h : ∀ t, t < 16 → q t = true → R (zcnt q t) = P t) : ∀ T, T ≤ 16 → zcnt R (zcnt q T) = zcnt (fun t => q t && P t) T := by
  intro T
  induction T with
  | zero => intro _; rfl
  | succ T ih =>
    intro hT
    have i1 := ih (by omega)
    rw [zcnt_succ (fun t => q t && P t), zcnt_succ q]
    by_cases c : q T = true
    · rw [if_pos c, zcnt_succ, h T (by omega) c, i1, c, Bool.true_and]
    · rw [if_neg c, i1, if_neg (fun y => c (by
        have y : (q T && P T) = true := y
        rw [Bool.and_eq_true] at y
        exact y.1))]
theorem c_spansIn {G : Gp} {Q : zPost} {S : zSh} {I : zFI} {L : zFL} {k y : Nat} (hS : zStd S) (hk : I 74 0 = nI k) (k16 : k ≤ 16) (q : Q (some (.int (nI (zcnt (fun i => decide (I 75 i ≤ nI y) && decide (nI y ≤ I 76 i)) k)))) S I L) : ZC G mX0_spansIn fX0_spansIn lX0_spansIn [zo G 74, .int (nI y)] S I L 0 0 Q := by
  have main : ∀ (d i : Nat), i + d = k → ZW G mX0_spansIn fX0_spansIn lX0_spansIn 4 [zo G 74, .int (nI y), .int (nI (zcnt (fun i => decide (I 75 i ≤ nI y) && decide (nI y ≤ I 76 i)) i)), .int (nI i)] [] S I L 0 0 Q := by
    intro d
    induction d with
    | zero =>
      intro i hi
      rw [show i = k by omega]
      refine vX0_spansIn_4 hS ⟨fun _ => q, fun no => ?_⟩
      rw [hk] at no
      exact absurd (Int32.le_refl _) no
    | succ d ih =>
      intro i hi
      have i1 := ih (i + 1) (by omega)
      rw [zcnt_succ] at i1
      refine vX0_spansIn_4 hS ⟨fun no => ?_, fun _ => ⟨fun no => absurd no (nI_ge (b := 16) (by omega) (by omega)), fun _ => ⟨znIin (by omega) (by omega), ?_⟩⟩⟩
      · rw [hk] at no
        exact absurd no (nI_ge (by omega) (by omega))
      · rw [znIc (by omega), nI_1, nI_1]
        refine ⟨fun a => ?_, fun a => ⟨fun b => ?_, fun b => ?_⟩⟩
        · rw [decide_eq_false (Int32.not_le.mpr a), Bool.false_and] at i1
          exact i1
        · rw [decide_eq_false (Int32.not_le.mpr b), Bool.and_false] at i1
          exact i1
        · rw [decide_eq_true (Int32.not_lt.mp a), decide_eq_true (Int32.not_lt.mp b)] at i1
          exact i1
  exact ZC.of' (vX0_spansIn_0 hS (main k 0 (by omega))) rfl (Nat.le_of_ble_eq_true rfl) rfl
theorem c_settle {G : Gp} {Q : zPost} {S : zSh} {I : zFI} {L : zFL} {k : Nat} {f : Nat → Nat} (hS : zStd S) (hk : I 74 0 = nI k) (k16 : k ≤ 16) (hf : ∀ y, y < 1000 → zcnt (fun i => decide (I 75 i ≤ nI y) && decide (nI y ≤ I 76 i)) k = f y)
    (q : ∀ I', (∀ b, b ≠ 74 → I' b = I b) → I' 74 0 = nI k → I' 74 3 = zyf f 1000 → I' 74 4 = zyl f 1000 → I' 74 5 = nI (zym f 1000) → zym f 1000 ≤ 16 → Q none S I' L) : ZC G mX0_settle fX0_settle lX0_settle [zo G 74] S I L 0 0 Q := by
  have main : ∀ (d m : Nat) (J : zFI), m + d = 1000 → (∀ b, b ≠ 74 → J b = I b) → J 74 0 = nI k → J 74 3 = zyf f m → J 74 4 = zyl f m → J 74 5 = nI (zym f m) → zym f m ≤ 16 → ZW G mX0_settle fX0_settle lX0_settle 17 [zo G 74, .int (nI m), .null] [] S J L 0 0 Q := by
    intro d
    induction d with
    | zero =>
      intro m J hm j1 j2 j3 j4 j5 j6
      have : m = 1000 := by omega
      rw [this] at j3 j4 j5 j6
      rw [this]
      exact vX0_settle_17 hS ⟨fun _ => q J j1 j2 j3 j4 j5 j6, fun no => absurd (by decide) no⟩
    | succ d ih =>
      intro m J hm j1 j2 j3 j4 j5 j6
      refine vX0_settle_17 hS ⟨fun no => ?_, fun _ => c_spansIn hS j2 k16 ⟨_, rfl, rfl, ?_⟩⟩
      · rw [zlt, znI (by omega), show (999 : Int32).toInt = 999 from rfl] at no
        omega
      · have hc := hf m (by omega)
        have f16 : f m ≤ 16 := by
          rw [← hc]
          exact Nat.le_trans (zcnt_le _ _) k16
        have le : nI (f m) ≤ nI (zym f m) ↔ f m ≤ zym f m := by
          rw [zle, znI (by omega), znI (by omega)]
          omega
        have eq : nI (f m) = nI (zym f m) ↔ f m = zym f m := ⟨fun y => nI_same (by omega) (by omega) y, fun y => by rw [y]⟩
        have ze : nI (zym f m) ≤ 0 ↔ zym f m = 0 := by
          rw [zle, znI (by omega), show (0 : Int32).toInt = 0 from rfl]
          omega
        rw [j1 75 (by omega), j1 76 (by omega), hc, j5, j4, nI_1, le, eq, ze]
        have s3 : zyf f (m + 1) = if f m ≤ zym f m then zyf f m else nI m := rfl
        have s4 : zyl f (m + 1) = if f m ≤ zym f m then (if f m = zym f m then (if zym f m = 0 then zyl f m else (if zyl f m = nI m - 1 then nI m else zyl f m)) else zyl f m) else nI m := rfl
        have s5 : zym f (m + 1) = if f m ≤ zym f m then zym f m else f m := rfl
        have i1 := ih (m + 1)
        rw [s3, s4, s5] at i1
        refine ⟨fun a => ⟨fun b => ?_, fun b => ⟨fun c => ?_, fun c => ⟨fun e => ?_, fun e => ?_⟩⟩⟩, fun a => ?_⟩
        · rw [if_pos a, if_pos a, if_pos a, if_neg b] at i1
          exact i1 J (by omega) j1 j2 j3 j4 j5 j6
        · rw [if_pos a, if_pos a, if_pos a, if_pos b, if_pos c] at i1
          exact i1 J (by omega) j1 j2 j3 j4 j5 j6
        · rw [if_pos a, if_pos a, if_pos a, if_pos b, if_neg c, if_neg e] at i1
          exact i1 J (by omega) j1 j2 j3 j4 j5 j6
        · rw [if_pos a, if_pos a, if_pos a, if_pos b, if_neg c, if_pos e] at i1
          refine i1 _ (by omega) (fun b hb => ?_) ?_ ?_ ?_ ?_ j6
          · rw [← u2_row _ _ _ _ hb]
            exact j1 b hb
          · rw [u2_ne _ _ _ _ (by omega)]
            exact j2
          · rw [u2_ne _ _ _ _ (by omega)]
            exact j3
          · rw [u2_same]
          · rw [u2_ne _ _ _ _ (by omega)]
            exact j5
        · rw [if_neg a, if_neg a, if_neg a] at i1
          refine i1 _ (by omega) (fun b hb => ?_) ?_ ?_ ?_ ?_ f16
          · rw [← u2_row _ _ _ _ hb, ← u2_row _ _ _ _ hb, ← u2_row _ _ _ _ hb]
            exact j1 b hb
          · rw [u2_ne _ _ _ _ (by omega), u2_ne _ _ _ _ (by omega), u2_ne _ _ _ _ (by omega)]
            exact j2
          · rw [u2_ne _ _ _ _ (by omega), u2_same]
          · rw [u2_same]
          · rw [u2_ne _ _ _ _ (by omega), u2_ne _ _ _ _ (by omega), u2_same]
  refine ZC.of' (vX0_settle_0 hS (main 1000 0 _ (by omega) (fun b hb => ?_) ?_ ?_ ?_ ?_ (Nat.zero_le _))) rfl (Nat.le_of_ble_eq_true rfl) rfl
  · rw [← u2_row _ _ _ _ hb, ← u2_row _ _ _ _ hb, ← u2_row _ _ _ _ hb]
  · rw [u2_ne _ _ _ _ (by omega), u2_ne _ _ _ _ (by omega), u2_ne _ _ _ _ (by omega)]
    exact hk
  · rw [u2_ne _ _ _ _ (by omega), u2_same]
    rfl
  · rw [u2_same]
    rfl
  · rw [u2_ne _ _ _ _ (by omega), u2_ne _ _ _ _ (by omega), u2_same]
    rfl
