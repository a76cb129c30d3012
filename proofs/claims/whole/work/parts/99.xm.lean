/-! what a text says: rows of a custom out of tokens (their kinds K, values V) -/
def up1 (R : Nat → Int32) (k : Nat) (v : Int32) : Nat → Int32 := fun j => if j = k then v else R j
def znf (K V : Nat → Int32) (lo hi : Int32) (m : Nat) : Nat := if K m = 2 then (if lo ≤ V m ∧ V m ≤ hi then 0 else 2) else 1
def zwf1 (K V : Nat → Int32) (lo hi : Int32) (m : Nat) : Nat := if K m = 1 ∧ lo ≤ V m ∧ V m ≤ hi then 0 else 1
abbrev zRe : Type := Nat × Nat × (Nat → Int32)
def znr (K V : Nat → Int32) (R : Nat → Int32) (k : Nat) (lo hi : Int32) (m : Nat) : zRe := if znf K V lo hi m = 0 then (0, m + 1, up1 R k (V m)) else (znf K V lo hi m, m, R)
def zsap (K V : Nat → Int32) (R : Nat → Int32) (n : Nat) : zRe :=
  if znf K V 0 99 (n + 1) = 0 then (if zwf1 K V 17 17 (n + 2) = 0 then znr K V (up1 R 6 (V (n + 1))) 7 (V (n + 1)) 99 (n + 3) else (1, n + 2, R)) else (znf K V 0 99 (n + 1), n + 1, R)
def zkin (K V : Nat → Int32) (R : Nat → Int32) (n : Nat) : zRe :=
  if zwf1 K V 15 16 (n + 1) = 0 then (if zwf1 K V 0 3 (n + 2) = 0 then (0, n + 3, up1 R (if V (n + 1) = 15 then 9 else 10) (R (if V (n + 1) = 15 then 9 else 10) ||| ((1 : Int32) <<< ((4 * V n + V (n + 2)) &&& 31)))) else (1, n + 2, R)) else (1, n + 1, R)
/-- a line that begins at n, up to its end -/
def zbd (K V : Nat → Int32) (R : Nat → Int32) (n : Nat) : zRe :=
  if V n = 4 then (if zwf1 K V 12 14 (n + 1) = 0 then (0, n + 2, up1 R 0 (V (n + 1) - 11)) else (1, n + 1, R))
  else if V n = 5 then (0, n + 1, up1 R 1 1)
  else if V n = 6 then znr K V R 2 0 3 (n + 1)
  else if V n = 7 then znr K V R 3 0 5 (n + 1)
  else if V n = 8 then znr K V R 4 0 99 (n + 1)
  else if V n = 9 then znr K V R 5 0 9 (n + 1)
  else if V n = 11 then znr K V R 8 0 99 (n + 1)
  else if V n = 10 then zsap K V R n
  else zkin K V R n
def zln (K V : Nat → Int32) (R : Nat → Int32) (n : Nat) : zRe :=
  if (zbd K V R n).1 = 0 then (if K (zbd K V R n).2.1 = 3 then (0, (zbd K V R n).2.1 + 1, (zbd K V R n).2.2) else (1, (zbd K V R n).2.1, (zbd K V R n).2.2)) else zbd K V R n
def zal_ (K V : Nat → Int32) : Nat → Nat → Nat → (Nat → Int32) → zRe × Nat
  | 0, l, n, R => ((if K n = 0 then 0 else if K n = 1 ∧ V n ≤ 11 then 3 else 1, n, R), l)
  | fu + 1, l, n, R => if K n = 0 then ((0, n, R), l) else if K n = 1 ∧ V n ≤ 11 then (if (zln K V R n).1 = 0 then zal_ K V fu (l + 1) (zln K V R n).2.1 (zln K V R n).2.2 else (zln K V R n, l)) else ((1, n, R), l)
theorem znr_n (K V : Nat → Int32) (R : Nat → Int32) (k : Nat) (lo hi : Int32) (m : Nat) : (znr K V R k lo hi m).2.1 ≤ m + 1 := by
  unfold znr
  split
  · exact Nat.le_refl _
  · exact Nat.le_succ _
theorem zbd_n (K V : Nat → Int32) (R : Nat → Int32) (n : Nat) : (zbd K V R n).2.1 ≤ n + 4 := by
  have e := fun R k lo hi m => znr_n K V R k lo hi m
  unfold zbd
  split
  · split
    · exact (show n + 2 ≤ n + 4 by omega)
    · exact (show n + 1 ≤ n + 4 by omega)
  · split
    · exact (show n + 1 ≤ n + 4 by omega)
    · split
      · exact Nat.le_trans (e _ _ _ _ _) (by omega)
      · split
        · exact Nat.le_trans (e _ _ _ _ _) (by omega)
        · split
          · exact Nat.le_trans (e _ _ _ _ _) (by omega)
          · split
            · exact Nat.le_trans (e _ _ _ _ _) (by omega)
            · split
              · exact Nat.le_trans (e _ _ _ _ _) (by omega)
              · split
                · unfold zsap
                  split
                  · split
                    · exact Nat.le_trans (e _ _ _ _ _) (by omega)
                    · exact (show n + 2 ≤ n + 4 by omega)
                  · exact (show n + 1 ≤ n + 4 by omega)
                · unfold zkin
                  split
                  · split
                    · exact (show n + 3 ≤ n + 4 by omega)
                    · exact (show n + 2 ≤ n + 4 by omega)
                  · exact (show n + 1 ≤ n + 4 by omega)
theorem zln_n (K V : Nat → Int32) (R : Nat → Int32) (n : Nat) : (zln K V R n).2.1 ≤ n + 5 := by
  have e := zbd_n K V R n
  unfold zln
  split
  · split
    · exact (show (zbd K V R n).2.1 + 1 ≤ n + 5 by omega)
    · exact (show (zbd K V R n).2.1 ≤ n + 5 by omega)
  · omega
theorem tk_word (T : Nat → Int32) (n : Nat) (h : zTK T n = 1) : ∃ k, k < 18 ∧ zTV T n = nI k := by
  unfold zTK at h
  by_cases e : T (zps_ T n) = -1
  · rw [kd_end e] at h
    exact absurd h (by decide)
  · by_cases l : zLe T (zps_ T n)
    · rw [kd_let l] at h
      unfold zTV
      rw [vu_let l]
      rcases zWd_or T (zps_ T n) (zE (zLe T) (zps_ T n)) with c | ⟨k, k1, k2, k3⟩
      · rw [if_pos c] at h
        exact absurd h (by decide)
      · exact ⟨k, k1, k3⟩
    · by_cases d : zDi T (zps_ T n)
      · rw [kd_dig d] at h
        split at h
        · exact absurd h (by decide)
        · exact absurd h (by decide)
      · rw [kd_oth e l d] at h
        split at h
        · exact absurd h (by decide)
        · exact absurd h (by decide)
/-! the class's reading -/
/-- the class stands at token m of N, none before it ends the text -/
def zPq (I : zFI) (T : Nat → Int32) (N m : Nat) : Prop := I 3 3 = nI (if N + 1 ≤ 201 then N + 1 else 201) ∧ (∀ i, i < N + 1 → i < 201 → I 4 i = zTK T i ∧ (zTK T i = 1 → I 5 i = nI (zPs (zTV T i).toNatClampNeg)) ∧ (zTK T i = 2 → I 5 i = zTV T i) ∧ I 6 i = nI (zps_ T i)) ∧ I 3 4 = nI m ∧ m ≤ N ∧ m ≤ 200 ∧ zTK T N = 0 ∧ ∀ i, i < N → ¬ zTK T i = 0
theorem zPq.fr {I J : zFI} {T : Nat → Int32} {N m m' : Nat} (h : zPq I T N m) (e3 : J 3 3 = I 3 3) (e4 : J 4 = I 4) (e5 : J 5 = I 5) (e6 : J 6 = I 6) (em : J 3 4 = nI m') (h1 : m' ≤ N) (h2 : m' ≤ 200) : zPq J T N m' := by
  obtain ⟨a1, a2, a3, a4, a5, a6, a7⟩ := h
  exact ⟨e3.trans a1, fun i i1 i2 => by rw [e4, e5, e6]; exact a2 i i1 i2, em, h1, h2, a6, a7⟩
theorem zPq.tok {I : zFI} {T : Nat → Int32} {N m : Nat} (h : zPq I T N m) : p_X2_token I = zTK T m ∧ (zTK T m = 1 → p_X2_value I = nI (zPs (zTV T m).toNatClampNeg)) ∧ (zTK T m = 2 → p_X2_value I = zTV T m) ∧ (∀ J : zFI, J 6 = I 6 → p_X11_pick J 6 201 (I 3 4) = nI (zps_ T m)) ∧ (¬ zTK T m = 0 → m < N) := by
  obtain ⟨a1, a2, a3, a4, a5, a6, a7⟩ := h
  obtain ⟨b1, b2, b3, b4⟩ := a2 m (by omega) (by omega)
  have pk : ∀ (J : zFI) (r : Nat), p_X11_pick J r 201 (I 3 4) = J r m := fun J r => by
    rw [a3]
    exact pick_in (by omega) (by omega)
  refine ⟨?_, fun y => ?_, fun y => ?_, fun J e => ?_, fun y => Classical.byContradiction (fun z => y (by rw [show m = N by omega]; exact a6))⟩
  · unfold p_X2_token
    rw [if_neg (by rw [a1, a3]; exact nI_ge (by split <;> omega) (by split <;> omega)), pk]
    exact b1
  · unfold p_X2_value
    rw [pk]
    exact b2 y
  · unfold p_X2_value
    rw [pk]
    exact b3 y
  · rw [pk, e]
    exact b4
theorem c_fail1 {G : Gp} {Q : zPost} {S : zSh} {I : zFI} {L : zFL} {T : Nat → Int32} {N m : Nat} {f : Int32} (hS : zStd S) (z : zPq I T N m) (h5 : I 3 5 = 0) (q : Q none S (u2 (u2 I 3 5 f) 3 6 (nI (zps_ T m))) L) : ZC G mX2_fail fX2_fail lX2_fail [zo G 3, .int f] S I L 0 0 Q := by
  refine ZC.of' (vX2_fail_0 hS ⟨fun y => absurd h5 y, fun _ => ?_⟩) rfl (Nat.le_of_ble_eq_true rfl) rfl
  rw [z.tok.2.2.2.1 (u2 I 3 5 f) (by rw [← u2_row _ _ _ _ (by omega)])]
  exact q
theorem c_fail0 {G : Gp} {Q : zPost} {S : zSh} {I : zFI} {L : zFL} {f : Int32} (hS : zStd S) (h5 : ¬ I 3 5 = 0) (q : Q none S I L) : ZC G mX2_fail fX2_fail lX2_fail [zo G 3, .int f] S I L 0 0 Q :=
  ZC.of' (vX2_fail_0 hS ⟨fun _ => q, fun y => absurd y h5⟩) rfl (Nat.le_of_ble_eq_true rfl) rfl
theorem c_readWord {G : Gp} {Q : zPost} {S : zSh} {I : zFI} {L : zFL} {T : Nat → Int32} {N m : Nat} {lo hi : Int32} (hS : zStd S) (z : zPq I T N m) (h5 : I 3 5 = 0)
    (ok : zTK T m = 1 → lo ≤ nI (zPs (zTV T m).toNatClampNeg) → nI (zPs (zTV T m).toNatClampNeg) ≤ hi → Q (some (.int (nI (zPs (zTV T m).toNatClampNeg)))) S (u2 I 3 4 (nI (m + 1))) L)
    (bad : ¬ (zTK T m = 1 ∧ lo ≤ nI (zPs (zTV T m).toNatClampNeg) ∧ nI (zPs (zTV T m).toNatClampNeg) ≤ hi) → Q (some (.int lo)) S (u2 (u2 I 3 5 1) 3 6 (nI (zps_ T m))) L) : ZC G mX2_readWord fX2_readWord lX2_readWord [zo G 3, .int lo, .int hi] S I L 0 0 Q := by
  obtain ⟨t1, t2, -⟩ := z.tok
  have e4 : I 3 4 + 1 = nI (m + 1) := by rw [z.2.2.1, nI_1]
  refine ZC.of' (vX2_readWord_0 hS ?_) rfl (Nat.le_of_ble_eq_true rfl) rfl
  rw [t1, e4]
  refine ⟨fun n1 => c_fail1 hS z h5 ⟨rfl, rfl, bad (fun y => n1 y.1)⟩, fun y1 => ?_⟩
  rw [t2 y1]
  exact ⟨fun c => c_fail1 hS z h5 ⟨rfl, rfl, bad (fun y => Int32.not_le.mpr c y.2.1)⟩, fun c => ⟨fun d => ok y1 (Int32.not_lt.mp c) d, fun d => c_fail1 hS z h5 ⟨rfl, rfl, bad (fun y => d y.2.2)⟩⟩⟩
theorem c_readNumber {G : Gp} {Q : zPost} {S : zSh} {I : zFI} {L : zFL} {T : Nat → Int32} {N m : Nat} {lo hi : Int32} (hS : zStd S) (z : zPq I T N m) (h5 : I 3 5 = 0)
    (ok : znf (zTK T) (zTV T) lo hi m = 0 → zTK T m = 2 → Q (some (.int (zTV T m))) S (u2 I 3 4 (nI (m + 1))) L)
    (bad : ¬ znf (zTK T) (zTV T) lo hi m = 0 → Q (some (.int lo)) S (u2 (u2 I 3 5 (nI (znf (zTK T) (zTV T) lo hi m))) 3 6 (nI (zps_ T m))) L) : ZC G mX2_readNumber fX2_readNumber lX2_readNumber [zo G 3, .int lo, .int hi] S I L 0 0 Q := by
  obtain ⟨t1, -, t2, -⟩ := z.tok
  have e4 : I 3 4 + 1 = nI (m + 1) := by rw [z.2.2.1, nI_1]
  refine ZC.of' (vX2_readNumber_0 hS ?_) rfl (Nat.le_of_ble_eq_true rfl) rfl
  rw [t1, e4]
  unfold znf at ok bad
  refine ⟨fun y2 => ?_, fun n2 => c_fail1 hS z h5 ⟨rfl, rfl, ?_⟩⟩
  · rw [t2 y2]
    rw [if_pos y2] at ok bad
    have two : ¬ (lo ≤ zTV T m ∧ zTV T m ≤ hi) → Q (some (.int lo)) S (u2 (u2 I 3 5 2) 3 6 (nI (zps_ T m))) L := fun y => by
      rw [if_neg y] at bad
      exact bad (by decide)
    exact ⟨fun c => c_fail1 hS z h5 ⟨rfl, rfl, two (fun y => Int32.not_le.mpr c y.1)⟩, fun c => ⟨fun d => ok (if_pos ⟨Int32.not_lt.mp c, d⟩) y2, fun d => c_fail1 hS z h5 ⟨rfl, rfl, two (fun y => d y.2)⟩⟩⟩
  · rw [if_neg n2] at bad
    exact bad (by decide)
/-- behind a fault nothing counts -/
def zFo_ (I J : zFI) : Prop := (∀ b, b ≠ 3 → J b = I b) ∧ ∀ k, k ≠ 4 → J 3 k = I 3 k
theorem c_readWord_f {G : Gp} {Q : zPost} {S : zSh} {I : zFI} {L : zFL} {lo hi : Int32} (hS : zStd S) (h5 : ¬ I 3 5 = 0) (q : ∀ r J, zFo_ I J → Q (some (.int r)) S J L) : ZC G mX2_readWord fX2_readWord lX2_readWord [zo G 3, .int lo, .int hi] S I L 0 0 Q := by
  have same : zFo_ I I := ⟨fun _ _ => rfl, fun _ _ => rfl⟩
  refine ZC.of' (vX2_readWord_0 hS ⟨fun _ => c_fail0 hS h5 ⟨rfl, rfl, q _ _ same⟩, fun _ => ⟨fun _ => c_fail0 hS h5 ⟨rfl, rfl, q _ _ same⟩, fun _ => ⟨fun _ => q _ _ ⟨fun b hb => (u2_row _ _ _ _ hb).symm, fun k hk => u2_ne _ _ _ _ (fun y => hk y.2)⟩, fun _ => c_fail0 hS h5 ⟨rfl, rfl, q _ _ same⟩⟩⟩⟩) rfl (Nat.le_of_ble_eq_true rfl) rfl
theorem c_readNumber_f {G : Gp} {Q : zPost} {S : zSh} {I : zFI} {L : zFL} {lo hi : Int32} (hS : zStd S) (h5 : ¬ I 3 5 = 0) (q : ∀ r J, zFo_ I J → Q (some (.int r)) S J L) : ZC G mX2_readNumber fX2_readNumber lX2_readNumber [zo G 3, .int lo, .int hi] S I L 0 0 Q := by
  have same : zFo_ I I := ⟨fun _ _ => rfl, fun _ _ => rfl⟩
  refine ZC.of' (vX2_readNumber_0 hS ⟨fun _ => ⟨fun _ => c_fail0 hS h5 ⟨rfl, rfl, q _ _ same⟩, fun _ => ⟨fun _ => q _ _ ⟨fun b hb => (u2_row _ _ _ _ hb).symm, fun k hk => u2_ne _ _ _ _ (fun y => hk y.2)⟩, fun _ => c_fail0 hS h5 ⟨rfl, rfl, q _ _ same⟩⟩⟩, fun _ => c_fail0 hS h5 ⟨rfl, rfl, q _ _ same⟩⟩) rfl (Nat.le_of_ble_eq_true rfl) rfl
/-- the class's state behind a piece of a line, whose result is r -/
def zLq (I J : zFI) (T : Nat → Int32) (N d : Nat) (r : zRe) : Prop := (∀ b, b ≠ 3 → b ≠ d → J b = I b) ∧ (∀ k, k ≠ 4 → k ≠ 5 → k ≠ 6 → J 3 k = I 3 k) ∧ (r.1 = 0 → J 3 5 = 0 ∧ J 3 6 = I 3 6 ∧ zPq J T N r.2.1 ∧ ∀ k, k < 11 → J d k = r.2.2 k) ∧ (¬ r.1 = 0 → r.1 ≤ 3 ∧ J 3 5 = nI r.1 ∧ J 3 6 = nI (zps_ T r.2.1))
