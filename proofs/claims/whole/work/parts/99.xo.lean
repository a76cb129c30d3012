/-! the model's reading of a custom -/
theorem znx_le {T : Nat → Int32} {tl q : Nat} (hT : zTx T tl) (hq : q ≤ tl) : znx T q ≤ tl := by
  unfold znx
  split
  · exact hq
  · next c =>
    have lt : q < tl := Classical.byContradiction (fun y => c (hT.2.2 q (by omega)))
    split
    · exact (zE_bound hT (fun k h => le_no h) hq).2.1
    · split
      · exact (zE_bound hT (fun k h => di_no h) hq).2.1
      · exact lt
theorem zps_le {T : Nat → Int32} {tl : Nat} (hT : zTx T tl) : ∀ m, zps_ T m ≤ tl
  | 0 => (zE_bound hT (fun k h => bl_no h) (Nat.zero_le _)).2.1
  | m + 1 => (zE_bound hT (fun k h => bl_no h) (znx_le hT (zps_le hT m))).2.1
/-- the model has read token m -/
def zMt_ (I : zFI) (T : Nat → Int32) (tl m : Nat) : Prop := zTm_ I T tl ∧ iWrd I ∧ I 84 29 = nI (znx T (zps_ T m)) ∧ I 84 30 = nI (zps_ T m) ∧ I 84 31 = zMk (zTK T m) ∧ (zTK T m = 1 ∨ zTK T m = 2 → I 84 32 = zTV T m)
theorem zMt_.fr {I J : zFI} {T : Nat → Int32} {tl m : Nat} (h : zMt_ I T tl m) (e1 : ∀ b, b ≠ 84 → b ≠ 105 → J b = I b) (e2 : ∀ k, (26 ≤ k ∧ k ≤ 32) → J 84 k = I 84 k) : zMt_ J T tl m := by
  obtain ⟨⟨a1, a2, a3⟩, b, c, d, e, f⟩ := h
  refine ⟨⟨(e2 26 (by omega)).trans a1, a2, fun k hk => by rw [e1 104 (by decide) (by decide)]; exact a3 k hk⟩, fun k hk => by rw [e1 106 (by decide) (by decide)]; exact b k hk, (e2 29 (by omega)).trans c, (e2 30 (by omega)).trans d, (e2 31 (by omega)).trans e, fun y => (e2 32 (by omega)).trans (f y)⟩
theorem m_nx0 {G : Gp} {Q : zPost} {S : zSh} {I : zFI} {L : zFL} {T : Nat → Int32} {tl p m : Nat} (hS : zStd S) (h : zTm_ I T tl) (hw : iWrd I) (hp : p ≤ tl) (h29 : I 84 29 = nI p) (em : zE (zBl T) p = zps_ T m) (q : ∀ J, (∀ b, b ≠ 84 → J b = I b) → (∀ k, k ≠ 29 → k ≠ 30 → k ≠ 31 → k ≠ 32 → J 84 k = I 84 k) → zMt_ J T tl m → Q none S J L) : ZC G mX12_next fX12_next lX12_next [zo G 84] S I L 0 0 Q := by
  refine m_next hS h hw hp h29 (fun J hJ => ?_)
  rw [em] at hJ
  obtain ⟨e1, e2, j29, j30, j31, j32⟩ := hJ
  obtain ⟨a1, a2, a3⟩ := h
  exact q J e1 e2 ⟨⟨(e2 26 (by decide) (by decide) (by decide) (by decide)).trans a1, a2, fun k hk => by rw [e1 104 (by decide)]; exact a3 k hk⟩, fun k hk => by rw [e1 106 (by decide)]; exact hw k hk, j29, j30, j31, j32⟩
theorem m_nx {G : Gp} {Q : zPost} {S : zSh} {I : zFI} {L : zFL} {T : Nat → Int32} {tl m : Nat} (hS : zStd S) (h : zMt_ I T tl m) (q : ∀ J, (∀ b, b ≠ 84 → J b = I b) → (∀ k, k ≠ 29 → k ≠ 30 → k ≠ 31 → k ≠ 32 → J 84 k = I 84 k) → zMt_ J T tl (m + 1) → Q none S J L) : ZC G mX12_next fX12_next lX12_next [zo G 84] S I L 0 0 Q :=
  m_nx0 hS h.1 h.2.1 (znx_le h.1.2.1 (zps_le h.1.2.1 m)) h.2.2.1 rfl q
/-- the model's draft is R -/
def zMr (I : zFI) (R : Nat → Int32) : Prop := (∀ k, k < 9 → I 105 (100 + k) = R k) ∧ (∀ k, k < 16 → I 105 (110 + k) = iBit (R 9) k) ∧ ∀ k, k < 16 → I 105 (130 + k) = iBit (R 10) k
theorem zMr.fr {I J : zFI} {R : Nat → Int32} (h : zMr I R) (e : J 105 = I 105) : zMr J R := by
  obtain ⟨a, b, c⟩ := h
  exact ⟨fun k hk => by rw [e]; exact a k hk, fun k hk => by rw [e]; exact b k hk, fun k hk => by rw [e]; exact c k hk⟩
/-- behind a piece of a line, whose result is r -/
def zLm (I J : zFI) (T : Nat → Int32) (tl : Nat) (r : zRe) : Prop := (∀ b, b ≠ 84 → b ≠ 105 → J b = I b) ∧ (∀ k, k < 29 ∨ 36 ≤ k ∨ k = 33 → J 84 k = I 84 k) ∧ (∀ k, k < 100 → J 105 k = I 105 k) ∧ (r.1 = 0 → zMt_ J T tl r.2.1 ∧ zMr J r.2.2) ∧ (¬ r.1 = 0 → r.1 ≤ 3 ∧ J 84 34 = nI r.1 ∧ J 84 35 = nI (zps_ T r.2.1))
theorem zLm.of {I I' J : zFI} {T : Nat → Int32} {tl : Nat} {r : zRe} (h : zLm I' J T tl r) (e1 : ∀ b, b ≠ 84 → b ≠ 105 → I' b = I b) (e2 : ∀ k, k < 29 ∨ 36 ≤ k ∨ k = 33 → I' 84 k = I 84 k) (e3 : ∀ k, k < 100 → I' 105 k = I 105 k) : zLm I J T tl r :=
  ⟨fun b b1 b2 => (h.1 b b1 b2).trans (e1 b b1 b2), fun k hk => (h.2.1 k hk).trans (e2 k hk), fun k hk => (h.2.2.1 k hk).trans (e3 k hk), h.2.2.2⟩
theorem m_fails {G : Gp} {Q : zPost} {S : zSh} {I I0 : zFI} {L : zFL} {T : Nat → Int32} {tl m f : Nat} {v : Int32} {R : Nat → Int32} (hS : zStd S) (hf : ¬ f = 0) (f3 : f ≤ 3) (ev : v = nI f) (h30 : I 84 30 = nI (zps_ T m)) (e1 : ∀ b, b ≠ 84 → b ≠ 105 → I b = I0 b) (e2 : ∀ k, k < 29 ∨ 36 ≤ k ∨ k = 33 → I 84 k = I0 84 k) (e3 : ∀ k, k < 100 → I 105 k = I0 105 k) (q : ∀ J, zLm I0 J T tl (f, m, R) → Q (some (.int (-1))) S J L) : ZC G mX12_fails fX12_fails lX12_fails [zo G 84, .int v] S I L 0 0 Q := by
  refine ZC.of' (vX12_fails_0 hS (q _ ⟨fun b b1 b2 => ?_, fun k hk => ?_, fun k hk => ?_, fun y => absurd y hf, fun _ => ⟨f3, ?_, ?_⟩⟩)) rfl (Nat.le_of_ble_eq_true rfl) rfl
  · rw [← u2_row _ _ _ _ b1, ← u2_row _ _ _ _ b1]; exact e1 b b1 b2
  · rw [u2_ne _ _ _ _ (by omega), u2_ne _ _ _ _ (by omega)]; exact e2 k hk
  · rw [← u2_row _ _ _ _ (by decide), ← u2_row _ _ _ _ (by decide)]; exact e3 k hk
  · rw [u2_ne _ _ _ _ (by decide), u2_same, ev]
  · rw [u2_same, h30]
theorem mk_num {T : Nat → Int32} (q : Nat) : zMk (zkd T q) = 3 ↔ zkd T q = 2 := by
  unfold zkd
  split
  · decide
  · split
    · split <;> decide
    · split
      · split <;> decide
      · split <;> decide
theorem mk_wrd {T : Nat → Int32} (q : Nat) : zMk (zkd T q) = 2 ↔ zkd T q = 1 := by
  unfold zkd
  split
  · decide
  · split
    · split <;> decide
    · split
      · split <;> decide
      · split <;> decide
theorem mk_stp {T : Nat → Int32} (q : Nat) : zMk (zkd T q) = 4 ↔ zkd T q = 3 := by
  unfold zkd
  split
  · decide
  · split
    · split <;> decide
    · split
      · split <;> decide
      · split <;> decide
theorem mk_end {T : Nat → Int32} (q : Nat) : zMk (zkd T q) = 0 ↔ zkd T q = 0 := by
  unfold zkd
  split
  · decide
  · split
    · split <;> decide
    · split
      · split <;> decide
      · split <;> decide
theorem is_in (v lo hi : Int32) : ¬ p_X12_isIn v lo hi = 0 ↔ lo ≤ v ∧ v ≤ hi := by
  unfold p_X12_isIn
  by_cases a : v < lo
  · rw [if_pos a]
    exact ⟨fun y => absurd rfl y, fun y => absurd y.1 (Int32.not_le.mpr a)⟩
  · rw [if_neg a]
    by_cases b : hi < v
    · rw [if_pos b]
      exact ⟨fun y => absurd rfl y, fun y => absurd y.2 (Int32.not_le.mpr b)⟩
    · rw [if_neg b]
      exact ⟨fun _ => ⟨Int32.not_lt.mp a, Int32.not_lt.mp b⟩, fun _ => by decide⟩
theorem is_word {I : zFI} {T : Nat → Int32} {tl m : Nat} (h : zMt_ I T tl m) (lo hi : Int32) : (¬ p_X12_isWord I lo hi = 0) ↔ zwf1 (zTK T) (zTV T) lo hi m = 0 := by
  unfold p_X12_isWord zwf1
  rw [h.2.2.2.2.1]
  by_cases c : zTK T m = 1
  · rw [if_pos (show zMk (zTK T m) = 2 from (mk_wrd _).mpr c), h.2.2.2.2.2 (Or.inl c)]
    by_cases d : lo ≤ zTV T m ∧ zTV T m ≤ hi
    · rw [if_neg ((is_in _ _ _).mpr d), if_pos ⟨c, d⟩]
      exact ⟨fun _ => rfl, fun _ => by decide⟩
    · have d0 : p_X12_isIn (zTV T m) lo hi = 0 := Classical.byContradiction (fun y => d ((is_in _ _ _).mp y))
      rw [if_pos d0, if_neg (fun y => d y.2)]
      exact ⟨fun y => absurd rfl y, fun y => absurd y (by decide)⟩
  · rw [if_neg (show ¬ zMk (zTK T m) = 2 from fun y => c ((mk_wrd _).mp y)), if_neg (fun y => c y.1)]
    exact ⟨fun y => absurd rfl y, fun y => absurd y (by decide)⟩
/-- a number of the draft -/
theorem m_number {G : Gp} {Q : zPost} {S : zSh} {I : zFI} {L : zFL} {T : Nat → Int32} {tl m k : Nat} {lo hi t : Int32} {R : Nat → Int32} (hS : zStd S) (z : zMt_ I T tl m) (hR : zMr I R) (hk : k < 9) (ht : t = nI (100 + k)) (q : ∀ J, zLm I J T tl (znr (zTK T) (zTV T) R k lo hi m) → Q (some (.int (if (znr (zTK T) (zTV T) R k lo hi m).1 = 0 then 0 else -1))) S J L) : ZC G mX12_number fX12_number lX12_number [zo G 84, .int lo, .int hi, .int t] S I L 0 0 Q := by
  have bad : ∀ (f : Nat) (v : Int32), ¬ f = 0 → f ≤ 3 → v = nI f → znf (zTK T) (zTV T) lo hi m = f → ZC G mX12_fails fX12_fails lX12_fails [zo G 84, .int v] S I L 0 0 (fun w S' I L => ∃ r : Int32, w = some (.int r) ∧ S = S' ∧ Q (some (.int r)) S I L) := fun f v f0 f3 ev ef => by
    refine m_fails (R := R) (T := T) (tl := tl) (m := m) (I0 := I) hS f0 f3 ev z.2.2.2.1 (fun _ _ _ => rfl) (fun _ _ => rfl) (fun _ _ => rfl) (fun J hJ => ⟨_, rfl, rfl, ?_⟩)
    have e : znr (zTK T) (zTV T) R k lo hi m = (f, m, R) := by unfold znr; rw [ef, if_neg f0]
    rw [e] at q
    have := q J hJ
    rw [if_neg f0] at this
    exact this
  refine ZC.of' (vX12_number_0 hS ⟨fun c => ?_, fun c => ?_⟩) rfl (Nat.le_of_ble_eq_true rfl) rfl
  · rw [z.2.2.2.2.1] at c
    have k2 : zTK T m = 2 := (mk_num _).mp c
    have e32 : I 84 32 = zTV T m := z.2.2.2.2.2 (Or.inr k2)
    rw [e32]
    refine ⟨fun d => ⟨by rw [ht]; exact znIin (by omega) (by decide), ?_⟩, fun d => bad 2 2 (by decide) (by decide) rfl ?_⟩
    · have d' := (is_in _ _ _).mp d
      have e : znr (zTK T) (zTV T) R k lo hi m = (0, m + 1, up1 R k (zTV T m)) := by
        have : znf (zTK T) (zTV T) lo hi m = 0 := by unfold znf; rw [if_pos k2, if_pos d']
        unfold znr; rw [if_pos this]
      rw [e] at q
      have tN : t.toNatClampNeg = 100 + k := by rw [ht]; exact znIc (by omega)
      rw [tN]
      refine m_nx hS (z.fr (J := u2 I 105 (100 + k) (zTV T m)) (fun b b1 b2 => (u2_row _ _ _ _ b2).symm) (fun j _ => by rw [← u2_row _ _ _ _ (by decide)])) (fun J j1 j2 jz => ⟨rfl, rfl, ?_⟩)
      have j105 : J 105 = u2 I 105 (100 + k) (zTV T m) 105 := j1 105 (by decide)
      refine q J ⟨fun b b1 b2 => by rw [j1 b b1, ← u2_row _ _ _ _ b2], fun j hj => by rw [j2 j (by omega) (by omega) (by omega) (by omega), ← u2_row _ _ _ _ (by decide)], fun j hj => by rw [j105, u2_ne _ _ _ _ (by omega)], fun _ => ⟨jz, ?_, ?_, ?_⟩, fun y => absurd rfl y⟩
      · intro j hj
        show J 105 (100 + j) = up1 R k (zTV T m) j
        rw [j105]
        unfold up1
        by_cases e : j = k
        · rw [if_pos e, e, u2_same]
        · rw [if_neg e, u2_ne _ _ _ _ (by omega)]; exact hR.1 j hj
      · intro j hj
        have : (up1 R k (zTV T m)) 9 = R 9 := if_neg (by omega)
        show J 105 (110 + j) = iBit (up1 R k (zTV T m) 9) j
        rw [this, j105, u2_ne _ _ _ _ (by omega)]; exact hR.2.1 j hj
      · intro j hj
        have : (up1 R k (zTV T m)) 10 = R 10 := if_neg (by omega)
        show J 105 (130 + j) = iBit (up1 R k (zTV T m) 10) j
        rw [this, j105, u2_ne _ _ _ _ (by omega)]; exact hR.2.2 j hj
    · have d' : ¬ (lo ≤ zTV T m ∧ zTV T m ≤ hi) := fun y => absurd d ((is_in _ _ _).mpr y)
      unfold znf; rw [if_pos k2, if_neg d']
  · rw [z.2.2.2.2.1] at c
    have k2 : ¬ zTK T m = 2 := fun y => c ((mk_num _).mpr y)
    exact bad 1 1 (by decide) (by decide) rfl (by unfold znf; rw [if_neg k2])
theorem iBit_or {x : Int32} {i j : Nat} (hi : i < 16) (hj : j < 16) : iBit (x ||| ((1 : Int32) <<< (nI j &&& 31))) i = if i = j then 1 else iBit x i := by
  unfold iBit
  have e1 : (x ||| ((1 : Int32) <<< (nI j &&& 31))) >>> (nI i &&& 31) = (x >>> (nI i &&& 31)) ||| (((1 : Int32) <<< (nI j &&& 31)) >>> (nI i &&& 31)) := Int32.shiftRight_or
  have e2 : ((x >>> (nI i &&& 31)) ||| (((1 : Int32) <<< (nI j &&& 31)) >>> (nI i &&& 31))) &&& 1 = ((x >>> (nI i &&& 31)) &&& 1) ||| ((((1 : Int32) <<< (nI j &&& 31)) >>> (nI i &&& 31)) &&& 1) := by
    apply Int32.toBitVec_inj.mp
    simp only [Int32.toBitVec_and, Int32.toBitVec_or]
    ext k hk
    simp [Bool.and_or_distrib_right]
  rw [e1, e2]
  have e3 := (show ∀ i j : Fin 16, (((1 : Int32) <<< (nI j.1 &&& 31)) >>> (nI i.1 &&& 31)) &&& 1 = if i.1 = j.1 then 1 else 0 by decide +kernel) ⟨i, hi⟩ ⟨j, hj⟩
  rw [e3]
  show _ ||| (if i = j then (1 : Int32) else 0) = _
  by_cases e : i = j
  · rw [if_pos e, if_pos e]
    rcases zbit (x >>> (nI i &&& 31)) with c | c <;> rw [c] <;> decide
  · rw [if_neg e, if_neg e]
    rcases zbit (x >>> (nI i &&& 31)) with c | c <;> rw [c] <;> decide
theorem zMr.up {I : zFI} {R : Nat → Int32} {k : Nat} {v : Int32} (h : zMr I R) (hk : k < 9) : zMr (u2 I 105 (100 + k) v) (up1 R k v) := by
  refine ⟨fun j hj => ?_, fun j hj => ?_, fun j hj => ?_⟩
  · unfold up1
    by_cases e : j = k
    · rw [if_pos e, e, u2_same]
    · rw [if_neg e, u2_ne _ _ _ _ (by omega)]; exact h.1 j hj
  · have : (up1 R k v) 9 = R 9 := if_neg (by omega)
    rw [this, u2_ne _ _ _ _ (by omega)]; exact h.2.1 j hj
  · have : (up1 R k v) 10 = R 10 := if_neg (by omega)
    rw [this, u2_ne _ _ _ _ (by omega)]; exact h.2.2 j hj
theorem zMr.b9 {I : zFI} {R : Nat → Int32} {k : Nat} (h : zMr I R) (hk : k < 16) : zMr (u2 I 105 (110 + k) 1) (up1 R 9 (R 9 ||| ((1 : Int32) <<< (nI k &&& 31)))) := by
  refine ⟨fun j hj => ?_, fun j hj => ?_, fun j hj => ?_⟩
  · rw [u2_ne _ _ _ _ (by omega), h.1 j hj]
    exact (if_neg (by omega)).symm
  · have : (up1 R 9 (R 9 ||| ((1 : Int32) <<< (nI k &&& 31)))) 9 = R 9 ||| ((1 : Int32) <<< (nI k &&& 31)) := if_pos rfl
    rw [this, iBit_or hj hk]
    by_cases e : j = k
    · rw [if_pos e, e, u2_same]
    · rw [if_neg e, u2_ne _ _ _ _ (by omega)]; exact h.2.1 j hj
  · have : (up1 R 9 (R 9 ||| ((1 : Int32) <<< (nI k &&& 31)))) 10 = R 10 := if_neg (by omega)
    rw [this, u2_ne _ _ _ _ (by omega)]; exact h.2.2 j hj
theorem zMr.b10 {I : zFI} {R : Nat → Int32} {k : Nat} (h : zMr I R) (hk : k < 16) : zMr (u2 I 105 (130 + k) 1) (up1 R 10 (R 10 ||| ((1 : Int32) <<< (nI k &&& 31)))) := by
  refine ⟨fun j hj => ?_, fun j hj => ?_, fun j hj => ?_⟩
  · rw [u2_ne _ _ _ _ (by omega), h.1 j hj]
    exact (if_neg (by omega)).symm
  · have : (up1 R 10 (R 10 ||| ((1 : Int32) <<< (nI k &&& 31)))) 9 = R 9 := if_neg (by omega)
    rw [this, u2_ne _ _ _ _ (by omega)]; exact h.2.1 j hj
  · have : (up1 R 10 (R 10 ||| ((1 : Int32) <<< (nI k &&& 31)))) 10 = R 10 ||| ((1 : Int32) <<< (nI k &&& 31)) := if_pos rfl
    rw [this, iBit_or hj hk]
    by_cases e : j = k
    · rw [if_pos e, e, u2_same]
    · rw [if_neg e, u2_ne _ _ _ _ (by omega)]; exact h.2.2 j hj
/-- one line up to its end -/
theorem m_line {G : Gp} {Q : zPost} {S : zSh} {I : zFI} {L : zFL} {T : Nat → Int32} {tl n : Nat} {R : Nat → Int32} (hS : zStd S) (z : zMt_ I T tl n) (hR : zMr I R) (k1 : zTK T n = 1) (k2 : zTV T n ≤ 11) (q : ∀ J, zLm I J T tl (zbd (zTK T) (zTV T) R n) → Q (some (.int (if (zbd (zTK T) (zTV T) R n).1 = 0 then 0 else -1))) S J L) : ZC G mX12_lineComes fX12_lineComes lX12_lineComes [zo G 84] S I L 0 0 Q := by
  obtain ⟨v, hv18, hv⟩ := tk_word T n k1
  have v11 : v ≤ 11 := by
    rw [hv] at k2
    exact (show ∀ k : Fin 18, nI k.1 ≤ 11 → k.1 ≤ 11 by decide) ⟨v, hv18⟩ k2
  have e32 : I 84 32 = nI v := (z.2.2.2.2.2 (Or.inl k1)).trans hv
  refine ZC.of' (vX12_lineComes_0 hS ?_) rfl (Nat.le_of_ble_eq_true rfl) rfl
  refine m_nx hS z (fun I1 i1 i2 z1 => ⟨rfl, rfl, ?_⟩)
  have hR1 : zMr I1 R := hR.fr (i1 105 (by decide))
  have back : ∀ {J : zFI} {r : zRe}, zLm I1 J T tl r → zLm I J T tl r := fun h => h.of (fun b b1 _ => i1 b b1) (fun k hk => i2 k (by omega) (by omega) (by omega) (by omega)) (fun k _ => by rw [i1 105 (by decide)])
  have num : ∀ (k : Nat) (lo hi t : Int32), k < 9 → t = nI (100 + k) → zbd (zTK T) (zTV T) R n = znr (zTK T) (zTV T) R k lo hi (n + 1) → ZC G mX12_number fX12_number lX12_number [zo G 84, .int lo, .int hi, .int t] S I1 L 0 0 (fun w S' I L => ∃ r : Int32, w = some (.int r) ∧ S = S' ∧ Q (some (.int r)) S I L) := fun k lo hi t hk ht e => by
    rw [e] at q
    exact m_number hS z1 hR1 hk ht (fun J hJ => ⟨_, rfl, rfl, q J (back hJ)⟩)
  have foul : ∀ (m : Nat) (J : zFI) (R' : Nat → Int32), zbd (zTK T) (zTV T) R n = (1, m, R') → zMt_ J T tl m → (∀ b, b ≠ 84 → b ≠ 105 → J b = I1 b) → (∀ k, k < 29 ∨ 36 ≤ k ∨ k = 33 → J 84 k = I1 84 k) → (∀ k, k < 100 → J 105 k = I1 105 k) → ZC G mX12_fails fX12_fails lX12_fails [zo G 84, .int 1] S J L 0 0 (fun w S' I L => ∃ r : Int32, w = some (.int r) ∧ S = S' ∧ Q (some (.int r)) S I L) := fun m J R' e zJ e1 e2 e3 => by
    rw [e] at q
    exact m_fails (f := 1) hS (by decide) (by decide) rfl zJ.2.2.2.1 e1 e2 e3 (fun J hJ => ⟨_, rfl, rfl, q J (back hJ)⟩)
  rw [e32]
  have vv : v < 4 ∨ v = 4 ∨ v = 5 ∨ v = 6 ∨ v = 7 ∨ v = 8 ∨ v = 9 ∨ v = 10 ∨ v = 11 := by omega
  have no : ∀ {P : Prop} {a b : Int32}, (a ≠ b) → (a = b → P) := fun h y => absurd y h
  rcases vv with e | e | e | e | e | e | e | e | e
  · have eb : zbd (zTK T) (zTV T) R n = zkin (zTK T) (zTV T) R n := by
      unfold zbd
      have : v = 0 ∨ v = 1 ∨ v = 2 ∨ v = 3 := by omega
      rw [hv]
      rcases this with e | e | e | e <;> subst e <;> rfl
    have ne := fun (c : Int32) (hc : ∀ k : Fin 4, nI k.1 ≠ c) => hc ⟨v, e⟩
    have n4 := ne 4 (by decide)
    have n5 := ne 5 (by decide)
    have n6 := ne 6 (by decide)
    have n7 := ne 7 (by decide)
    have n8 := ne 8 (by decide)
    have n9 := ne 9 (by decide)
    have n10 := ne 10 (by decide)
    have n11 := ne 11 (by decide)
    clear num ne
    refine ⟨fun _ => ⟨fun _ => ⟨fun _ => ⟨fun _ => ⟨fun _ => ⟨fun _ => ⟨fun _ => ⟨fun _ => ?_, no n10⟩, no n11⟩, no n9⟩, no n8⟩, no n7⟩, no n6⟩, no n5⟩, no n4⟩
    have w1 := is_word z1 15 16
    refine ⟨fun c => ?_, fun c => foul (n + 1) I1 R (by rw [eb]; unfold zkin; rw [if_neg (fun y => w1.mpr y c)]) z1 (fun _ _ _ => rfl) (fun _ _ => rfl) (fun _ _ => rfl)⟩
    have c' := w1.mp c
    have kk1 : zTK T (n + 1) = 1 ∧ 15 ≤ zTV T (n + 1) ∧ zTV T (n + 1) ≤ 16 := by
      unfold zwf1 at c'
      split at c'
      · assumption
      · exact absurd c' (by decide)
    rw [z1.2.2.2.2.2 (Or.inl kk1.1)]
    -- the second kind
    have two : ∀ (k : Nat) (c0 : Int32) (kb : Nat), k < 11 → (k = if zTV T (n + 1) = 15 then 9 else 10) → (∀ a b : Fin 4, (c0 + (4 * nI a.1)) + nI b.1 = nI (kb + (4 * a.1 + b.1))) → kb ≤ 130 → 100 ≤ kb → (∀ (J : zFI) (j : Nat), zMr J R → j < 16 → zMr (u2 J 105 (kb + j) 1) (up1 R k (R k ||| ((1 : Int32) <<< (nI j &&& 31))))) →
        ZC G mX12_next fX12_next lX12_next [zo G 84] S I1 L 0 0 (fun w S' I2 L2 => w = none ∧ S = S' ∧ ((¬ p_X12_isWord I2 0 3 = 0 → vp_in ((c0 + (4 * nI v)) + I2 84 32) 150 ∧ ZC G mX12_next fX12_next lX12_next [zo G 84] S (u2 I2 105 ((c0 + (4 * nI v)) + I2 84 32).toNatClampNeg 1) L2 0 0 (fun w S' I L => w = none ∧ S = S' ∧ Q (some (.int 0)) S I L)) ∧ (p_X12_isWord I2 0 3 = 0 → ZC G mX12_fails fX12_fails lX12_fails [zo G 84, .int 1] S I2 L2 0 0 (fun w S' I L => ∃ r : Int32, w = some (.int r) ∧ S = S' ∧ Q (some (.int r)) S I L)))) := by
      intro k c0 kb hk ek hc kb1 kb0 hz
      refine m_nx hS z1 (fun I2 j1 j2 z2 => ⟨rfl, rfl, ?_⟩)
      have w2 := is_word z2 0 3
      have hR2 : zMr I2 R := hR1.fr (j1 105 (by decide))
      refine ⟨fun d => ?_, fun d => foul (n + 2) I2 R (by rw [eb]; unfold zkin; rw [if_pos c', if_neg (fun y => w2.mpr y d)]) z2 (fun b b1 _ => j1 b b1) (fun k hk => j2 k (by omega) (by omega) (by omega) (by omega)) (fun k _ => by rw [j1 105 (by decide)])⟩
      have d' := w2.mp d
      have kk2 : zTK T (n + 2) = 1 ∧ 0 ≤ zTV T (n + 2) ∧ zTV T (n + 2) ≤ 3 := by
        unfold zwf1 at d'
        split at d'
        · assumption
        · exact absurd d' (by decide)
      obtain ⟨b, hb18, hb⟩ := tk_word T (n + 2) kk2.1
      have hb4 : b < 4 := by
        have := kk2.2.2
        rw [hb] at this
        exact (show ∀ k : Fin 18, nI k.1 ≤ 3 → k.1 < 4 by decide) ⟨b, hb18⟩ this
      rw [z2.2.2.2.2.2 (Or.inl kk2.1), hb, hc ⟨v, e⟩ ⟨b, hb4⟩]
      refine ⟨znIin (by show kb + (4 * v + b) < 150; omega) (by decide), ?_⟩
      have tN : (nI (kb + (4 * v + b))).toNatClampNeg = kb + (4 * v + b) := znIc (by omega)
      show ZC G mX12_next fX12_next lX12_next [zo G 84] S (u2 I2 105 (nI (kb + (4 * v + b))).toNatClampNeg 1) L 0 0 _
      rw [tN]
      refine m_nx hS (z2.fr (J := u2 I2 105 (kb + (4 * v + b)) 1) (fun b b1 b2 => (u2_row _ _ _ _ b2).symm) (fun j _ => by rw [← u2_row _ _ _ _ (by decide)])) (fun J l1 l2 zJ => ⟨rfl, rfl, ?_⟩)
      have er : zbd (zTK T) (zTV T) R n = (0, n + 3, up1 R k (R k ||| ((1 : Int32) <<< (nI (4 * v + b) &&& 31)))) := by
        rw [eb]
        unfold zkin
        rw [if_pos c', if_pos d', ← ek, hv, hb]
        have : 4 * nI v + nI b = nI (4 * v + b) := (show ∀ a b : Fin 4, 4 * nI a.1 + nI b.1 = nI (4 * a.1 + b.1) by decide) ⟨v, e⟩ ⟨b, hb4⟩
        rw [this]
      rw [er] at q
      have j105 : J 105 = u2 I2 105 (kb + (4 * v + b)) 1 105 := l1 105 (by decide)
      refine q J (back ⟨fun x b1 b2 => by rw [l1 x b1, ← u2_row _ _ _ _ b2]; exact j1 x b1, fun j hj => by rw [l2 j (by omega) (by omega) (by omega) (by omega), ← u2_row _ _ _ _ (by decide)]; exact j2 j (by omega) (by omega) (by omega) (by omega), fun j hj => by rw [j105, u2_ne _ _ _ _ (by omega), j1 105 (by decide)], fun _ => ⟨zJ, (hz I2 _ hR2 (by omega)).fr j105⟩, fun y => absurd rfl y⟩)
    refine ⟨fun d => ?_, fun d => ?_⟩
    · exact two 10 (100 + 30) 130 (by omega) (if_neg d).symm (by decide) (by omega) (by omega) (fun J j h hj => h.b10 hj)
    · exact two 9 (100 + 10) 110 (by omega) (if_pos d).symm (by decide) (by omega) (by omega) (fun J j h hj => h.b9 hj)
  · subst e
    refine ⟨fun y => absurd rfl y, fun _ => ?_⟩
    have eb : zbd (zTK T) (zTV T) R n = if zwf1 (zTK T) (zTV T) 12 14 (n + 1) = 0 then (0, n + 2, up1 R 0 (zTV T (n + 1) - 11)) else (1, n + 1, R) := by unfold zbd; rw [hv]; rfl
    have w1 := is_word z1 12 14
    refine ⟨fun c => ?_, fun c => foul (n + 1) I1 R (by rw [eb, if_neg (fun y => w1.mpr y c)]) z1 (fun _ _ _ => rfl) (fun _ _ => rfl) (fun _ _ => rfl)⟩
    have c' := w1.mp c
    rw [if_pos c'] at eb
    have kk1 : zTK T (n + 1) = 1 ∧ 12 ≤ zTV T (n + 1) ∧ zTV T (n + 1) ≤ 14 := by
      unfold zwf1 at c'
      split at c'
      · assumption
      · exact absurd c' (by decide)
    rw [z1.2.2.2.2.2 (Or.inl kk1.1)]
    have ev : (zTV T (n + 1) - 12) + 1 = zTV T (n + 1) - 11 := by
      obtain ⟨b, hb18, hb⟩ := tk_word T (n + 1) kk1.1
      rw [hb]
      exact (show ∀ k : Fin 18, (nI k.1 - 12) + 1 = nI k.1 - 11 by decide) ⟨b, hb18⟩
    rw [ev]
    refine m_nx hS (z1.fr (J := u2 I1 105 (100 + 0) (zTV T (n + 1) - 11)) (fun b b1 b2 => (u2_row _ _ _ _ b2).symm) (fun j _ => by rw [← u2_row _ _ _ _ (by decide)])) (fun J l1 l2 zJ => ⟨rfl, rfl, ?_⟩)
    rw [eb] at q
    have j105 : J 105 = u2 I1 105 (100 + 0) (zTV T (n + 1) - 11) 105 := l1 105 (by decide)
    exact q J (back ⟨fun x b1 b2 => by rw [l1 x b1, ← u2_row _ _ _ _ b2], fun j hj => by rw [l2 j (by omega) (by omega) (by omega) (by omega), ← u2_row _ _ _ _ (by decide)], fun j hj => by rw [j105, u2_ne _ _ _ _ (by omega)], fun _ => ⟨zJ, (hR1.up (k := 0) (by omega)).fr j105⟩, fun y => absurd rfl y⟩)
  · subst e
    refine ⟨fun _ => ⟨fun y => absurd rfl y, fun _ => ?_⟩, no (by decide)⟩
    have eb : zbd (zTK T) (zTV T) R n = (0, n + 1, up1 R 1 1) := by unfold zbd; rw [hv]; rfl
    rw [eb] at q
    exact q _ (back ⟨fun x b1 b2 => (u2_row _ _ _ _ b2).symm, fun j hj => by rw [← u2_row _ _ _ _ (by decide)], fun j hj => u2_ne _ _ _ _ (show ¬ (105 = 105 ∧ j = 101) by omega), fun _ => ⟨z1.fr (fun b b1 b2 => (u2_row _ _ _ _ b2).symm) (fun j _ => by rw [← u2_row _ _ _ _ (by decide)]), hR1.up (k := 1) (by omega)⟩, fun y => absurd rfl y⟩)
  · subst e
    exact ⟨fun _ => ⟨fun _ => ⟨fun y => absurd rfl y, fun _ => num 2 0 3 _ (by omega) rfl (by unfold zbd; rw [hv]; rfl)⟩, no (by decide)⟩, no (by decide)⟩
  · subst e
    exact ⟨fun _ => ⟨fun _ => ⟨fun _ => ⟨fun y => absurd rfl y, fun _ => num 3 0 5 _ (by omega) rfl (by unfold zbd; rw [hv]; rfl)⟩, no (by decide)⟩, no (by decide)⟩, no (by decide)⟩
  · subst e
    exact ⟨fun _ => ⟨fun _ => ⟨fun _ => ⟨fun _ => ⟨fun y => absurd rfl y, fun _ => num 4 0 99 _ (by omega) rfl (by unfold zbd; rw [hv]; rfl)⟩, no (by decide)⟩, no (by decide)⟩, no (by decide)⟩, no (by decide)⟩
  · subst e
    exact ⟨fun _ => ⟨fun _ => ⟨fun _ => ⟨fun _ => ⟨fun _ => ⟨fun y => absurd rfl y, fun _ => num 5 0 9 _ (by omega) rfl (by unfold zbd; rw [hv]; rfl)⟩, no (by decide)⟩, no (by decide)⟩, no (by decide)⟩, no (by decide)⟩, no (by decide)⟩
  · subst e
    refine ⟨fun _ => ⟨fun _ => ⟨fun _ => ⟨fun _ => ⟨fun _ => ⟨fun _ => ⟨fun _ => ⟨fun y => absurd rfl y, fun _ => ?_⟩, no (by decide)⟩, no (by decide)⟩, no (by decide)⟩, no (by decide)⟩, no (by decide)⟩, no (by decide)⟩, no (by decide)⟩
    have eb : zbd (zTK T) (zTV T) R n = zsap (zTK T) (zTV T) R n := by unfold zbd; rw [hv]; rfl
    clear num
    refine m_number hS z1 hR1 (k := 6) (by omega) rfl (fun I2 h2 => ⟨_, rfl, rfl, ?_⟩)
    by_cases f0 : znf (zTK T) (zTV T) 0 99 (n + 1) = 0
    · have er : znr (zTK T) (zTV T) R 6 0 99 (n + 1) = (0, n + 2, up1 R 6 (zTV T (n + 1))) := by unfold znr; rw [if_pos f0]
      rw [er] at h2 ⊢
      obtain ⟨z2, hR2⟩ := h2.2.2.2.1 rfl
      refine ⟨fun _ => ?_, fun y => absurd (show (0 : Int32) = -1 from y) (by decide)⟩
      have w1 := is_word z2 17 17
      refine ⟨fun c => ?_, fun c => foul (n + 2) I2 R (by rw [eb]; unfold zsap; rw [if_pos f0, if_neg (fun y => w1.mpr y c)]) z2 h2.1 h2.2.1 h2.2.2.1⟩
      have c' := w1.mp c
      refine m_nx hS z2 (fun I3 l1 l2 z3 => ⟨rfl, rfl, ?_⟩)
      have hR3 : zMr I3 (up1 R 6 (zTV T (n + 1))) := hR2.fr (l1 105 (by decide))
      have e6 : I3 105 (106 : Int32).toNatClampNeg = zTV T (n + 1) := hR3.1 6 (by omega)
      rw [e6]
      have er' : zbd (zTK T) (zTV T) R n = znr (zTK T) (zTV T) (up1 R 6 (zTV T (n + 1))) 7 (zTV T (n + 1)) 99 (n + 3) := by rw [eb]; unfold zsap; rw [if_pos f0, if_pos c']
      rw [er'] at q
      exact m_number hS z3 hR3 (k := 7) (by omega) rfl (fun J hJ => ⟨_, rfl, rfl, q J (back (hJ.of (fun b b1 b2 => (l1 b b1).trans (h2.1 b b1 b2)) (fun k hk => (l2 k (by omega) (by omega) (by omega) (by omega)).trans (h2.2.1 k hk)) (fun k hk => by rw [l1 105 (by decide)]; exact h2.2.2.1 k hk)))⟩)
    · have er : znr (zTK T) (zTV T) R 6 0 99 (n + 1) = (znf (zTK T) (zTV T) 0 99 (n + 1), n + 1, R) := by unfold znr; rw [if_neg f0]
      rw [er] at h2 ⊢
      have er' : zbd (zTK T) (zTV T) R n = (znf (zTK T) (zTV T) 0 99 (n + 1), n + 1, R) := by rw [eb]; unfold zsap; rw [if_neg f0]
      rw [er'] at q
      have e1 : (if (znf (zTK T) (zTV T) 0 99 (n + 1), n + 1, R).1 = 0 then (0 : Int32) else -1) = -1 := if_neg f0
      have qq := q I2 (back h2)
      rw [e1] at qq ⊢
      exact ⟨fun y => absurd rfl y, fun _ => qq⟩
  · subst e
    exact ⟨fun _ => ⟨fun _ => ⟨fun _ => ⟨fun _ => ⟨fun _ => ⟨fun _ => ⟨fun y => absurd rfl y, fun _ => num 8 0 99 _ (by omega) rfl (by unfold zbd; rw [hv]; rfl)⟩, no (by decide)⟩, no (by decide)⟩, no (by decide)⟩, no (by decide)⟩, no (by decide)⟩, no (by decide)⟩
/-- behind the model's reading of a text, whose result is r -/
def zMp (I J : zFI) (T : Nat → Int32) (r : zRe) : Prop := (∀ b, b ≠ 84 → b ≠ 105 → J b = I b) ∧ (∀ k, k < 29 ∨ 36 ≤ k → J 84 k = I 84 k) ∧ (∀ k, k < 100 → J 105 k = I 105 k) ∧ (r.1 = 0 → zMr J r.2.2) ∧ (¬ r.1 = 0 → r.1 ≤ 3 ∧ J 84 34 = nI r.1 ∧ J 84 35 = nI (zps_ T r.2.1))
theorem zMp.of {I I' J : zFI} {T : Nat → Int32} {r : zRe} (h : zMp I' J T r) (e1 : ∀ b, b ≠ 84 → b ≠ 105 → I' b = I b) (e2 : ∀ k, k < 29 ∨ 36 ≤ k → I' 84 k = I 84 k) (e3 : ∀ k, k < 100 → I' 105 k = I 105 k) : zMp I J T r :=
  ⟨fun b b1 b2 => (h.1 b b1 b2).trans (e1 b b1 b2), fun k hk => (h.2.1 k hk).trans (e2 k hk), fun k hk => (h.2.2.1 k hk).trans (e3 k hk), h.2.2.2⟩
theorem zLm.p {I J : zFI} {T : Nat → Int32} {tl : Nat} {r : zRe} (h : zLm I J T tl r) : zMp I J T r :=
  ⟨h.1, fun k hk => h.2.1 k (by omega), h.2.2.1, fun y => (h.2.2.2.1 y).2, h.2.2.2.2⟩
theorem m_reads105 {G : Gp} {Q : zPost} {S : zSh} {L : zFL} {T : Nat → Int32} {tl : Nat} (hS : zStd S) : ∀ (fu l n : Nat) (R : Nat → Int32) (I : zFI) (v : Int32), fu + l = 40 → zMt_ I T tl n → zMr I R → I 84 33 = nI l →
    (∀ J, zMp I J T (zal_ (zTK T) (zTV T) fu l n R).1 → Q (some (.int (if (zal_ (zTK T) (zTV T) fu l n R).1.1 = 0 then nI (zal_ (zTK T) (zTV T) fu l n R).2 else -1))) S J L) → ZW G mX12_reads fX12_reads lX12_reads 105 [zo G 84, .int v] [] S I L 0 0 Q := by
  have wf : ∀ n, zwf1 (zTK T) (zTV T) 0 11 n = 0 ↔ zTK T n = 1 ∧ zTV T n ≤ 11 := fun n => by
    unfold zwf1
    constructor
    · intro y
      split at y
      · next c => exact ⟨c.1, c.2.2⟩
      · exact absurd y (by decide)
    · intro y
      obtain ⟨k, hk, e⟩ := tk_word T n y.1
      exact if_pos ⟨y.1, by rw [e]; exact (show ∀ k : Fin 18, 0 ≤ nI k.1 by decide) ⟨k, hk⟩, y.2⟩
  have end0 : ∀ (l n : Nat) (R : Nat → Int32) (I : zFI) (x : zRe × Nat), zMt_ I T tl n → zMr I R → I 84 33 = nI l → ¬ (zTK T n = 1 ∧ zTV T n ≤ 11) → (zTK T n = 0 → x = ((0, n, R), l)) → (¬ zTK T n = 0 → x.1 = (1, n, R)) → (∀ J, zMp I J T x.1 → Q (some (.int (if x.1.1 = 0 then nI x.2 else -1))) S J L) →
      ((¬ I 84 31 = 0 → ZC G mX12_fails fX12_fails lX12_fails [zo G 84, .int 1] S I L 0 0 (fun w S' I L => ∃ r : Int32, w = some (.int r) ∧ S = S' ∧ Q (some (.int r)) S I L)) ∧ (I 84 31 = 0 → Q (some (.int (I 84 33))) S I L)) := by
    intro l n R I x z hR h33 nw x0 x1 q
    rw [z.2.2.2.2.1]
    refine ⟨fun c => ?_, fun c => ?_⟩
    · have e := x1 (fun y => c ((mk_end _).mpr y))
      refine m_fails (f := 1) (m := n) (R := R) (T := T) (tl := tl) (I0 := I) hS (by decide) (by decide) rfl z.2.2.2.1 (fun _ _ _ => rfl) (fun _ _ => rfl) (fun _ _ => rfl) (fun J hJ => ⟨_, rfl, rfl, ?_⟩)
      have := q J (by rw [e]; exact hJ.p)
      rw [e] at this
      exact this
    · have e := x0 ((mk_end _).mp c)
      have := q I (by rw [e]; exact ⟨fun _ _ _ => rfl, fun _ _ => rfl, fun _ _ => rfl, fun _ => hR, fun y => absurd rfl y⟩)
      rw [e] at this
      rw [h33]
      exact this
  intro fu
  induction fu with
  | zero =>
    intro l n R I v hl z hR h33 q
    have l40 : l = 40 := by omega
    subst l40
    have w := (is_word z 0 11).trans (wf n)
    refine vX12_reads_105 hS ⟨fun c => ?_, fun c => ?_⟩
    · have nw : ¬ (zTK T n = 1 ∧ zTV T n ≤ 11) := fun y => w.mpr y c
      exact end0 40 n R I (zal_ (zTK T) (zTV T) 0 40 n R) z hR h33 nw (fun y => by unfold zal_; rw [if_pos y]) (fun y => by unfold zal_; rw [if_neg y, if_neg nw]) q
    · have w' := w.mp c
      refine ⟨fun y => absurd h33 y, fun _ => ?_⟩
      have e : zal_ (zTK T) (zTV T) 0 40 n R = ((3, n, R), 40) := by
        unfold zal_; rw [if_neg (by rw [w'.1]; decide), if_pos w']
      rw [e] at q
      exact m_fails (f := 3) (m := n) (R := R) (T := T) (tl := tl) (I0 := I) hS (by decide) (by decide) rfl z.2.2.2.1 (fun _ _ _ => rfl) (fun _ _ => rfl) (fun _ _ => rfl) (fun J hJ => ⟨_, rfl, rfl, q J hJ.p⟩)
  | succ fu ih =>
    intro l n R I v hl z hR h33 q
    have w := (is_word z 0 11).trans (wf n)
    refine vX12_reads_105 hS ⟨fun c => ?_, fun c => ?_⟩
    · have nw : ¬ (zTK T n = 1 ∧ zTV T n ≤ 11) := fun y => w.mpr y c
      exact end0 l n R I (zal_ (zTK T) (zTV T) (fu + 1) l n R) z hR h33 nw (fun y => by unfold zal_; rw [if_pos y]) (fun y => by unfold zal_; rw [if_neg y, if_neg nw]) q
    · have w' := w.mp c
      have k0 : ¬ zTK T n = 0 := by rw [w'.1]; decide
      refine ⟨fun _ => ?_, fun y => absurd (show nI l = nI 40 from h33.symm.trans y) ((nI_ne (show l < 2147483648 by omega) (show 40 < 2147483648 by decide)).mpr (by omega))⟩
      refine m_line hS z hR w'.1 w'.2 (fun I2 h2 => ⟨_, rfl, rfl, ?_⟩)
      by_cases f0 : (zbd (zTK T) (zTV T) R n).1 = 0
      · rw [if_pos f0]
        refine ⟨fun _ => ?_, fun y => absurd y (by decide)⟩
        obtain ⟨z2, hR2⟩ := h2.2.2.2.1 f0
        have e31 : I2 84 31 = zMk (zTK T (zbd (zTK T) (zTV T) R n).2.1) := z2.2.2.2.2.1
        have e33 : I2 84 33 + 1 = nI (l + 1) := by rw [h2.2.1 33 (by omega), h33, nI_1]
        rw [e31, e33]
        generalize eI : u2 I2 84 33 (nI (l + 1)) = I3
        have a1 : ∀ b, b ≠ 84 → I3 b = I2 b := fun b hb => by rw [← eI]; exact (u2_row _ _ _ _ hb).symm
        have a2 : ∀ k, k ≠ 33 → I3 84 k = I2 84 k := fun k hk => by rw [← eI]; exact u2_ne _ _ _ _ (fun y => hk y.2)
        have b1 : ∀ b, b ≠ 84 → b ≠ 105 → I3 b = I b := fun b h1 h3 => (a1 b h1).trans (h2.1 b h1 h3)
        have b2 : ∀ k, k < 29 ∨ 36 ≤ k → I3 84 k = I 84 k := fun k hk => (a2 k (by omega)).trans (h2.2.1 k (by omega))
        have b3 : ∀ k, k < 100 → I3 105 k = I 105 k := fun k hk => by rw [a1 105 (by decide)]; exact h2.2.2.1 k hk
        have z3 : zMt_ I3 T tl (zbd (zTK T) (zTV T) R n).2.1 := z2.fr (fun b h1 _ => a1 b h1) (fun k hk => a2 k (by omega))
        have hR3 : zMr I3 (zbd (zTK T) (zTV T) R n).2.2 := hR2.fr (a1 105 (by decide))
        refine ⟨fun s4 => ?_, fun s4 => ?_⟩
        · have k3 : zTK T (zbd (zTK T) (zTV T) R n).2.1 = 3 := (mk_stp _).mp s4
          have e : zal_ (zTK T) (zTV T) (fu + 1) l n R = zal_ (zTK T) (zTV T) fu (l + 1) ((zbd (zTK T) (zTV T) R n).2.1 + 1) (zbd (zTK T) (zTV T) R n).2.2 := by
            have el : zln (zTK T) (zTV T) R n = (0, (zbd (zTK T) (zTV T) R n).2.1 + 1, (zbd (zTK T) (zTV T) R n).2.2) := by unfold zln; rw [if_pos f0, if_pos k3]
            rw [zal_, if_neg k0, if_pos w', el, if_pos rfl]
          rw [e] at q
          refine m_nx hS z3 (fun I4 c1 c2 z4 => ⟨rfl, rfl, ?_⟩)
          refine ih (l + 1) _ _ I4 v (by omega) z4 (hR3.fr (c1 105 (by decide))) ((c2 33 (by decide) (by decide) (by decide) (by decide)).trans (by rw [← eI]; exact u2_same _ _ _ _)) (fun J hJ => q J (hJ.of (fun b h1 h3 => (c1 b h1).trans (b1 b h1 h3)) (fun k hk => (c2 k (by omega) (by omega) (by omega) (by omega)).trans (b2 k hk)) (fun k hk => by rw [c1 105 (by decide)]; exact b3 k hk)))
        · have k3 : ¬ zTK T (zbd (zTK T) (zTV T) R n).2.1 = 3 := fun y => s4 ((mk_stp _).mpr y)
          have e : zal_ (zTK T) (zTV T) (fu + 1) l n R = ((1, (zbd (zTK T) (zTV T) R n).2.1, (zbd (zTK T) (zTV T) R n).2.2), l) := by
            have el : zln (zTK T) (zTV T) R n = (1, (zbd (zTK T) (zTV T) R n).2.1, (zbd (zTK T) (zTV T) R n).2.2) := by unfold zln; rw [if_pos f0, if_neg k3]
            rw [zal_, if_neg k0, if_pos w', el, if_neg (show ¬ (1 : Nat) = 0 by decide)]
          rw [e] at q
          exact m_fails (f := 1) (R := (zbd (zTK T) (zTV T) R n).2.2) (T := T) (tl := tl) (I0 := I3) hS (by decide) (by decide) rfl z3.2.2.2.1 (fun _ _ _ => rfl) (fun _ _ => rfl) (fun _ _ => rfl) (fun J hJ => ⟨_, rfl, rfl, q J (hJ.p.of b1 b2 b3)⟩)
      · rw [if_neg f0]
        refine ⟨fun y => absurd rfl y, fun _ => ?_⟩
        have e : zal_ (zTK T) (zTV T) (fu + 1) l n R = (zbd (zTK T) (zTV T) R n, l) := by
          have el : zln (zTK T) (zTV T) R n = zbd (zTK T) (zTV T) R n := by unfold zln; rw [if_neg f0]
          rw [zal_, if_neg k0, if_pos w', el, if_neg f0]
        rw [e] at q
        have := q I2 h2.p
        rw [if_neg f0] at this
        exact this
theorem m_reads12 {G : Gp} {Q : zPost} {S : zSh} {I0 : zFI} {L : zFL} (hS : zStd S) (q : ∀ (J : zFI) (v : Int32), (∀ b, b ≠ 105 → J b = I0 b) → (∀ k, k < 100 → J 105 k = I0 105 k) → zMr J zR0_ → ZC G mX12_next fX12_next lX12_next [zo G 84] S J L 0 0 (fun w S' I1 L1 => w = none ∧ S = S' ∧ ZW G mX12_reads fX12_reads lX12_reads 105 [zo G 84, .int v] [] S I1 L1 0 0 Q)) : ∀ (d l : Nat) (I : zFI), d + l = 50 → (∀ b, b ≠ 105 → I b = I0 b) → (∀ k, k < 100 → I 105 k = I0 105 k) → (∀ k, k < l → I 105 (100 + k) = 0) → ZW G mX12_reads fX12_reads lX12_reads 12 [zo G 84, .int (nI l)] [] S I L 0 0 Q := by
  intro d
  induction d with
  | zero =>
    intro l I hl e1 e2 e3
    have l50 : l = 50 := by omega
    subst l50
    refine vX12_reads_12 hS ⟨fun _ => ?_, fun y => absurd (by decide) y⟩
    have far : ∀ k, k < 100 ∨ 109 ≤ k → (u2 (u2 (u2 (u2 (u2 (u2 (u2 (u2 I 105 100 3) 105 102 1) 105 103 2) 105 104 60) 105 105 1) 105 106 10) 105 107 30) 105 108 2) 105 k = I 105 k := fun k hk => by
      rw [u2_ne _ _ _ _ (by omega), u2_ne _ _ _ _ (by omega), u2_ne _ _ _ _ (by omega), u2_ne _ _ _ _ (by omega), u2_ne _ _ _ _ (by omega), u2_ne _ _ _ _ (by omega), u2_ne _ _ _ _ (by omega), u2_ne _ _ _ _ (by omega)]
    have z0 : ∀ k : Fin 16, iBit 0 k.1 = 0 := by decide
    refine q (u2 (u2 (u2 (u2 (u2 (u2 (u2 (u2 I 105 100 3) 105 102 1) 105 103 2) 105 104 60) 105 105 1) 105 106 10) 105 107 30) 105 108 2) (nI 50) (fun b hb => ?_) (fun k hk => (far k (Or.inl hk)).trans (e2 k hk)) ⟨fun k hk => ?_, fun k hk => ?_, fun k hk => ?_⟩
    · funext j
      simp [u2, hb, e1 b hb]
    · match k, hk with
      | 0, _ => simp [u2, zR0_, up1]
      | 1, _ => simp [u2, zR0_, up1]; exact e3 1 (by omega)
      | 2, _ => simp [u2, zR0_, up1]
      | 3, _ => simp [u2, zR0_, up1]
      | 4, _ => simp [u2, zR0_, up1]
      | 5, _ => simp [u2, zR0_, up1]
      | 6, _ => simp [u2, zR0_, up1]
      | 7, _ => simp [u2, zR0_, up1]
      | 8, _ => simp [u2, zR0_, up1]
      | k + 9, hk => exact absurd hk (by omega)
    · rw [far _ (Or.inr (by omega)), show 110 + k = 100 + (10 + k) by omega, e3 (10 + k) (by omega)]
      exact (z0 ⟨k, hk⟩).symm
    · rw [far _ (Or.inr (by omega)), show 130 + k = 100 + (30 + k) by omega, e3 (30 + k) (by omega)]
      exact (z0 ⟨k, hk⟩).symm
  | succ d ih =>
    intro l I hl e1 e2 e3
    refine vX12_reads_12 hS ⟨fun y => absurd y (nI_ge (show l < 50 by omega) (by decide)), fun _ => ?_⟩
    have e : (100 : Int32) + nI l = nI (100 + l) := zx50 2 l
    rw [e]
    refine ⟨znIin (by omega) (by decide), ?_⟩
    rw [znIc (show 100 + l < 2147483648 by omega), nI_1]
    exact ih (l + 1) _ (by omega) (fun b hb => (u2_row _ _ _ _ hb).symm.trans (e1 b hb)) (fun k hk => (u2_ne _ _ _ _ (by omega)).trans (e2 k hk)) (fun k hk => by
      by_cases c : k = l
      · rw [c, u2_same]
      · rw [u2_ne _ _ _ _ (by omega)]; exact e3 k (by omega))
/-- the model's reading of a text -/
theorem m_reads {G : Gp} {Q : zPost} {S : zSh} {I : zFI} {L : zFL} {T : Nat → Int32} {tl : Nat} (hS : zStd S) (h : zTm_ I T tl) (hw : iWrd I) (q : ∀ J, zMp I J T (zal_ (zTK T) (zTV T) 40 0 0 zR0_).1 → Q (some (.int (if (zal_ (zTK T) (zTV T) 40 0 0 zR0_).1.1 = 0 then nI (zal_ (zTK T) (zTV T) 40 0 0 zR0_).2 else -1))) S J L) : ZC G mX12_reads fX12_reads lX12_reads [zo G 84] S I L 0 0 Q := by
  refine ZC.of' (vX12_reads_0 hS ?_) rfl (Nat.le_of_ble_eq_true rfl) rfl
  refine m_reads12 (I0 := u2 (u2 I 84 29 0) 84 33 0) hS (fun J v e1 e2 hR => ?_) 50 0 _ rfl (fun _ _ => rfl) (fun _ _ => rfl) (fun k hk => absurd hk (by omega))
  have j1 : ∀ b, b ≠ 84 → b ≠ 105 → J b = I b := fun b b1 b2 => by rw [e1 b b2, ← u2_row _ _ _ _ b1, ← u2_row _ _ _ _ b1]
  have j2 : ∀ k, k ≠ 29 → k ≠ 33 → J 84 k = I 84 k := fun k k1 k2 => by rw [e1 84 (by decide), u2_ne _ _ _ _ (fun y => k2 y.2), u2_ne _ _ _ _ (fun y => k1 y.2)]
  have j29 : J 84 29 = nI 0 := by rw [e1 84 (by decide), u2_ne _ _ _ _ (by decide), u2_same]; rfl
  have j33 : J 84 33 = nI 0 := by rw [e1 84 (by decide), u2_same]; rfl
  have j3 : ∀ k, k < 100 → J 105 k = I 105 k := fun k hk => by rw [e2 k hk, ← u2_row _ _ _ _ (by decide), ← u2_row _ _ _ _ (by decide)]
  have hJ : zTm_ J T tl := ⟨(j2 26 (by decide) (by decide)).trans h.1, h.2.1, fun k hk => by rw [j1 104 (by decide) (by decide)]; exact h.2.2 k hk⟩
  refine m_nx0 (m := 0) hS hJ (fun k hk => by rw [j1 106 (by decide) (by decide)]; exact hw k hk) (Nat.zero_le _) j29 rfl (fun I1 i1 i2 z => ⟨rfl, rfl, ?_⟩)
  refine m_reads105 hS 40 0 0 zR0_ I1 v rfl z (hR.fr (i1 105 (by decide))) ((i2 33 (by decide) (by decide) (by decide) (by decide)).trans j33) (fun J' hJ' => q J' (hJ'.of (fun b b1 b2 => (i1 b b1).trans (j1 b b1 b2)) (fun k hk => (i2 k (by omega) (by omega) (by omega) (by omega)).trans (j2 k (by omega) (by omega))) (fun k hk => by rw [i1 105 (by decide)]; exact j3 k hk)))
