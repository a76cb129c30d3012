/-! DATE: how many steps agree at an end e -/
def zagp (M R : Nat → Int32) (t b : Nat) (i : Nat) : Bool := decide (0 < i) && decide (p_X8_way (M (b + i - 1)) (M (b + i)) = p_X8_way (R (24 * t + i - 1)) (R (24 * t + i)))
def zagn (M : Nat → Int32) (b n : Nat) : Bool := (List.range n).any (fun i => decide (M (b + i) = -1))
def zagr (M R : Nat → Int32) (t n e : Nat) : Int32 := if n < 2 ∨ e + 1 < n ∨ zagn M (e + 1 - n) n = true then -1 else nI (zcnt (zagp M R t (e + 1 - n)) n)
theorem zagn_iff {M : Nat → Int32} {b n : Nat} : zagn M b n = true ↔ ∃ i, i < n ∧ M (b + i) = -1 := by
  unfold zagn
  rw [List.any_eq_true]
  constructor
  · rintro ⟨o, h1, h2⟩
    exact ⟨o, List.mem_range.mp h1, of_decide_eq_true h2⟩
  · rintro ⟨o, h1, h2⟩
    exact ⟨o, List.mem_range.mpr h1, decide_eq_true h2⟩
theorem zagr_lo (M R : Nat → Int32) (t n e : Nat) (hn : n ≤ 24) : -1 ≤ zagr M R t n e ∧ zagr M R t n e ≤ 24 := by
  have h := zcnt_le (zagp M R t (e + 1 - n)) n
  unfold zagr
  split
  · exact ⟨by decide, by decide⟩
  · rw [zle, zle, znI (by omega), show (-1 : Int32).toInt = -1 from rfl, show (24 : Int32).toInt = 24 from rfl]
    omega
theorem goes_way (a b : Int32) : p_X12_goes a b = p_X8_way a b := by
  unfold p_X12_goes p_X8_way
  by_cases c : a = b
  · subst c
    rw [if_pos (Int32.le_refl _), if_pos (Int32.le_refl _), if_pos rfl]
  · rw [if_neg c]
    by_cases d : b ≤ a
    · rw [if_pos d, if_pos d, if_neg (by lia)]
    · rw [if_neg d, if_neg d]
theorem zx_b {e n b : Nat} (h : e + 1 = n + b) (i : Nat) : (nI e - nI n + 1) + nI i = nI (b + i) := by
  have h1 : nI e + 1 = nI n + nI b := by rw [nI_1, nI_add, h]
  rw [← nI_add]
  lia
theorem zx_m {a : Nat} (h : 0 < a) : nI a - 1 = nI (a - 1) := by
  obtain ⟨k, rfl⟩ : ∃ k, a = k + 1 := ⟨a - 1, by omega⟩
  exact nI_pred k
theorem zx_t (t : Nat) : nI t * 24 = nI (24 * t) := by
  rw [show (24 : Int32) = nI 24 from rfl, pk_mul, Nat.mul_comm]
theorem zx_t2 (t : Nat) : 24 * nI t = nI (24 * t) := by
  rw [show (24 : Int32) = nI 24 from rfl, pk_mul]
theorem c_agreeAt {G : Gp} {Q : zPost} {S : zSh} {I : zFI} {L : zFL} {t n e : Nat} (hS : zStd S) (ht : t < 16) (hn : n ≤ 24) (hn2 : 2 ≤ n) (he : n ≤ e + 1) (he2 : e < 200) (h : Q (some (.int (zagr (I 68) (I 70) t n e))) S I L) : ZC G mX8_agreeAt fX8_agreeAt lX8_agreeAt [zo G 67, .int (nI t), .int (nI n), .int (nI e)] S I L 0 0 Q := by
  generalize hb : e + 1 - n = b
  have heb : e + 1 = n + b := by omega
  have key : ∀ k m : Nat, m + k = n → (∀ j, j < m → ¬ I 68 (b + j) = -1) → ZW G mX8_agreeAt fX8_agreeAt lX8_agreeAt 6 [zo G 67, .int (nI t), .int (nI n), .int (nI e), .int (nI (zcnt (zagp (I 68) (I 70) t b) m)), .int (nI m), .null] [] S I L 0 0 Q := by
    intro k
    induction k with
    | zero =>
      intro m hm h1
      have : m = n := by omega
      subst this
      refine vX8_agreeAt_6 hS ⟨fun _ => ?_, fun hc => absurd (Int32.le_refl _) hc⟩
      unfold zagr at h
      rw [hb, if_neg] at h
      · exact h
      · rintro (q | q | q)
        · omega
        · omega
        · obtain ⟨i, i1, i2⟩ := zagn_iff.mp q
          exact h1 i i1 i2
    | succ k ih =>
      intro m hm h1
      have p1 : p_X11_pick I 68 200 ((nI e - nI n + 1) + nI m) = I 68 (b + m) := by rw [zx_b heb, pick_in (by omega) (by decide)]
      refine vX8_agreeAt_6 hS ⟨fun hc => absurd hc (nI_ge (by omega) (by omega)), fun _ => ?_⟩
      rw [p1]
      refine ⟨fun c => ?_, fun c => ?_⟩
      · have h2 : ∀ j, j < m + 1 → ¬ I 68 (b + j) = -1 := fun j hj => by
          rcases (by omega : j < m ∨ j = m) with q | rfl
          · exact h1 j q
          · exact c
        have nx := ih (m + 1) (by omega) h2
        rw [zcnt_succ, ← nI_1 m] at nx
        refine ⟨fun d => ?_, fun d => ?_⟩
        · have : m = 0 := by
            have := zle.mp d
            rw [znI (by omega), show (0 : Int32).toInt = 0 from rfl] at this
            omega
          subst this
          rw [if_neg (by unfold zagp; simp)] at nx
          exact nx
        · have hm0 : 0 < m := by
            rcases Nat.eq_zero_or_pos m with q | q
            · subst q
              exact absurd (by decide) d
            · exact q
          have p2 : p_X11_pick I 68 200 ((nI e - nI n + 1) + nI m - 1) = I 68 (b + m - 1) := by rw [zx_b heb, zx_m (by omega), pick_in (by omega) (by decide)]
          have p3 : p_X8_wayTo I (nI t) (nI m) = p_X8_way (I 70 (24 * t + m - 1)) (I 70 (24 * t + m)) := by
            unfold p_X8_wayTo
            rw [zx_t, nI_add, zx_m (by omega), pick_in (by omega) (by decide), pick_in (by omega) (by decide)]
          rw [p2, p3]
          refine ⟨fun w => ?_, fun w => ?_⟩
          · rw [if_neg (by unfold zagp; simp [hm0, w])] at nx
            exact nx
          · rw [if_pos (by unfold zagp; simp [hm0, w])] at nx
            rw [nI_1]
            exact nx
      · unfold zagr at h
        rw [hb, if_pos (Or.inr (Or.inr (zagn_iff.mpr ⟨m, by omega, c⟩)))] at h
        exact h
  exact ZC.of' (vX8_agreeAt_0 hS (key n 0 (by omega) (fun j hj => absurd hj (Nat.not_lt_zero _)))) rfl (Nat.le_of_ble_eq_true rfl) rfl
theorem m_agree {G : Gp} {Q : zPost} {S : zSh} {I : zFI} {L : zFL} {t n e nn : Nat} (hS : zStd S) (hR : iRng I nn) (ht : t < 16) (hn : n ≤ 24) (hn2 : 2 ≤ n) (hn3 : nI n ≤ I 69 t) (he2 : e < 200) (h : Q (some (.int (zagr (I 68) (I 70) t n e))) S I L) : ZC G mX12_agree fX12_agree lX12_agree [zo G 84, .int (nI t), .int (nI n), .int (nI e)] S I L 0 0 Q := by
  obtain ⟨r1, r2⟩ := hR
  obtain ⟨s1, s2, s3, s4, s5, s6, s7, s8, s9⟩ := r2 t ht
  refine ZC.of' (vX12_agree_0 hS ⟨fun c => ?_, fun c => ?_⟩) rfl (Nat.le_of_ble_eq_true rfl) rfl
  · have he : n ≤ e + 1 := by
      have h1 : (nI e - nI n).toInt = (e : Int) - n := pk_sub_toInt (by omega) (by omega)
      have := zle.mp c
      rw [zinc (by omega), h1, show (0 : Int32).toInt = 0 from rfl] at this
      omega
    generalize hb : e + 1 - n = b
    have heb : e + 1 = n + b := by omega
    have e0 : nI e - nI n + 1 = nI b := by
      have := zx_b heb 0
      rw [nI_0, Nat.add_zero] at this
      rw [← this]
      lia
    rw [e0]
    have cnt : (∀ i, i < n → ¬ I 68 (b + i) = -1) → ∀ k m : Nat, m + k = n → 0 < m → ZW G mX12_agree fX12_agree lX12_agree 47 [zo G 84, .int (nI t), .int (nI n), .int (nI e), .int (nI (zcnt (zagp (I 68) (I 70) t b) m)), .int (nI m)] [] S I L 0 0 Q := by
      intro all k
      induction k with
      | zero =>
        intro m hm hm0
        have : m = n := by omega
        subst this
        refine vX12_agree_47 hS ⟨fun _ => ?_, fun hc => absurd (Int32.le_refl _) hc⟩
        unfold zagr at h
        rw [hb, if_neg] at h
        · exact h
        · rintro (q | q | q)
          · omega
          · omega
          · obtain ⟨i, i1, i2⟩ := zagn_iff.mp q
            exact all i i1 i2
      | succ k ih =>
        intro m hm hm0
        have nx := ih (m + 1) (by omega) (by omega)
        rw [zcnt_succ, ← nI_1 m] at nx
        have x1 : (24 * nI t + nI m - 1 : Int32) = nI (24 * t + m - 1) := by rw [zx_t2, nI_add, zx_m (by omega)]
        have x2 : (24 * nI t + nI m : Int32) = nI (24 * t + m) := by rw [zx_t2, nI_add]
        have x4 : (nI e - nI n + 1 + nI m : Int32) = nI (b + m) := by rw [e0, nI_add]
        have x3 : (nI e - nI n + nI m : Int32) = nI (b + m - 1) := by
          rw [← zx_m (by omega), ← x4]
          lia
        refine vX12_agree_47 hS ⟨fun hc => absurd hc (nI_ge (by omega) (by omega)), fun _ => ?_⟩
        rw [x1, x2, x3, x4]
        refine ⟨znIin (by omega) (by decide), znIin (by omega) (by decide), znIin (by omega) (by decide), znIin (by omega) (by decide), ?_⟩
        rw [znIc (by omega), znIc (by omega), znIc (by omega), znIc (by omega), goes_way, goes_way]
        have w1 := (s9 m (Int32.lt_of_lt_of_le (nI_lt (by omega) (by omega)) hn3) (by omega)).1
        have w2 := (s9 (m - 1) (Int32.lt_of_lt_of_le (nI_lt (show m - 1 < n by omega) (by omega)) hn3) (by omega)).1
        rw [show 24 * t + (m - 1) = 24 * t + m - 1 by omega] at w2
        have y1 := (r1 (b + m) (by omega)).2.2.1 (all m (by omega))
        have y2 := (r1 (b + m - 1) (by omega)).2.2.1 (by have := all (m - 1) (by omega); rw [show b + (m - 1) = b + m - 1 by omega] at this; exact this)
        rw [w1, w2, y1, y2]
        refine ⟨fun w => ?_, fun w => ?_⟩
        · rw [if_neg (by unfold zagp; simp only [hm0, decide_true, Bool.true_and, decide_eq_true_eq]; exact fun q => w q.symm)] at nx
          exact nx
        · rw [if_pos (by unfold zagp; simp only [hm0, decide_true, Bool.true_and, decide_eq_true_eq]; exact w.symm)] at nx
          rw [nI_1]
          exact nx
    have key : ∀ k m : Nat, m + k = n → (∀ j, j < m → ¬ I 68 (b + j) = -1) → ZW G mX12_agree fX12_agree lX12_agree 17 [zo G 84, .int (nI t), .int (nI n), .int (nI e), .int (nI (b + m)), .null] [] S I L 0 0 Q := by
      intro k
      induction k with
      | zero =>
        intro m hm h1
        have : m = n := by omega
        subst this
        refine vX12_agree_17 hS ⟨fun _ => ?_, fun hc => absurd (nI_lt (by omega) (by omega)) hc⟩
        have := cnt h1 (m - 1) 1 (by omega) (by omega)
        rw [zcnt_succ, if_neg (by unfold zagp; simp)] at this
        exact this
      | succ k ih =>
        intro m hm h1
        obtain ⟨y1, y2, y3, y4, y5⟩ := r1 (b + m) (by omega)
        refine vX12_agree_17 hS ⟨fun hc => absurd hc (nI_nlt (by omega) (by omega)), fun _ => ⟨znIin (by omega) (by decide), ?_⟩⟩
        rw [znIc (by omega)]
        refine ⟨fun c => ?_, fun c => ?_⟩
        · rw [nI_1, Nat.add_assoc]
          refine ih (m + 1) (by omega) (fun j hj => ?_)
          rcases (by omega : j < m ∨ j = m) with q | rfl
          · exact h1 j q
          · exact fun q => c (y2.mpr q)
        · unfold zagr at h
          rw [hb, if_pos (Or.inr (Or.inr (zagn_iff.mpr ⟨m, by omega, y2.mp c⟩)))] at h
          exact h
    have := key n 0 (by omega) (fun j hj => absurd hj (Nat.not_lt_zero _))
    rw [Nat.add_zero] at this
    exact this
  · have he : e + 1 < n := by
      have h1 : (nI e - nI n).toInt = (e : Int) - n := pk_sub_toInt (by omega) (by omega)
      have : ¬ (0 : Int) ≤ (nI e - nI n + 1).toInt := fun q => c (zle.mpr q)
      rw [zinc (by omega), h1] at this
      omega
    unfold zagr at h
    rw [if_pos (Or.inr (Or.inl he))] at h
    exact h
