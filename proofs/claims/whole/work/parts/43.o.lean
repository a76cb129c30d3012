theorem zlead_mono {p : Nat → Bool} {n k : Nat} (hm : ∀ i k, i ≤ k → k < n → p k = true → p i = true) (hk : k < n) : p k = true ↔ k < zlead p n := by
  constructor
  · intro h
    rcases Nat.lt_or_ge k (zlead p n) with q | q
    · exact q
    · exfalso
      have h1 := zlead_np p n (by omega)
      rw [hm _ k q hk h] at h1
      cases h1
  · exact zlead_p p n k
theorem zcnt_lead {p q : Nat → Bool} {n : Nat} (hm : ∀ i k, i ≤ k → k < n → p k = true → p i = true) : zcnt (fun k => p k && q k) n = zcnt q (zlead p n) := by
  have key : ∀ m, m ≤ n → zcnt (fun k => p k && q k) m = zcnt q (min m (zlead p n)) := by
    intro m
    induction m with
    | zero => intro _; rw [Nat.zero_min]; rfl
    | succ m ih =>
      intro h
      rw [zcnt_succ, ih (by omega)]
      have hp := zlead_mono hm (show m < n by omega)
      rcases Nat.lt_or_ge m (zlead p n) with c | c
      · rw [hp.mpr c, show min m (zlead p n) = m by omega, show min (m + 1) (zlead p n) = m + 1 by omega, zcnt_succ]
        rfl
      · have e : p m = false := by
          cases hq : p m with
          | false => rfl
          | true => exact absurd (hp.mp hq) (by omega)
        rw [e, show min m (zlead p n) = zlead p n by omega, show min (m + 1) (zlead p n) = zlead p n by omega]
        rfl
  rw [key n (Nat.le_refl _), Nat.min_eq_right (zlead_le p n)]
theorem zcnt_all (n : Nat) : zcnt (fun _ => true) n = n := by
  induction n with
  | zero => rfl
  | succ n ih => rw [zcnt_succ, if_pos rfl, ih]
theorem zcnt_mono {p : Nat → Bool} {n : Nat} (hm : ∀ i k, i ≤ k → k < n → p k = true → p i = true) : zcnt p n = zlead p n := by
  have := zcnt_lead (q := fun _ => true) hm
  rw [zcnt_all] at this
  rw [← this]
  exact zcnt_congr (fun k _ => (Bool.and_true _).symm)
/-- how many timbers, joints are seen -/
def zsn (I : zFI) (n : Nat) : Nat := zlead (fun k => decide (I 13 k ≤ p_X11_lastDaySeen I)) n
def zsj (I : zFI) (jn : Nat) : Nat := zlead (fun k => decide (I 18 k ≤ p_X11_lastDaySeen I)) jn
theorem zsn_lt {I : zFI} {n k : Nat} (h : iTim I n) (hk : k < n) : I 13 k ≤ p_X11_lastDaySeen I ↔ k < zsn I n := by
  have := zlead_mono (p := fun k => decide (I 13 k ≤ p_X11_lastDaySeen I)) (n := n) (k := k) (fun i j h1 h2 h3 => decide_eq_true (Int32.le_trans (h.2.2.2.2 i j h1 h2) (of_decide_eq_true h3))) hk
  rw [decide_eq_true_iff] at this
  exact this
theorem zsj_lt {I : zFI} {n jn k : Nat} (h : iJnt I n jn) (hk : k < jn) : I 18 k ≤ p_X11_lastDaySeen I ↔ k < zsj I jn := by
  have := zlead_mono (p := fun k => decide (I 18 k ≤ p_X11_lastDaySeen I)) (n := jn) (k := k) (fun i j h1 h2 h3 => decide_eq_true (Int32.le_trans (h.2.2.2.2.1 i j h1 h2) (of_decide_eq_true h3))) hk
  rw [decide_eq_true_iff] at this
  exact this
theorem zsn_le (I : zFI) (n : Nat) : zsn I n ≤ n := zlead_le _ _
theorem zsj_le (I : zFI) (n : Nat) : zsj I n ≤ n := zlead_le _ _
/-- Timbers.timbersUpTo -/
theorem c_timbersUpTo {G : Gp} {Q : zPost} {S : zSh} {I : zFI} {L : zFL} {d : Int32} {n : Nat} (hS : zStd S) (hn : I 10 0 = nI n) (hn2 : n ≤ 16) (h : Q (some (.int (nI (zlead (fun k => decide (I 13 k ≤ d)) n)))) S I L) : ZC G mX10_timbersUpTo fX10_timbersUpTo lX10_timbersUpTo [zo G 10, .int d] S I L 0 0 Q := by
  have key : ∀ k m : Nat, m + k = n → (∀ j, j < m → I 13 j ≤ d) → ZW G mX10_timbersUpTo fX10_timbersUpTo lX10_timbersUpTo 2 [zo G 10, .int d, .int (nI m)] [] S I L 0 0 Q := by
    intro k
    induction k with
    | zero =>
      intro m hm h1
      have : m = n := by omega
      subst this
      have e : zlead (fun k => decide (I 13 k ≤ d)) m = m := zlead_eq (Nat.le_refl _) (fun j hj => decide_eq_true (h1 j hj)) (fun q => absurd q (Nat.lt_irrefl _))
      rw [e] at h
      refine vX10_timbersUpTo_2 hS ⟨fun _ => h, fun hc => ?_⟩
      rw [hn] at hc
      exact absurd (Int32.le_refl _) hc
    | succ k ih =>
      intro m hm h1
      have hcl : (nI m).toNatClampNeg = m := znIc (by omega)
      refine vX10_timbersUpTo_2 hS ⟨fun hc => ?_, fun _ => ⟨fun hc => absurd hc (show ¬ (16 : Int32) ≤ nI m from nI_ge (b := 16) (by omega) (by omega)), fun _ => ⟨znIin (by omega) (by decide), fun hc => ?_, fun hc => ?_⟩⟩⟩
      · rw [hn] at hc
        exact absurd hc (nI_ge (by omega) (by omega))
      · rw [hcl] at hc
        have e : zlead (fun k => decide (I 13 k ≤ d)) n = m := zlead_eq (by omega) (fun j hj => decide_eq_true (h1 j hj)) (fun _ => decide_eq_false (Int32.not_le.mpr hc))
        rw [e] at h
        exact h
      · rw [hcl] at hc
        rw [nI_1]
        refine ih (m + 1) (by omega) (fun j hj => ?_)
        rcases (by omega : j < m ∨ j = m) with q | rfl
        · exact h1 j q
        · exact Int32.not_lt.mp hc
  exact ZC.of' (vX10_timbersUpTo_0 hS (key n 0 (by omega) (fun j hj => absurd hj (Nat.not_lt_zero _)))) rfl (Nat.le_of_ble_eq_true rfl) rfl
/-- Timbers.jointsUpTo -/
theorem c_jointsUpTo {G : Gp} {Q : zPost} {S : zSh} {I : zFI} {L : zFL} {d : Int32} {n : Nat} (hS : zStd S) (hn : I 10 4 = nI n) (hn2 : n ≤ 48) (h : Q (some (.int (nI (zlead (fun k => decide (I 18 k ≤ d)) n)))) S I L) : ZC G mX10_jointsUpTo fX10_jointsUpTo lX10_jointsUpTo [zo G 10, .int d] S I L 0 0 Q := by
  have key : ∀ k m : Nat, m + k = n → (∀ j, j < m → I 18 j ≤ d) → ZW G mX10_jointsUpTo fX10_jointsUpTo lX10_jointsUpTo 2 [zo G 10, .int d, .int (nI m)] [] S I L 0 0 Q := by
    intro k
    induction k with
    | zero =>
      intro m hm h1
      have : m = n := by omega
      subst this
      have e : zlead (fun k => decide (I 18 k ≤ d)) m = m := zlead_eq (Nat.le_refl _) (fun j hj => decide_eq_true (h1 j hj)) (fun q => absurd q (Nat.lt_irrefl _))
      rw [e] at h
      refine vX10_jointsUpTo_2 hS ⟨fun _ => h, fun hc => ?_⟩
      rw [hn] at hc
      exact absurd (Int32.le_refl _) hc
    | succ k ih =>
      intro m hm h1
      have hcl : (nI m).toNatClampNeg = m := znIc (by omega)
      refine vX10_jointsUpTo_2 hS ⟨fun hc => ?_, fun _ => ⟨fun hc => absurd hc (show ¬ (48 : Int32) ≤ nI m from nI_ge (b := 48) (by omega) (by omega)), fun _ => ⟨znIin (by omega) (by decide), fun hc => ?_, fun hc => ?_⟩⟩⟩
      · rw [hn] at hc
        exact absurd hc (nI_ge (by omega) (by omega))
      · rw [hcl] at hc
        have e : zlead (fun k => decide (I 18 k ≤ d)) n = m := zlead_eq (by omega) (fun j hj => decide_eq_true (h1 j hj)) (fun _ => decide_eq_false (Int32.not_le.mpr hc))
        rw [e] at h
        exact h
      · rw [hcl] at hc
        rw [nI_1]
        refine ih (m + 1) (by omega) (fun j hj => ?_)
        rcases (by omega : j < m ∨ j = m) with q | rfl
        · exact h1 j q
        · exact Int32.not_lt.mp hc
  exact ZC.of' (vX10_jointsUpTo_0 hS (key n 0 (by omega) (fun j hj => absurd hj (Nat.not_lt_zero _)))) rfl (Nat.le_of_ble_eq_true rfl) rfl
theorem c_timbersSeen {G : Gp} {Q : zPost} {S : zSh} {I : zFI} {L : zFL} {n : Nat} (hS : zStd S) (hT : iTim I n) (h : Q (some (.int (nI (zsn I n)))) S I L) : ZC G mX11_timbersSeen fX11_timbersSeen lX11_timbersSeen [zo G 0] S I L 0 0 Q :=
  ZC.of' (vX11_timbersSeen_0 hS (c_timbersUpTo hS hT.1 hT.2.1 ⟨_, rfl, rfl, h⟩)) rfl (Nat.le_of_ble_eq_true rfl) rfl
theorem c_jointsSeen {G : Gp} {Q : zPost} {S : zSh} {I : zFI} {L : zFL} {n jn : Nat} (hS : zStd S) (hJ : iJnt I n jn) (h : Q (some (.int (nI (zsj I jn)))) S I L) : ZC G mX11_jointsSeen fX11_jointsSeen lX11_jointsSeen [zo G 0] S I L 0 0 Q :=
  ZC.of' (vX11_jointsSeen_0 hS (c_jointsUpTo hS hJ.1 hJ.2.1 ⟨_, rfl, rfl, h⟩)) rfl (Nat.le_of_ble_eq_true rfl) rfl
theorem c_isTimber {G : Gp} {Q : zPost} {S : zSh} {I : zFI} {L : zFL} {v : Int32} {n : Nat} (hS : zStd S) (hT : iTim I n) (h1 : ∀ t, t < zsn I n → v = nI t → Q (some (.int 1)) S I L) (h0 : ¬ (0 ≤ v ∧ v < nI (zsn I n)) → Q (some (.int 0)) S I L) : ZC G mX11_isTimber fX11_isTimber lX11_isTimber [zo G 0, .int v] S I L 0 0 Q := by
  have hle := zsn_le I n
  have hn := hT.2.1
  refine ZC.of' (vX11_isTimber_0 hS ⟨fun hc => h0 (fun q => Int32.not_le.mpr hc q.1), fun hc => c_timbersSeen hS hT ⟨_, rfl, rfl, fun hd => h0 (fun q => Int32.not_le.mpr q.2 hd), fun hd => ?_⟩⟩) rfl (Nat.le_of_ble_eq_true rfl) rfl
  obtain ⟨t, t1, t2, t3⟩ := zi_of ⟨Int32.not_lt.mp hc, Int32.not_le.mp hd⟩ (N := 16) (by omega) (by decide)
  exact h1 t t1 t2
theorem c_isJoint {G : Gp} {Q : zPost} {S : zSh} {I : zFI} {L : zFL} {v : Int32} {n jn : Nat} (hS : zStd S) (hJ : iJnt I n jn) (h1 : ∀ t, t < zsj I jn → v = nI t → Q (some (.int 1)) S I L) (h0 : ¬ (0 ≤ v ∧ v < nI (zsj I jn)) → Q (some (.int 0)) S I L) : ZC G mX11_isJoint fX11_isJoint lX11_isJoint [zo G 0, .int v] S I L 0 0 Q := by
  have hle := zsj_le I jn
  have hn := hJ.2.1
  refine ZC.of' (vX11_isJoint_0 hS ⟨fun hc => h0 (fun q => Int32.not_le.mpr hc q.1), fun hc => c_jointsSeen hS hJ ⟨_, rfl, rfl, fun hd => h0 (fun q => Int32.not_le.mpr q.2 hd), fun hd => ?_⟩⟩) rfl (Nat.le_of_ble_eq_true rfl) rfl
  obtain ⟨t, t1, t2, t3⟩ := zi_of ⟨Int32.not_lt.mp hc, Int32.not_le.mp hd⟩ (N := 48) (by omega) (by decide)
  exact h1 t t1 t2
/-- the model's sight is the class's -/
theorem seen_0 {I : zFI} (h : iNow I) {x : Int32} (hx : x ≤ I 0 14) : p_X12_isSeen I x = 0 ↔ ¬ x ≤ p_X11_lastDaySeen I := by
  obtain ⟨a1, a2, a3, a4, a5, a6⟩ := h
  unfold p_X12_isSeen p_X11_lastDaySeen
  rw [a6]
  by_cases c : I 0 15 = -1
  · rw [if_pos c, if_pos c]
    exact ⟨fun q => absurd q (by decide), fun q => absurd (Int32.le_trans hx a2) q⟩
  · rw [if_neg c, if_neg c]
    by_cases d : I 0 15 < x
    · rw [if_pos d]
      exact ⟨fun _ => Int32.not_le.mpr d, fun _ => rfl⟩
    · rw [if_neg d]
      exact ⟨fun q => absurd q (by decide), fun q => absurd (Int32.not_lt.mp d) q⟩
theorem mTim_0 {I : zFI} {n : Nat} {v : Int32} (hN : iNow I) (hT : iTim I n) : p_X12_isTimber I v = 0 ↔ ¬ (0 ≤ v ∧ v < nI (zsn I n)) := by
  have hle := zsn_le I n
  obtain ⟨t1, t2, t3, t4, t5⟩ := id hT
  unfold p_X12_isTimber
  rw [t3]
  by_cases c : v < 0
  · rw [if_pos c]
    exact ⟨fun _ q => Int32.not_le.mpr c q.1, fun _ => rfl⟩
  · rw [if_neg c]
    by_cases d : nI n ≤ v
    · rw [if_pos d]
      exact ⟨fun _ q => Int32.not_le.mpr (Int32.lt_of_lt_of_le q.2 (by rw [nI_leI (by omega) (by omega)]; exact hle)) d, fun _ => rfl⟩
    · rw [if_neg d]
      obtain ⟨t, u1, u2', u3⟩ := zi_of ⟨Int32.not_lt.mp c, Int32.not_le.mp d⟩ t2 (by decide)
      obtain ⟨b1, b2, b3, b4, b5, b6, b7, b8, b9⟩ := t4 t u1
      have e := seen_0 hN b9
      have f := zsn_lt hT u1
      rw [u3, b3]
      rw [u2'] at c ⊢
      rw [nI_ltI (by omega) (by omega), ← f]
      by_cases g : p_X12_isSeen I (I 13 t) = 0
      · rw [if_pos g]
        exact ⟨fun _ q => e.mp g q.2, fun _ => rfl⟩
      · rw [if_neg g]
        refine ⟨fun q => absurd q (by decide), fun q => ?_⟩
        exact absurd (e.mpr (fun w => q ⟨Int32.not_lt.mp c, w⟩)) g
theorem mJnt_0 {I : zFI} {n jn : Nat} {v : Int32} (hN : iNow I) (hT : iJnt I n jn) : p_X12_isJoint I v = 0 ↔ ¬ (0 ≤ v ∧ v < nI (zsj I jn)) := by
  have hle := zsj_le I jn
  obtain ⟨t1, t2, t3, t4, t5, t6⟩ := id hT
  unfold p_X12_isJoint
  rw [t3]
  by_cases c : v < 0
  · rw [if_pos c]
    exact ⟨fun _ q => Int32.not_le.mpr c q.1, fun _ => rfl⟩
  · rw [if_neg c]
    by_cases d : nI jn ≤ v
    · rw [if_pos d]
      exact ⟨fun _ q => Int32.not_le.mpr (Int32.lt_of_lt_of_le q.2 (by rw [nI_leI (by omega) (by omega)]; exact hle)) d, fun _ => rfl⟩
    · rw [if_neg d]
      obtain ⟨t, u1, u2', u3⟩ := zi_of ⟨Int32.not_lt.mp c, Int32.not_le.mp d⟩ t2 (by decide)
      obtain ⟨b1, b2, b3, b4, b5, b6, b7, b8, b9, b10, b11, b12, b13, b14⟩ := t4 t u1
      have e := seen_0 hN b14
      have f := zsj_lt hT u1
      rw [u3, b5]
      rw [u2'] at c ⊢
      rw [nI_ltI (by omega) (by omega), ← f]
      by_cases g : p_X12_isSeen I (I 18 t) = 0
      · rw [if_pos g]
        exact ⟨fun _ q => e.mp g q.2, fun _ => rfl⟩
      · rw [if_neg g]
        refine ⟨fun q => absurd q (by decide), fun q => ?_⟩
        exact absurd (e.mpr (fun w => q ⟨Int32.not_lt.mp c, w⟩)) g
