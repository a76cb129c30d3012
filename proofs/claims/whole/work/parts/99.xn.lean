/-! the class's reading of lines -/
theorem tkc {T : Nat → Int32} {m : Nat} {lo hi lo' hi' : Int32} (hdec : ∀ k : Fin 18, (lo ≤ nI (zPs k.1) ∧ nI (zPs k.1) ≤ hi) ↔ (lo' ≤ nI k.1 ∧ nI k.1 ≤ hi')) : (zTK T m = 1 ∧ lo ≤ nI (zPs (zTV T m).toNatClampNeg) ∧ nI (zPs (zTV T m).toNatClampNeg) ≤ hi) ↔ zwf1 (zTK T) (zTV T) lo' hi' m = 0 := by
  unfold zwf1
  by_cases h : zTK T m = 1
  · obtain ⟨k, hk, e⟩ := tk_word T m h
    have ek : (zTV T m).toNatClampNeg = k := by rw [e]; exact znIc (by omega)
    have := hdec ⟨k, hk⟩
    rw [ek, e]
    constructor
    · intro y
      rw [if_pos ⟨h, this.mp y.2⟩]
    · intro y
      split at y
      · next c => exact ⟨h, this.mpr c.2⟩
      · exact absurd y (by decide)
  · constructor
    · intro y
      exact absurd y.1 h
    · intro y
      rw [if_neg (fun c => h c.1)] at y
      exact absurd y (by decide)
theorem zwf1_01 (K V : Nat → Int32) (lo hi : Int32) (m : Nat) (h : ¬ zwf1 K V lo hi m = 0) : zwf1 K V lo hi m = 1 := by
  unfold zwf1 at h ⊢
  split
  · next c => exact absurd (if_pos c) h
  · rfl
theorem znf_3 (K V : Nat → Int32) (lo hi : Int32) (m : Nat) : znf K V lo hi m ≤ 3 := by
  unfold znf
  split
  · split <;> omega
  · omega
theorem nI_nz3 {f : Nat} (h : ¬ f = 0) (h3 : f ≤ 3) : ¬ nI f = 0 := by
  have : f = 1 ∨ f = 2 ∨ f = 3 := by omega
  rcases this with e | e | e <;> subst e <;> decide
/-- a fault of a piece of a line -/
theorem zLq.bad {I J : zFI} {T : Nat → Int32} {N d f m : Nat} {R : Nat → Int32} (hf : ¬ f = 0) (h3 : f ≤ 3) (e1 : ∀ b, b ≠ 3 → b ≠ d → J b = I b) (e2 : ∀ k, k ≠ 4 → k ≠ 5 → k ≠ 6 → J 3 k = I 3 k) (e5 : J 3 5 = nI f) (e6 : J 3 6 = nI (zps_ T m)) : zLq I J T N d (f, m, R) :=
  ⟨e1, e2, fun y => absurd y hf, fun _ => ⟨h3, e5, e6⟩⟩
theorem zLq.good {I J : zFI} {T : Nat → Int32} {N d m m' : Nat} {R : Nat → Int32} (z : zPq I T N m) (hd : d ≠ 3 ∧ d ≠ 4 ∧ d ≠ 5 ∧ d ≠ 6) (e1 : ∀ b, b ≠ 3 → b ≠ d → J b = I b) (e2 : ∀ k, k ≠ 4 → J 3 k = I 3 k) (h5 : I 3 5 = 0) (em : J 3 4 = nI m') (h1 : m' ≤ N) (h2 : m' ≤ 200) (er : ∀ k, k < 11 → J d k = R k) : zLq I J T N d (0, m', R) :=
  ⟨e1, fun k k4 _ _ => e2 k k4, fun _ => ⟨(e2 5 (by decide)).trans h5, e2 6 (by decide), z.fr (e2 3 (by decide)) (e1 4 (by decide) hd.2.1.symm) (e1 5 (by decide) hd.2.2.1.symm) (e1 6 (by decide) hd.2.2.2.symm) em h1 h2, er⟩, fun y => absurd rfl y⟩
/-- the pieces of a line follow each other -/
theorem zLq.of {I I' J : zFI} {T : Nat → Int32} {N d : Nat} {r : zRe} (h : zLq I' J T N d r) (e1 : ∀ b, b ≠ 3 → b ≠ d → I' b = I b) (e2 : ∀ k, k ≠ 4 → k ≠ 5 → k ≠ 6 → I' 3 k = I 3 k) (e6 : I' 3 6 = I 3 6) : zLq I J T N d r :=
  ⟨fun b b1 b2 => (h.1 b b1 b2).trans (e1 b b1 b2), fun k k1 k2 k3 => (h.2.1 k k1 k2 k3).trans (e2 k k1 k2 k3), fun y => ⟨(h.2.2.1 y).1, (h.2.2.1 y).2.1.trans e6, (h.2.2.1 y).2.2⟩, h.2.2.2⟩
theorem u2_up {I : zFI} {R : Nat → Int32} {d k : Nat} {v : Int32} (h : ∀ j, j < 11 → I d j = R j) : ∀ j, j < 11 → u2 I d k v d j = up1 R k v j := fun j hj => by
  unfold u2 up1
  by_cases e : j = k
  · rw [if_pos ⟨rfl, e⟩, if_pos e]
  · rw [if_neg (fun y => e y.2), if_neg e]; exact h j hj
theorem c_rn1 {G : Gp} {Q : zPost} {S : zSh} {I : zFI} {L : zFL} {T : Nat → Int32} {N m d k : Nat} {lo hi : Int32} {R : Nat → Int32} (hS : zStd S) (z : zPq I T N m) (h5 : I 3 5 = 0) (hd : d ≠ 3 ∧ d ≠ 4 ∧ d ≠ 5 ∧ d ≠ 6) (hm : m + 1 ≤ 200) (hR : ∀ k, k < 11 → I d k = R k) (q : ∀ J, zLq I J T N d (znr (zTK T) (zTV T) R k lo hi m) → Q none S J L) : ZC G mX2_readNumber fX2_readNumber lX2_readNumber [zo G 3, .int lo, .int hi] S I L 0 0 (fun w S' I1 L1 => ∃ r1 : Int32, w = some (.int r1) ∧ S = S' ∧ Q none S (u2 I1 d k r1) L1) := by
  refine c_readNumber hS z h5 (fun y y2 => ⟨_, rfl, rfl, q _ ?_⟩) (fun y => ⟨_, rfl, rfl, q _ ?_⟩)
  · have lt : m < N := z.tok.2.2.2.2 (by rw [y2]; decide)
    unfold znr
    rw [if_pos y]
    exact zLq.good z hd (fun b b1 b2 => by rw [← u2_row _ _ _ _ b2, ← u2_row _ _ _ _ b1]) (fun j j4 => by rw [← u2_row _ _ _ _ hd.1.symm, u2_ne _ _ _ _ (fun y => j4 y.2)]) h5 (by rw [← u2_row _ _ _ _ hd.1.symm, u2_same]) lt hm (u2_up (fun j hj => by rw [← u2_row _ _ _ _ hd.1]; exact hR j hj))
  · unfold znr
    rw [if_neg y]
    exact zLq.bad y (znf_3 _ _ _ _ _) (fun b b1 b2 => by rw [← u2_row _ _ _ _ b2, ← u2_row _ _ _ _ b1, ← u2_row _ _ _ _ b1]) (fun j j4 j5 j6 => by rw [← u2_row _ _ _ _ hd.1.symm, u2_ne _ _ _ _ (fun y => j6 y.2), u2_ne _ _ _ _ (fun y => j5 y.2)]) (by rw [← u2_row _ _ _ _ hd.1.symm, u2_ne _ _ _ _ (by decide), u2_same]) (by rw [← u2_row _ _ _ _ hd.1.symm, u2_same])
theorem zLq.bad0 {I J I' : zFI} {T : Nat → Int32} {N d f m : Nat} {R : Nat → Int32} (hf : ¬ f = 0) (h3 : f ≤ 3) (hd : d ≠ 3) (e : I' = u2 (u2 I 3 5 (nI f)) 3 6 (nI (zps_ T m))) (e1 : ∀ b, b ≠ 3 → b ≠ d → J b = I' b) (e2 : ∀ k, k ≠ 4 → J 3 k = I' 3 k) : zLq I J T N d (f, m, R) := by
  subst e
  exact zLq.bad hf h3 (fun b b1 b2 => by rw [e1 b b1 b2, ← u2_row _ _ _ _ b1, ← u2_row _ _ _ _ b1]) (fun j j4 j5 j6 => by rw [e2 j j4, u2_ne _ _ _ _ (fun y => j6 y.2), u2_ne _ _ _ _ (fun y => j5 y.2)]) (by rw [e2 5 (by decide), u2_ne _ _ _ _ (by decide), u2_same]) (by rw [e2 6 (by decide), u2_same])
/-- the rule behind a line's first word -/
theorem c_readRule {G : Gp} {Q : zPost} {S : zSh} {I : zFI} {L : zFL} {T : Nat → Int32} {N n d v : Nat} {R : Nat → Int32} (hS : zStd S) (z : zPq I T N (n + 1)) (h5 : I 3 5 = 0) (hd : zCu d) (hn : n + 4 ≤ 200) (hR : ∀ k, k < 11 → I d k = R k) (hv : zTV T n = nI v) (v4 : 4 ≤ v) (v11 : v ≤ 11) (q : ∀ J, zLq I J T N d (zbd (zTK T) (zTV T) R n) → Q none S J L) : ZC G mX2_readRule fX2_readRule lX2_readRule [zo G 3, zo G d, .int (nI (zPs v))] S I L 0 0 Q := by
  have dn : d ≠ 3 ∧ d ≠ 4 ∧ d ≠ 5 ∧ d ≠ 6 := by
    rcases hd with e | e | e <;> subst e <;> decide
  have num : ∀ (k : Nat) (lo hi : Int32), zbd (zTK T) (zTV T) R n = znr (zTK T) (zTV T) R k lo hi (n + 1) → ZC G mX2_readNumber fX2_readNumber lX2_readNumber [zo G 3, .int lo, .int hi] S I L 0 0 (fun w S' I1 L1 => ∃ r1 : Int32, w = some (.int r1) ∧ S = S' ∧ Q none S (u2 I1 d k r1) L1) := fun k lo hi e =>
    c_rn1 hS z h5 dn (by omega) hR (fun J h => q J (by rw [e]; exact h))
  refine ZC.of' (vX2_readRule_0 hS hd ?_) rfl (Nat.le_of_ble_eq_true rfl) rfl
  have vv : v = 4 ∨ v = 5 ∨ v = 6 ∨ v = 7 ∨ v = 8 ∨ v = 9 ∨ v = 10 ∨ v = 11 := by omega
  have no : ∀ {P : Prop} {a b : Int32}, (a ≠ b) → (a = b → P) := fun h y => absurd y h
  have bv : ∀ {x : zRe}, zbd (zTK T) (zTV T) R n = x → zbd (zTK T) (zTV T) R n = x := fun y => y
  rcases vv with e | e | e | e | e | e | e | e <;> subst e
  · refine ⟨fun _ => ?_, no (by decide), no (by decide), no (by decide), no (by decide), no (by decide), no (by decide), no (by decide), no (by decide), no (by decide), no (by decide), no (by decide), fun y => absurd rfl y⟩
    have eb : zbd (zTK T) (zTV T) R n = if zwf1 (zTK T) (zTV T) 12 14 (n + 1) = 0 then (0, n + 2, up1 R 0 (zTV T (n + 1) - 11)) else (1, n + 1, R) := by unfold zbd; rw [hv]; rfl
    rw [eb] at q
    have tc := @tkc T (n + 1) 1 3 12 14 (by decide)
    refine c_readWord hS z h5 (fun y1 y2 y3 => ⟨_, rfl, rfl, q _ ?_⟩) (fun y => ⟨_, rfl, rfl, q _ ?_⟩)
    · rw [if_pos (tc.mp ⟨y1, y2, y3⟩)]
      have lt : n + 1 < N := z.tok.2.2.2.2 (by rw [y1]; decide)
      refine zLq.good z dn (fun b b1 b2 => by rw [← u2_row _ _ _ _ b2, ← u2_row _ _ _ _ b1]) (fun j j4 => by rw [← u2_row _ _ _ _ dn.1.symm, u2_ne _ _ _ _ (fun y => j4 y.2)]) h5 (by rw [← u2_row _ _ _ _ dn.1.symm, u2_same]) lt (by omega) ?_
      have ev : nI (zPs (zTV T (n + 1)).toNatClampNeg) = zTV T (n + 1) - 11 := by
        obtain ⟨k, hk, ek⟩ := tk_word T (n + 1) y1
        have eN : (zTV T (n + 1)).toNatClampNeg = k := by rw [ek]; exact znIc (by omega)
        rw [eN] at y2 y3 ⊢
        rw [ek]
        exact (show ∀ k : Fin 18, 1 ≤ nI (zPs k.1) → nI (zPs k.1) ≤ 3 → nI (zPs k.1) = nI k.1 - 11 by decide) ⟨k, hk⟩ y2 y3
      rw [ev]
      exact u2_up (fun j hj => by rw [← u2_row _ _ _ _ dn.1]; exact hR j hj)
    · rw [if_neg (fun c => y (tc.mpr c))]
      exact zLq.bad0 (by decide) (by decide) dn.1 rfl (fun b b1 b2 => (u2_row _ _ _ _ b2).symm) (fun j j4 => by rw [← u2_row _ _ _ _ dn.1.symm]; rfl)
  · refine ⟨no (by decide), no (by decide), no (by decide), no (by decide), fun _ => q _ ?_, no (by decide), no (by decide), no (by decide), no (by decide), no (by decide), no (by decide), no (by decide), fun _ _ _ _ y => absurd rfl y⟩
    have eb : zbd (zTK T) (zTV T) R n = (0, n + 1, up1 R 1 1) := by unfold zbd; rw [hv]; rfl
    rw [eb]
    exact zLq.good z dn (fun b b1 b2 => (u2_row _ _ _ _ b2).symm) (fun j j4 => by rw [← u2_row _ _ _ _ dn.1.symm]) h5 (by rw [← u2_row _ _ _ _ dn.1.symm]; exact z.2.2.1) z.2.2.2.1 z.2.2.2.2.1 (u2_up hR)
  · exact ⟨no (by decide), no (by decide), no (by decide), no (by decide), no (by decide), fun _ => num 2 0 3 (by unfold zbd; rw [hv]; rfl), no (by decide), no (by decide), no (by decide), no (by decide), no (by decide), no (by decide), fun _ _ _ _ _ y => absurd rfl y⟩
  · exact ⟨no (by decide), no (by decide), no (by decide), no (by decide), no (by decide), no (by decide), no (by decide), no (by decide), fun _ => num 3 0 5 (by unfold zbd; rw [hv]; rfl), no (by decide), no (by decide), no (by decide), fun _ _ _ _ _ _ _ _ y => absurd rfl y⟩
  · exact ⟨no (by decide), no (by decide), no (by decide), no (by decide), no (by decide), no (by decide), no (by decide), no (by decide), no (by decide), fun _ => num 4 0 99 (by unfold zbd; rw [hv]; rfl), no (by decide), no (by decide), fun _ _ _ _ _ _ _ _ _ y => absurd rfl y⟩
  · exact ⟨no (by decide), no (by decide), no (by decide), no (by decide), no (by decide), no (by decide), no (by decide), no (by decide), no (by decide), no (by decide), fun _ => num 5 0 9 (by unfold zbd; rw [hv]; rfl), no (by decide), fun _ _ _ _ _ _ _ _ _ _ y => absurd rfl y⟩
  · refine ⟨no (by decide), no (by decide), no (by decide), no (by decide), no (by decide), no (by decide), no (by decide), no (by decide), no (by decide), no (by decide), no (by decide), fun _ => ?_, fun _ _ _ _ _ _ _ _ _ _ _ y => absurd rfl y⟩
    have eb : zbd (zTK T) (zTV T) R n = zsap (zTK T) (zTV T) R n := by unfold zbd; rw [hv]; rfl
    rw [eb] at q
    clear num no bv eb
    unfold zsap at q
    have tc := @tkc T (n + 2) 12 12 17 17 (by decide)
    refine c_readNumber hS z h5 (fun y y2 => ⟨_, rfl, rfl, ?_⟩) (fun y => ⟨_, rfl, rfl, ?_⟩)
    · rw [if_pos y] at q
      have lt : n + 1 < N := z.tok.2.2.2.2 (by rw [y2]; decide)
      generalize eI : u2 (u2 I 3 4 (nI (n + 1 + 1))) d 6 (zTV T (n + 1)) = I1
      have a1 : ∀ b, b ≠ 3 → b ≠ d → I1 b = I b := fun b b1 b2 => by rw [← eI, ← u2_row _ _ _ _ b2, ← u2_row _ _ _ _ b1]
      have a2 : ∀ j, j ≠ 4 → I1 3 j = I 3 j := fun j j4 => by rw [← eI, ← u2_row _ _ _ _ dn.1.symm, u2_ne _ _ _ _ (fun y => j4 y.2)]
      have a3 : ∀ j, j < 11 → I1 d j = up1 R 6 (zTV T (n + 1)) j := by rw [← eI]; exact u2_up (fun j hj => by rw [← u2_row _ _ _ _ dn.1]; exact hR j hj)
      have z1 : zPq I1 T N (n + 2) := z.fr (a2 3 (by decide)) (a1 4 (by decide) dn.2.1.symm) (a1 5 (by decide) dn.2.2.1.symm) (a1 6 (by decide) dn.2.2.2.symm) (by rw [← eI, ← u2_row _ _ _ _ dn.1.symm, u2_same]) lt (by omega)
      have h51 : I1 3 5 = 0 := (a2 5 (by decide)).trans h5
      refine c_readWord hS z1 h51 (fun y1 y3 y4 => ⟨_, rfl, rfl, ?_⟩) (fun yy => ⟨_, rfl, rfl, ?_⟩)
      · rw [if_pos (tc.mp ⟨y1, y3, y4⟩)] at q
        have lt2 : n + 2 < N := z1.tok.2.2.2.2 (by rw [y1]; decide)
        generalize eI2 : u2 I1 3 4 (nI (n + 2 + 1)) = I2
        have b1 : ∀ b, b ≠ 3 → I2 b = I1 b := fun b b1 => by rw [← eI2, ← u2_row _ _ _ _ b1]
        have b2 : ∀ j, j ≠ 4 → I2 3 j = I1 3 j := fun j j4 => by rw [← eI2, u2_ne _ _ _ _ (fun y => j4 y.2)]
        have z2 : zPq I2 T N (n + 3) := z1.fr (b2 3 (by decide)) (b1 4 (by decide)) (b1 5 (by decide)) (b1 6 (by decide)) (by rw [← eI2, u2_same]) lt2 (by omega)
        have e6 : I2 d 6 = zTV T (n + 1) := by rw [b1 d dn.1, a3 6 (by omega)]; rfl
        rw [e6]
        exact c_rn1 hS z2 ((b2 5 (by decide)).trans h51) dn (by omega) (fun j hj => by rw [b1 d dn.1]; exact a3 j hj) (fun J h => q J (h.of (fun b c1 c2 => (b1 b c1).trans (a1 b c1 c2)) (fun j j4 j5 j6 => (b2 j j4).trans (a2 j j4)) ((b2 6 (by decide)).trans (a2 6 (by decide)))))
      · rw [if_neg (fun c => yy (tc.mpr c))] at q
        refine c_readNumber_f hS (by rw [u2_ne _ _ _ _ (by decide), u2_same]; decide) (fun r J fo => ⟨_, rfl, rfl, q _ ?_⟩)
        exact (zLq.bad0 (by decide) (by decide) dn.1 rfl (fun b b1 b2 => by rw [← u2_row _ _ _ _ b2, fo.1 b b1]; rfl) (fun j j4 => by rw [← u2_row _ _ _ _ dn.1.symm, fo.2 j j4]; rfl) : zLq I1 _ T N d (1, n + 2, R)).of a1 (fun j j4 j5 j6 => a2 j j4) (a2 6 (by decide))
    · rw [if_neg y] at q
      have nz := nI_nz3 y (znf_3 _ _ _ _ _)
      refine c_readWord_f hS (by rw [← u2_row _ _ _ _ dn.1.symm, u2_ne _ _ _ _ (by decide), u2_same]; exact nz) (fun r J fo => ⟨_, rfl, rfl, ?_⟩)
      refine c_readNumber_f hS (by rw [fo.2 5 (by decide), ← u2_row _ _ _ _ dn.1.symm, u2_ne _ _ _ _ (by decide), u2_same]; exact nz) (fun r' J' fo' => ⟨_, rfl, rfl, q _ ?_⟩)
      exact zLq.bad0 y (znf_3 _ _ _ _ _) dn.1 rfl (fun b b1 b2 => by rw [← u2_row _ _ _ _ b2, fo'.1 b b1, fo.1 b b1, ← u2_row _ _ _ _ b2]) (fun j j4 => by rw [← u2_row _ _ _ _ dn.1.symm, fo'.2 j j4, fo.2 j j4, ← u2_row _ _ _ _ dn.1.symm])
  · exact ⟨no (by decide), no (by decide), no (by decide), no (by decide), no (by decide), no (by decide), no (by decide), no (by decide), no (by decide), no (by decide), no (by decide), no (by decide), fun _ _ _ _ _ _ _ _ _ _ _ _ => num 8 0 99 (by unfold zbd; rw [hv]; rfl)⟩
/-- kinds behind a line's first word -/
theorem c_readKinds {G : Gp} {Q : zPost} {S : zSh} {I : zFI} {L : zFL} {T : Nat → Int32} {N n d v : Nat} {R : Nat → Int32} (hS : zStd S) (z : zPq I T N (n + 1)) (h5 : I 3 5 = 0) (hd : zCu d) (hn : n + 4 ≤ 200) (hR : ∀ k, k < 11 → I d k = R k) (hv : zTV T n = nI v) (v4 : v < 4) (q : ∀ J, zLq I J T N d (zbd (zTK T) (zTV T) R n) → Q none S J L) : ZC G mX2_readKinds fX2_readKinds lX2_readKinds [zo G 3, zo G d, .int (nI v)] S I L 0 0 Q := by
  have dn : d ≠ 3 ∧ d ≠ 4 ∧ d ≠ 5 ∧ d ≠ 6 := by
    rcases hd with e | e | e <;> subst e <;> decide
  have eb : zbd (zTK T) (zTV T) R n = zkin (zTK T) (zTV T) R n := by
    unfold zbd
    have : v = 0 ∨ v = 1 ∨ v = 2 ∨ v = 3 := by omega
    rw [hv]
    rcases this with e | e | e | e <;> subst e <;> rfl
  rw [eb] at q
  clear eb
  unfold zkin at q
  rw [hv] at q
  have tc := @tkc T (n + 1) 6 7 15 16 (by decide)
  have tc2 := @tkc T (n + 2) 14 17 0 3 (by decide)
  refine ZC.of' (vX2_readKinds_0 hS hd ?_) rfl (Nat.le_of_ble_eq_true rfl) rfl
  refine c_readWord hS z h5 (fun y1 y2 y3 => ⟨_, rfl, rfl, ?_⟩) (fun y => ⟨_, rfl, rfl, ?_⟩)
  · rw [if_pos (tc.mp ⟨y1, y2, y3⟩)] at q
    have lt : n + 1 < N := z.tok.2.2.2.2 (by rw [y1]; decide)
    have z1 : zPq (u2 I 3 4 (nI (n + 1 + 1))) T N (n + 2) := z.fr (u2_ne _ _ _ _ (by decide)) (u2_row _ _ _ _ (by decide)).symm (u2_row _ _ _ _ (by decide)).symm (u2_row _ _ _ _ (by decide)).symm (u2_same _ _ _ _) lt (by omega)
    have h51 : u2 I 3 4 (nI (n + 1 + 1)) 3 5 = 0 := (u2_ne _ _ _ _ (by decide)).trans h5
    refine c_readWord hS z1 h51 (fun x1 x2 x3 => ⟨_, rfl, rfl, ?_⟩) (fun y => ⟨_, rfl, rfl, ?_⟩)
    · rw [if_pos (tc2.mp ⟨x1, x2, x3⟩)] at q
      have lt2 : n + 2 < N := z1.tok.2.2.2.2 (by rw [x1]; decide)
      have e2 : nI (zPs (zTV T (n + 2)).toNatClampNeg) - 14 = zTV T (n + 2) := by
        obtain ⟨k, hk, ek⟩ := tk_word T (n + 2) x1
        have eN : (zTV T (n + 2)).toNatClampNeg = k := by rw [ek]; exact znIc (by omega)
        rw [eN] at x2 x3 ⊢
        rw [ek]
        exact (show ∀ k : Fin 18, 14 ≤ nI (zPs k.1) → nI (zPs k.1) ≤ 17 → nI (zPs k.1) - 14 = nI k.1 by decide) ⟨k, hk⟩ x2 x3
      have e1 : nI (zPs (zTV T (n + 1)).toNatClampNeg) = 6 ↔ zTV T (n + 1) = 15 := by
        obtain ⟨k, hk, ek⟩ := tk_word T (n + 1) y1
        have eN : (zTV T (n + 1)).toNatClampNeg = k := by rw [ek]; exact znIc (by omega)
        rw [eN, ek]
        exact (show ∀ k : Fin 18, nI (zPs k.1) = 6 ↔ nI k.1 = 15 by decide) ⟨k, hk⟩
      rw [e2]
      have nx : ∀ (k : Nat) (x : Int32), k < 11 → x = R k ||| ((1 : Int32) <<< ((4 * nI v + zTV T (n + 2)) &&& 31)) → zLq I (u2 (u2 (u2 I 3 4 (nI (n + 1 + 1))) 3 4 (nI (n + 2 + 1))) d k x) T N d (0, n + 3, up1 R k (R k ||| ((1 : Int32) <<< ((4 * nI v + zTV T (n + 2)) &&& 31)))) := by
        intro k x hk ex
        rw [ex]
        exact zLq.good z dn (fun b b1 b2 => by rw [← u2_row _ _ _ _ b2, ← u2_row _ _ _ _ b1, ← u2_row _ _ _ _ b1]) (fun j j4 => by rw [← u2_row _ _ _ _ dn.1.symm, u2_ne _ _ _ _ (fun y => j4 y.2), u2_ne _ _ _ _ (fun y => j4 y.2)]) h5 (by rw [← u2_row _ _ _ _ dn.1.symm, u2_same]) lt2 (by omega) (u2_up (fun j hj => by rw [← u2_row _ _ _ _ dn.1, ← u2_row _ _ _ _ dn.1]; exact hR j hj))
      refine ⟨fun _ => ⟨fun c => ?_, fun c => ?_⟩, fun c => absurd (by rw [u2_ne _ _ _ _ (by decide)]; exact h51) c⟩
      · have c' := fun y => c (e1.mpr y)
        refine ZC.of' (vX1_tellAhead_0 hS hd ⟨rfl, rfl, q _ ?_⟩) rfl (Nat.le_of_ble_eq_true rfl) rfl
        rw [if_neg c']
        exact nx 10 _ (by omega) (by rw [← u2_row _ _ _ _ dn.1, ← u2_row _ _ _ _ dn.1, hR 10 (by omega)])
      · refine ZC.of' (vX1_tellInto_0 hS hd ⟨rfl, rfl, q _ ?_⟩) rfl (Nat.le_of_ble_eq_true rfl) rfl
        rw [if_pos (e1.mp c)]
        exact nx 9 _ (by omega) (by rw [← u2_row _ _ _ _ dn.1, ← u2_row _ _ _ _ dn.1, hR 9 (by omega)])
    · rw [if_neg (fun c => y (tc2.mpr c))] at q
      have e5 : ¬ (u2 (u2 (u2 I 3 4 (nI (n + 1 + 1))) 3 5 1) 3 6 (nI (zps_ T (n + 2)))) 3 5 = 0 := by
        rw [u2_ne _ _ _ _ (by decide), u2_same]; decide
      refine ⟨fun c => absurd c e5, fun _ => q _ ?_⟩
      exact (zLq.bad0 (by decide) (by decide) dn.1 rfl (fun _ _ _ => rfl) (fun _ _ => rfl) : zLq (u2 I 3 4 (nI (n + 1 + 1))) _ T N d (1, n + 2, R)).of (fun b b1 _ => (u2_row _ _ _ _ b1).symm) (fun j j4 j5 j6 => u2_ne _ _ _ _ (fun y => j4 y.2)) (u2_ne _ _ _ _ (by decide))
  · rw [if_neg (fun c => y (tc.mpr c))] at q
    refine c_readWord_f hS (by rw [u2_ne _ _ _ _ (by decide), u2_same]; decide) (fun r J fo => ⟨_, rfl, rfl, ?_⟩)
    have e5 : ¬ J 3 5 = 0 := by
      rw [fo.2 5 (by decide), u2_ne _ _ _ _ (by decide), u2_same]; decide
    exact ⟨fun c => absurd c e5, fun _ => q _ (zLq.bad0 (by decide) (by decide) dn.1 rfl (fun b b1 _ => fo.1 b b1) fo.2)⟩
theorem bg_1 {I : zFI} {T : Nat → Int32} {N n : Nat} (z : zPq I T N n) : (¬ p_X2_beginsLine I = 0) ↔ (zTK T n = 1 ∧ zTV T n ≤ 11) := by
  obtain ⟨t1, t2, -⟩ := z.tok
  unfold p_X2_beginsLine
  rw [t1]
  by_cases h : zTK T n = 1
  · rw [if_pos h, t2 h]
    obtain ⟨k, hk, ek⟩ := tk_word T n h
    have eN : (zTV T n).toNatClampNeg = k := by rw [ek]; exact znIc (by omega)
    rw [eN, ek]
    have := (show ∀ k : Fin 18, (¬ (if nI (zPs k.1) = 0 then (1 : Int32) else (if nI (zPs k.1) = (4 : Int32) then (1 : Int32) else (if nI (zPs k.1) = (5 : Int32) then (1 : Int32) else (if nI (zPs k.1) < (8 : Int32) then (0 : Int32) else (if nI (zPs k.1) = (12 : Int32) then (0 : Int32) else (1 : Int32)))))) = 0) ↔ nI k.1 ≤ 11 by decide) ⟨k, hk⟩
    exact this.trans ⟨fun y => ⟨h, y⟩, fun y => y.2⟩
  · rw [if_neg h]
    exact ⟨fun y => absurd rfl y, fun y => absurd y.1 h⟩
/-- one line -/
theorem c_readLine {G : Gp} {Q : zPost} {S : zSh} {I : zFI} {L : zFL} {T : Nat → Int32} {N n d l : Nat} {R : Nat → Int32} (hS : zStd S) (z : zPq I T N n) (h5 : I 3 5 = 0) (hd : zCu d) (hn : l < 40 → n + 5 ≤ 200) (hl : l ≤ 40) (hR : ∀ k, k < 11 → I d k = R k) (q : ∀ J, zLq I J T N d (if zTK T n = 1 ∧ zTV T n ≤ 11 then (if l < 40 then zln (zTK T) (zTV T) R n else (3, n, R)) else (1, n, R)) → Q none S J L) : ZC G mX2_readLine fX2_readLine lX2_readLine [zo G 3, zo G d, .int (nI l)] S I L 0 0 Q := by
  have dn : d ≠ 3 ∧ d ≠ 4 ∧ d ≠ 5 ∧ d ≠ 6 := by
    rcases hd with e | e | e <;> subst e <;> decide
  have bg := bg_1 z
  have e4 : I 3 4 + 1 = nI (n + 1) := by rw [z.2.2.1, nI_1]
  refine ZC.of' (vX2_readLine_0 hS hd ⟨fun c => ?_, fun c => ?_⟩) rfl (Nat.le_of_ble_eq_true rfl) rfl
  · rw [if_pos (bg.mp c)] at q
    obtain ⟨k1, k2⟩ := bg.mp c
    obtain ⟨v, hv18, hv⟩ := tk_word T n k1
    have eN : (zTV T n).toNatClampNeg = v := by rw [hv]; exact znIc (by omega)
    have ev : p_X2_value I = nI (zPs v) := by rw [z.tok.2.1 k1, eN]
    have hv11 : v ≤ 11 := by
      rw [hv] at k2
      exact (show ∀ k : Fin 18, nI k.1 ≤ 11 → k.1 ≤ 11 by decide) ⟨v, hv18⟩ k2
    refine ⟨fun c40 => ?_, fun c40 => ?_⟩
    · have l40 : l < 40 := Classical.byContradiction (fun y => Int32.not_lt.mpr (show nI 40 ≤ nI l from nI_le (by omega) (by omega)) c40)
      have hn' := hn l40
      rw [if_pos l40] at q
      have lt : n < N := z.tok.2.2.2.2 (by rw [k1]; decide)
      rw [ev, e4]
      have z1 : zPq (u2 I 3 4 (nI (n + 1))) T N (n + 1) := z.fr (u2_ne _ _ _ _ (by decide)) (u2_row _ _ _ _ (by decide)).symm (u2_row _ _ _ _ (by decide)).symm (u2_row _ _ _ _ (by decide)).symm (u2_same _ _ _ _) lt (by omega)
      have h51 : u2 I 3 4 (nI (n + 1)) 3 5 = 0 := (u2_ne _ _ _ _ (by decide)).trans h5
      have hR1 : ∀ k, k < 11 → u2 I 3 4 (nI (n + 1)) d k = R k := fun k hk => by rw [← u2_row _ _ _ _ dn.1]; exact hR k hk
      have nb := zbd_n (zTK T) (zTV T) R n
      have fin : ∀ J, zLq (u2 I 3 4 (nI (n + 1))) J T N d (zbd (zTK T) (zTV T) R n) → ((p_X2_token J = 3 → Q none S (u2 J 3 4 (J 3 4 + 1)) L) ∧ (¬ p_X2_token J = 3 → ZC G mX2_fail fX2_fail lX2_fail [zo G 3, .int 1] S J L 0 0 (fun w S' I L => w = none ∧ S = S' ∧ Q none S (u2 I 3 4 (I 3 4 + 1)) L))) := by
        intro J hJ
        have hJ' : zLq I J T N d (zbd (zTK T) (zTV T) R n) := hJ.of (fun b b1 _ => (u2_row _ _ _ _ b1).symm) (fun j j4 _ _ => u2_ne _ _ _ _ (fun y => j4 y.2)) (u2_ne _ _ _ _ (by decide))
        clear hJ
        unfold zln at q
        revert q
        generalize zbd (zTK T) (zTV T) R n = r at hJ' nb
        obtain ⟨f, m, R'⟩ := r
        intro q
        have nb' : m ≤ n + 4 := nb
        by_cases f0 : f = 0
        · subst f0
          obtain ⟨j5, j6, jz, jr⟩ := hJ'.2.2.1 rfl
          rw [jz.tok.1]
          have q' : ∀ J, zLq I J T N d (if zTK T m = 3 then (0, m + 1, R') else (1, m, R')) → Q none S J L := q
          refine ⟨fun t3 => ?_, fun t3 => ?_⟩
          · rw [if_pos t3] at q'
            have lt2 : m < N := jz.tok.2.2.2.2 (by rw [t3]; decide)
            have jz2 : J 3 4 = nI m := jz.2.2.1
            refine q' _ ⟨fun b b1 b2 => by rw [← u2_row _ _ _ _ b1]; exact hJ'.1 b b1 b2, fun j j4 j5 j6 => by rw [u2_ne _ _ _ _ (fun y => j4 y.2)]; exact hJ'.2.1 j j4 j5 j6, fun _ => ⟨(u2_ne _ _ _ _ (by decide)).trans j5, (u2_ne _ _ _ _ (by decide)).trans j6, jz.fr (u2_ne _ _ _ _ (by decide)) (u2_row _ _ _ _ (by decide)).symm (u2_row _ _ _ _ (by decide)).symm (u2_row _ _ _ _ (by decide)).symm ?_ lt2 (show m + 1 ≤ 200 by omega), fun k hk => by rw [← u2_row _ _ _ _ dn.1]; exact jr k hk⟩, fun y => absurd rfl y⟩
            rw [u2_same, jz2, nI_1]
          · rw [if_neg t3] at q'
            exact c_fail1 hS jz j5 ⟨rfl, rfl, q' _ (zLq.bad (by decide) (by decide) (fun b b1 b2 => by rw [← u2_row _ _ _ _ b1, ← u2_row _ _ _ _ b1, ← u2_row _ _ _ _ b1]; exact hJ'.1 b b1 b2) (fun j j4 j5 j6 => by rw [u2_ne _ _ _ _ (fun y => j4 y.2), u2_ne _ _ _ _ (fun y => j6 y.2), u2_ne _ _ _ _ (fun y => j5 y.2)]; exact hJ'.2.1 j j4 j5 j6) (by rw [u2_ne _ _ _ _ (by decide), u2_ne _ _ _ _ (by decide), u2_same]; rfl) (by rw [u2_ne _ _ _ _ (by decide), u2_same]))⟩
        · obtain ⟨f3, j5, j6⟩ := hJ'.2.2.2 f0
          have q' : ∀ J, zLq I J T N d (f, m, R') → Q none S J L := by
            have : (if f = 0 then (if zTK T m = 3 then ((0, m + 1, R') : zRe) else (1, m, R')) else (f, m, R')) = (f, m, R') := if_neg f0
            intro J' hJ''
            exact q J' (by show zLq I J' T N d (if f = 0 then (if zTK T m = 3 then ((0, m + 1, R') : zRe) else (1, m, R')) else (f, m, R')); rw [this]; exact hJ'')
          have qq : Q none S (u2 J 3 4 (J 3 4 + 1)) L := q' _ (zLq.bad f0 f3 (fun b b1 b2 => by rw [← u2_row _ _ _ _ b1]; exact hJ'.1 b b1 b2) (fun j j4 j5 j6 => by rw [u2_ne _ _ _ _ (fun y => j4 y.2)]; exact hJ'.2.1 j j4 j5 j6) ((u2_ne _ _ _ _ (by decide)).trans j5) ((u2_ne _ _ _ _ (by decide)).trans j6))
          exact ⟨fun _ => qq, fun _ => c_fail0 hS (by rw [j5]; exact nI_nz3 f0 f3) ⟨rfl, rfl, qq⟩⟩
      by_cases v4 : v < 4
      · have p14 : ¬ nI (zPs v) < 14 := by
          have : v = 0 ∨ v = 1 ∨ v = 2 ∨ v = 3 := by omega
          rcases this with e | e | e | e <;> subst e <;> decide
        have pv : nI (zPs v) - 14 = nI v := by
          have : v = 0 ∨ v = 1 ∨ v = 2 ∨ v = 3 := by omega
          rcases this with e | e | e | e <;> subst e <;> decide
        refine ⟨fun y => absurd y p14, fun _ => ?_⟩
        rw [pv]
        exact c_readKinds hS z1 h51 hd (by omega) hR1 hv v4 (fun J hJ => ⟨rfl, rfl, fin J hJ⟩)
      · have p14 : nI (zPs v) < 14 := (show ∀ k : Fin 12, 4 ≤ k.1 → nI (zPs k.1) < 14 by decide) ⟨v, by omega⟩ (show 4 ≤ v by omega)
        refine ⟨fun _ => ?_, fun y => absurd p14 y⟩
        exact c_readRule hS z1 h51 hd (by omega) hR1 hv (by omega) hv11 (fun J hJ => ⟨rfl, rfl, fin J hJ⟩)
    · have e : ¬ l < 40 := fun y => c40 (show nI l < nI 40 from nI_lt y (by decide))
      rw [if_neg e] at q
      exact c_fail1 hS z h5 ⟨rfl, rfl, q _ (zLq.bad (by decide) (by decide) (fun b b1 _ => by rw [← u2_row _ _ _ _ b1, ← u2_row _ _ _ _ b1]) (fun j j4 j5 j6 => by rw [u2_ne _ _ _ _ (fun y => j6 y.2), u2_ne _ _ _ _ (fun y => j5 y.2)]) (by rw [u2_ne _ _ _ _ (by decide), u2_same]; rfl) (u2_same _ _ _ _))⟩
  · rw [if_neg (fun y => absurd c (bg.mpr y))] at q
    exact c_fail1 hS z h5 ⟨rfl, rfl, q _ (zLq.bad (by decide) (by decide) (fun b b1 _ => by rw [← u2_row _ _ _ _ b1, ← u2_row _ _ _ _ b1]) (fun j j4 j5 j6 => by rw [u2_ne _ _ _ _ (fun y => j6 y.2), u2_ne _ _ _ _ (fun y => j5 y.2)]) (by rw [u2_ne _ _ _ _ (by decide), u2_same]; rfl) (u2_same _ _ _ _))⟩
/-! the whole text -/
def zR0_ : Nat → Int32 := up1 (up1 (up1 (up1 (up1 (up1 (up1 (up1 (up1 (up1 (up1 (fun _ => 0) 0 3) 1 0) 2 1) 3 2) 4 60) 5 1) 6 10) 7 30) 8 2) 9 0) 10 0
/-- behind the reading of a text, whose result is r -/
def zPu (I J : zFI) (T : Nat → Int32) (d : Nat) (r : zRe) : Prop := (∀ b, b ≠ 3 → b ≠ 4 → b ≠ 5 → b ≠ 6 → b ≠ d → J b = I b) ∧ (r.1 = 0 → J 3 5 = 0 ∧ J 3 6 = -1 ∧ ∀ k, k < 11 → J d k = r.2.2 k) ∧ (¬ r.1 = 0 → r.1 ≤ 3 ∧ J 3 5 = nI r.1 ∧ J 3 6 = nI (zps_ T r.2.1))
theorem c_parse26 {G : Gp} {Q : zPost} {S : zSh} {L : zFL} {T : Nat → Int32} {N d : Nat} (hS : zStd S) (hd : zCu d) : ∀ (fu l n : Nat) (R : Nat → Int32) (I I0 : zFI), fu + l = 40 → n ≤ 5 * l → zPq I T N n → I 3 5 = 0 → I 3 6 = -1 → (∀ k, k < 11 → I d k = R k) → (∀ b, b ≠ 3 → b ≠ 4 → b ≠ 5 → b ≠ 6 → b ≠ d → I b = I0 b) → (∀ J, zPu I0 J T d (zal_ (zTK T) (zTV T) fu l n R).1 → Q (some (.int (if (zal_ (zTK T) (zTV T) fu l n R).1.1 = 0 then nI (zal_ (zTK T) (zTV T) fu l n R).2 else -1))) S J L) → ZW G mX2_parse fX2_parse lX2_parse 26 [zo G 3, zo G 1, zo G d, .int (nI l)] [] S I L 0 0 Q := by
  -- a fault ends it
  have bad : ∀ (l f m : Nat) (R : Nat → Int32) (J I0 : zFI), l ≤ 41 → ¬ f = 0 → f ≤ 3 → J 3 5 = nI f → J 3 6 = nI (zps_ T m) → (∀ b, b ≠ 3 → b ≠ 4 → b ≠ 5 → b ≠ 6 → b ≠ d → J b = I0 b) → (zPu I0 J T d (f, m, R) → Q (some (.int (-1))) S J L) → ZW G mX2_parse fX2_parse lX2_parse 26 [zo G 3, zo G 1, zo G d, .int (nI l)] [] S J L 0 0 Q := by
    intro l f m R J I0 hl f0 f3 j5 j6 fr q
    have nz : ¬ J 3 5 = 0 := by rw [j5]; exact nI_nz3 f0 f3
    have qq := q ⟨fr, fun y => absurd y f0, fun _ => ⟨f3, j5, j6⟩⟩
    refine vX2_parse_26 hS hd ⟨fun _ => ⟨fun _ => qq, fun y => absurd y nz⟩, fun _ => ⟨fun _ => ⟨fun _ => qq, fun y => absurd y nz⟩, fun y => absurd y nz⟩⟩
  intro fu
  induction fu with
  | zero =>
    intro l n R I I0 hl hn z h5 h6 hR fr q
    have l40 : l = 40 := by omega
    subst l40
    refine vX2_parse_26 hS hd ?_
    rw [z.tok.1]
    refine ⟨fun t0 => ⟨fun y => absurd h5 y, fun _ => ?_⟩, fun t0 => ⟨fun y => absurd h5 y, fun _ => ⟨fun y => absurd y (by decide), fun _ => ?_⟩⟩⟩
    · have e : zal_ (zTK T) (zTV T) 0 40 n R = ((0, n, R), 40) := by unfold zal_; rw [if_pos t0]
      rw [e] at q
      exact q I ⟨fr, fun _ => ⟨h5, h6, hR⟩, fun y => absurd rfl y⟩
    · refine c_readLine hS z h5 hd (fun y => absurd y (by omega)) (by omega) hR (fun J hJ => ⟨rfl, rfl, ?_⟩)
      have fr' : ∀ b, b ≠ 3 → b ≠ 4 → b ≠ 5 → b ≠ 6 → b ≠ d → J b = I0 b := fun b b1 b2 b3 b4 b5 => (hJ.1 b b1 b5).trans (fr b b1 b2 b3 b4 b5)
      have one : ∀ f : Nat, f = 1 ∨ f = 3 → zal_ (zTK T) (zTV T) 0 40 n R = ((f, n, R), 40) → zLq I J T N d (f, n, R) → ZW G mX2_parse fX2_parse lX2_parse 26 [zo G 3, zo G 1, zo G d, .int (nI 40 + 1)] [] S J L 0 0 Q := by
        intro f f1 e hJ
        have f0 : ¬ f = 0 := by omega
        rw [e] at q
        obtain ⟨f3, j5, j6⟩ := hJ.2.2.2 f0
        rw [nI_1]
        exact bad 41 f n R J I0 (by omega) f0 f3 j5 j6 fr' (fun zp => by have := q J zp; rw [if_neg f0] at this; exact this)
      by_cases c : zTK T n = 1 ∧ zTV T n ≤ 11
      · rw [if_pos c, if_neg (by omega)] at hJ
        exact one 3 (Or.inr rfl) (by unfold zal_; rw [if_neg t0, if_pos c]) hJ
      · rw [if_neg c] at hJ
        exact one 1 (Or.inl rfl) (by unfold zal_; rw [if_neg t0, if_neg c]) hJ
  | succ fu ih =>
    intro l n R I I0 hl hn z h5 h6 hR fr q
    refine vX2_parse_26 hS hd ?_
    rw [z.tok.1]
    have n40 : ¬ (40 : Int32) < nI l := Int32.not_lt.mpr (show nI l ≤ nI 40 from nI_le (by omega) (by decide))
    refine ⟨fun t0 => ⟨fun y => absurd h5 y, fun _ => ?_⟩, fun t0 => ⟨fun y => absurd h5 y, fun _ => ⟨fun y => absurd y n40, fun _ => ?_⟩⟩⟩
    · have e : zal_ (zTK T) (zTV T) (fu + 1) l n R = ((0, n, R), l) := by unfold zal_; rw [if_pos t0]
      rw [e] at q
      exact q I ⟨fr, fun _ => ⟨h5, h6, hR⟩, fun y => absurd rfl y⟩
    · refine c_readLine hS z h5 hd (fun y => by omega) (by omega) hR (fun J hJ => ⟨rfl, rfl, ?_⟩)
      rw [nI_1]
      have fr' : ∀ b, b ≠ 3 → b ≠ 4 → b ≠ 5 → b ≠ 6 → b ≠ d → J b = I0 b := fun b b1 b2 b3 b4 b5 => (hJ.1 b b1 b5).trans (fr b b1 b2 b3 b4 b5)
      by_cases c : zTK T n = 1 ∧ zTV T n ≤ 11
      · rw [if_pos c, if_pos (by omega)] at hJ
        have nl := zln_n (zTK T) (zTV T) R n
        by_cases f0 : (zln (zTK T) (zTV T) R n).1 = 0
        · have e : zal_ (zTK T) (zTV T) (fu + 1) l n R = zal_ (zTK T) (zTV T) fu (l + 1) (zln (zTK T) (zTV T) R n).2.1 (zln (zTK T) (zTV T) R n).2.2 := by rw [zal_, if_neg t0, if_pos c, if_pos f0]
          rw [e] at q
          obtain ⟨j5, j6, jz, jr⟩ := hJ.2.2.1 f0
          exact ih (l + 1) _ _ J I0 (by omega) (by omega) jz j5 (j6.trans h6) jr fr' q
        · have e : zal_ (zTK T) (zTV T) (fu + 1) l n R = (zln (zTK T) (zTV T) R n, l) := by rw [zal_, if_neg t0, if_pos c, if_neg f0]
          rw [e] at q
          obtain ⟨f3, j5, j6⟩ := hJ.2.2.2 f0
          exact bad (l + 1) _ _ _ J I0 (by omega) f0 f3 j5 j6 fr' (fun zp => by have := q J zp; rw [if_neg f0] at this; exact this)
      · rw [if_neg c] at hJ
        have e : zal_ (zTK T) (zTV T) (fu + 1) l n R = ((1, n, R), l) := by rw [zal_, if_neg t0, if_neg c]
        rw [e] at q
        obtain ⟨f3, j5, j6⟩ := hJ.2.2.2 (show ¬ (1 : Nat) = 0 by decide)
        exact bad (l + 1) 1 n R J I0 (by omega) (by decide) f3 j5 j6 fr' (fun zp => by have := q J zp; rw [if_neg (show ¬ (1 : Nat) = 0 by decide)] at this; exact this)
theorem c_parse {G : Gp} {Q : zPost} {S : zSh} {I : zFI} {L : zFL} {T : Nat → Int32} {tl d : Nat} (hS : zStd S) (h : zTp I T tl) (hd : zCu d) (q : ∀ J, zPu I J T d (zal_ (zTK T) (zTV T) 40 0 0 zR0_).1 → Q (some (.int (if (zal_ (zTK T) (zTV T) 40 0 0 zR0_).1.1 = 0 then nI (zal_ (zTK T) (zTV T) 40 0 0 zR0_).2 else -1))) S J L) : ZC G mX2_parse fX2_parse lX2_parse [zo G 3, zo G 1, zo G d] S I L 0 0 Q := by
  have dn : d ≠ 3 ∧ d ≠ 4 ∧ d ≠ 5 ∧ d ≠ 6 := by
    rcases hd with e | e | e <;> subst e <;> decide
  refine ZC.of' (vX2_parse_0 hS hd ?_) rfl (Nat.le_of_ble_eq_true rfl) rfl
  refine c_split hS h (fun J N sp t0 tn => ⟨rfl, rfl, ?_⟩)
  refine ZC.of' (vX1_reset_0 hS hd ⟨rfl, rfl, ?_⟩) rfl (Nat.le_of_ble_eq_true rfl) rfl
  obtain ⟨s1, s2, s3, s4⟩ := sp
  have key : ∀ J2 : zFI, (∀ b, b ≠ 3 → b ≠ d → J2 b = J b) → (∀ k, k ≠ 4 → k ≠ 5 → k ≠ 6 → J2 3 k = J 3 k) → J2 3 4 = 0 → J2 3 5 = 0 → J2 3 6 = -1 → (∀ k, k < 11 → J2 d k = zR0_ k) → ZW G mX2_parse fX2_parse lX2_parse 26 [zo G 3, zo G 1, zo G d, .int 0] [] S J2 L 0 0 Q := by
    intro J2 e1 e2 e4 e5 e6 er
    refine c_parse26 hS hd 40 0 0 zR0_ J2 I rfl (by omega) ⟨(e2 3 (by decide) (by decide) (by decide)).trans s3, fun i i1 i2 => ?_, e4, Nat.zero_le _, by omega, t0, tn⟩ e5 e6 er (fun b b1 b2 b3 b4 b5 => (e1 b b1 b5).trans (s1 b b1 b2 b3 b4)) q
    rw [e1 4 (by decide) dn.2.1.symm, e1 5 (by decide) dn.2.2.1.symm, e1 6 (by decide) dn.2.2.2.symm]
    exact s4 i i1 i2
  refine key _ (fun b b1 b2 => ?_) (fun k k4 k5 k6 => ?_) ?_ ?_ ?_ (fun k hk => ?_)
  · funext j
    simp [u2, b1, b2]
  · simp [u2, dn.1.symm, k4, k5, k6]
  · simp [u2, dn.1.symm]
  · simp [u2, dn.1.symm]
  · simp [u2, dn.1.symm]
  · match k, hk with
    | 0, _ => simp [u2, zR0_, up1]
    | 1, _ => simp [u2, zR0_, up1]
    | 2, _ => simp [u2, zR0_, up1]
    | 3, _ => simp [u2, zR0_, up1]
    | 4, _ => simp [u2, zR0_, up1]
    | 5, _ => simp [u2, zR0_, up1]
    | 6, _ => simp [u2, zR0_, up1]
    | 7, _ => simp [u2, zR0_, up1]
    | 8, _ => simp [u2, zR0_, up1]
    | 9, _ => simp [u2, zR0_, up1]
    | 10, _ => simp [u2, zR0_, up1]
    | k + 11, hk => exact absurd hk (by omega)
