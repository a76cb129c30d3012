/-- what turnOver leaves of a row P of partners, along the way p -/
def jTrn (F : Nat → Nat → Prop) (P A : Nat → Int32) (p : Nat → Nat) (k : Nat) : Prop :=
  (∀ i, i < k → jTn F (p i) → jHl F (p (i + 1)) → A (p i) = nI (p (i + 1)) ∧ A (p (i + 1)) = nI (p i)) ∧
  (∀ x, (∀ i, i < k → jTn F (p i) → jHl F (p (i + 1)) → x ≠ p i ∧ x ≠ p (i + 1)) → ((∃ i, i < k ∧ jHl F (p i) ∧ jTn F (p (i + 1)) ∧ (x = p i ∨ x = p (i + 1))) → A x = -1) ∧ ((∀ i, i < k → jHl F (p i) → jTn F (p (i + 1)) → x ≠ p i ∧ x ≠ p (i + 1)) → A x = P x))
theorem c_turnOver {G : Gp} {Q : zPost} {S : zSh} {I : zFI} {L : zFL} {j na a z k : Nat} {nx : Nat → Nat} {aT aH : Nat → Nat} {w : Nat → Nat → Int} (hS : zStd S) (hj : zJn j) (hst : jSt I L j na aT aH w) (hk : k ≤ 49) (hz : it nx k a = z) (hmin : ∀ i, i < k → ¬ it nx i a = z) (h50 : ∀ i, i ≤ k → it nx i a < 50) (hnx : ∀ i, i < k → I (j + 7) (it nx i a) = nI (it nx (i + 1) a))
    (h : ∀ I', (∀ b, b ≠ j + 5 → I' b = I b) → jTrn (jArc na aT aH) (I (j + 5)) (I' (j + 5)) (fun i => it nx i a) k → Q none S I' L) : ZC G mX4_turnOver fX4_turnOver lX4_turnOver [zo G j, .int (nI a), .int (nI z)] S I L 0 0 Q := by
  obtain ⟨s1, s2, s3, s4, s5⟩ := hst
  generalize hF : jArc na aT aH = F at *
  have dist := it_dist hz hmin
  generalize hp : (fun i => it nx i a) = p at h
  have hp : ∀ i, it nx i a = p i := fun i => by rw [← hp]
  have dist : ∀ i i', i ≤ k → i' ≤ k → p i = p i' → i = i' := fun i i' a1 a2 a3 => dist i i' a1 a2 (by rw [hp, hp]; exact a3)
  have h50 : ∀ i, i ≤ k → p i < 50 := fun i hi => by rw [← hp]; exact h50 i hi
  have hz : p k = z := by rw [← hp]; exact hz
  have hmin : ∀ i, i < k → ¬ p i = z := fun i hi => by rw [← hp]; exact hmin i hi
  have hnx : ∀ i, i < k → I (j + 7) (p i) = nI (p (i + 1)) := fun i hi => by rw [← hp, ← hp]; exact hnx i hi
  have h0 : a = p 0 := hp 0
  have tn : ∀ x, x < 50 → (p_X4_has (L j 5) (nI x) = 0 ↔ ¬ jTn F x) := fun x hx => by
    rw [has_iff (by omega)]
    constructor
    · intro q t
      have := j_tlt s5 t
      exact q ⟨this, (s4 x this).1.mpr t⟩
    · intro q t
      exact q ((s4 x t.1).1.mp t.2)
  have hl : ∀ x, x < 50 → (p_X4_has (L j 6) (nI x) = 0 ↔ ¬ jHl F x) := fun x hx => by
    rw [has_iff (by omega)]
    constructor
    · intro q t
      have := j_hlt s5 t
      exact q ⟨this, (s4 x this).2.mpr t⟩
    · intro q t
      exact q ((s4 x t.1).2.mp t.2)
  have ne1 : ∀ x, x < 50 → ¬ nI x = -1 := fun x hx q => by
    rw [zeq, znI (by omega), show (-1 : Int32).toInt = -1 from rfl] at q
    omega
  -- the second loop
  have two : ∀ (A1 : Nat → Int32), (∀ x, ((∃ i, i < k ∧ jHl F (p i) ∧ jTn F (p (i + 1)) ∧ (x = p i ∨ x = p (i + 1))) → A1 x = -1) ∧ ((∀ i, i < k → jHl F (p i) → jTn F (p (i + 1)) → x ≠ p i ∧ x ≠ p (i + 1)) → A1 x = I (j + 5) x)) →
      ∀ (d i : Nat) (J : zFI), i + d = k → (∀ b, b ≠ j + 5 → J b = I b) → (∀ i', i' < i → jTn F (p i') → jHl F (p (i' + 1)) → J (j + 5) (p i') = nI (p (i' + 1)) ∧ J (j + 5) (p (i' + 1)) = nI (p i')) → (∀ x, (∀ i', i' < i → jTn F (p i') → jHl F (p (i' + 1)) → x ≠ p i' ∧ x ≠ p (i' + 1)) → J (j + 5) x = A1 x) →
      ZW G mX4_turnOver fX4_turnOver lX4_turnOver 79 [zo G j, .int (nI a), .int (nI z), .int (nI (p i)), .int (nI i), .null] [] S J L 0 0 Q := by
    intro A1 hA1 d
    induction d with
    | zero =>
      intro i J hi j1 j2 j3
      have : i = k := by omega
      subst this
      have fin : Q none S J L := h J j1 ⟨j2, fun x hx => ⟨fun q => (j3 x hx).trans ((hA1 x).1 q), fun q => (j3 x hx).trans ((hA1 x).2 q)⟩⟩
      exact vX4_turnOver_79 hS hj ⟨fun _ => fin, fun _ => ⟨fun _ => fin, fun q => absurd (by rw [hz]) q⟩⟩
    | succ d ih =>
      intro i J hi j1 j2 j3
      have p50 := h50 i (by omega)
      have q50 := h50 (i + 1) (by omega)
      have en : J (j + 7) (p i) = nI (p (i + 1)) := by rw [j1 _ (by omega)]; exact hnx i (by omega)
      refine vX4_turnOver_79 hS hj ⟨fun hc => absurd hc (show ¬ nI 50 ≤ nI i from nI_ge (by omega) (by omega)), fun _ => ⟨fun q => absurd ((nI_eq (by omega) (by have := h50 k (Nat.le_refl _); omega)).mp q) (hmin i (by omega)), fun _ => ?_⟩⟩
      rw [pick_in p50 (by decide), en, tn _ p50, hl _ q50, nI_1]
      have skip : ¬ (jTn F (p i) ∧ jHl F (p (i + 1))) → ZW G mX4_turnOver fX4_turnOver lX4_turnOver 79 [zo G j, .int (nI a), .int (nI z), .int (nI (p (i + 1))), .int (nI (i + 1)), .null] [] S J L 0 0 Q := fun hno => by
        refine ih (i + 1) J (by omega) j1 (fun i' hi' t1 t2 => ?_) (fun x hx => j3 x (fun i' hi' => hx i' (by omega)))
        rcases (by omega : i' < i ∨ i' = i) with y | y
        · exact j2 i' y t1 t2
        · subst y
          exact absurd ⟨t1, t2⟩ hno
      refine ⟨fun q => skip (fun y => q y.1), fun q => ⟨fun q2 => skip (fun y => q2 y.2), fun q2 => ?_⟩⟩
      have t1 := Classical.not_not.mp q
      have t2 := Classical.not_not.mp q2
      have b1 := j_tlt s5 t1
      have b2 := j_hlt s5 t2
      refine ZC.of' (vX4_tie_0 hS hj ?_) rfl (Nat.le_of_ble_eq_true rfl) rfl
      rw [znIc (by omega), znIc (by omega)]
      refine ⟨fun no => absurd no (nI_pos (by omega)), fun _ => ⟨fun no => absurd no (nI_ge (b := 48) b1 (by omega)), fun _ => ⟨fun no => absurd no (nI_pos (by omega)), fun _ => ⟨fun no => absurd no (nI_ge (b := 48) b2 (by omega)), fun _ => ⟨znIin b1 (by decide), znIin b2 (by decide), rfl, rfl, ?_⟩⟩⟩⟩⟩
      have apart : ¬ p i = p (i + 1) := fun y => by
        have := dist i (i + 1) (by omega) (by omega) y
        omega
      refine ih (i + 1) _ (by omega) (fun b hb => ?_) (fun i' hi' t1' t2' => ?_) (fun x hx => ?_)
      · rw [← u2_row _ _ _ _ hb, ← u2_row _ _ _ _ hb]
        exact j1 b hb
      · rcases (by omega : i' < i ∨ i' = i) with y | y
        · have n1 : ¬ p i' = p i := fun z => by have := dist i' i (by omega) (by omega) z; omega
          have n2 : ¬ p i' = p (i + 1) := fun z => by have := dist i' (i + 1) (by omega) (by omega) z; omega
          have n3 : ¬ p (i' + 1) = p (i + 1) := fun z => by have := dist (i' + 1) (i + 1) (by omega) (by omega) z; omega
          have n4 : ¬ p (i' + 1) = p i := fun z => by
            rw [z] at t2'
            obtain ⟨y, hy⟩ := t2'
            exact j_tnh s5 t1 y hy
          rw [u2_ne _ _ _ _ (fun z => n2 z.2), u2_ne _ _ _ _ (fun z => n1 z.2), u2_ne _ _ _ _ (fun z => n3 z.2), u2_ne _ _ _ _ (fun z => n4 z.2)]
          exact j2 i' y t1' t2'
        · subst y
          rw [u2_ne _ _ _ _ (fun z => apart z.2), u2_same, u2_same]
          exact ⟨rfl, rfl⟩
      · obtain ⟨x1, x2⟩ := hx i (by omega) t1 t2
        rw [u2_ne _ _ _ _ (fun z => x2 z.2), u2_ne _ _ _ _ (fun z => x1 z.2)]
        exact j3 x (fun i' hi' => hx i' (by omega))
  -- the first loop
  have one : ∀ (d i : Nat) (J : zFI), i + d = k → (∀ b, b ≠ j + 5 → J b = I b) → (∀ x, ((∃ i', i' < i ∧ jHl F (p i') ∧ jTn F (p (i' + 1)) ∧ (x = p i' ∨ x = p (i' + 1))) → J (j + 5) x = -1) ∧ ((∀ i', i' < i → jHl F (p i') → jTn F (p (i' + 1)) → x ≠ p i' ∧ x ≠ p (i' + 1)) → J (j + 5) x = I (j + 5) x)) →
      ZW G mX4_turnOver fX4_turnOver lX4_turnOver 5 [zo G j, .int (nI a), .int (nI z), .int (nI (p i)), .int (nI i), .null] [] S J L 0 0 Q := by
    intro d
    induction d with
    | zero =>
      intro i J hi j1 j2
      have : i = k := by omega
      subst this
      have go : ZW G mX4_turnOver fX4_turnOver lX4_turnOver 79 [zo G j, .int (nI a), .int (nI z), .int (nI a), .int 0, .null] [] S J L 0 0 Q := by
        have := two (J (j + 5)) j2 i 0 J (by omega) j1 (fun i' hi' => absurd hi' (Nat.not_lt_zero _)) (fun x _ => rfl)
        rw [← h0] at this
        exact this
      exact vX4_turnOver_5 hS hj ⟨fun _ => go, fun _ => ⟨fun _ => go, fun q => absurd (by rw [hz]) q⟩⟩
    | succ d ih =>
      intro i J hi j1 j2
      have p50 := h50 i (by omega)
      have q50 := h50 (i + 1) (by omega)
      have en : J (j + 7) (p i) = nI (p (i + 1)) := by rw [j1 _ (by omega)]; exact hnx i (by omega)
      refine vX4_turnOver_5 hS hj ⟨fun hc => absurd hc (show ¬ nI 50 ≤ nI i from nI_ge (by omega) (by omega)), fun _ => ⟨fun q => absurd ((nI_eq (by omega) (by have := h50 k (Nat.le_refl _); omega)).mp q) (hmin i (by omega)), fun _ => ?_⟩⟩
      rw [pick_in p50 (by decide), en, hl _ p50, tn _ q50, nI_1]
      have skip : ¬ (jHl F (p i) ∧ jTn F (p (i + 1))) → ZW G mX4_turnOver fX4_turnOver lX4_turnOver 5 [zo G j, .int (nI a), .int (nI z), .int (nI (p (i + 1))), .int (nI (i + 1)), .null] [] S J L 0 0 Q := fun hno => by
        refine ih (i + 1) J (by omega) j1 (fun x => ⟨fun q => ?_, fun q => (j2 x).2 (fun i' hi' => q i' (by omega))⟩)
        obtain ⟨i', y1, y2, y3, y4⟩ := q
        rcases (by omega : i' < i ∨ i' = i) with y | y
        · exact (j2 x).1 ⟨i', y, y2, y3, y4⟩
        · subst y
          exact absurd ⟨y2, y3⟩ hno
      refine ⟨fun q => skip (fun y => q y.1), fun q => ⟨fun q2 => skip (fun y => q2 y.2), fun q2 => ?_⟩⟩
      have t1 := Classical.not_not.mp q
      have t2 := Classical.not_not.mp q2
      have b1 := j_hlt s5 t1
      have b2 := j_tlt s5 t2
      rw [znIc (by omega), znIc (by omega)]
      refine ⟨znIin b1 (by decide), znIin b2 (by decide), ih (i + 1) _ (by omega) (fun b hb => ?_) (fun x => ⟨fun q => ?_, fun q => ?_⟩)⟩
      · rw [← u2_row _ _ _ _ hb, ← u2_row _ _ _ _ hb]
        exact j1 b hb
      · by_cases y1 : x = p (i + 1)
        · rw [y1, u2_same]
        · rw [u2_ne _ _ _ _ (fun z => y1 z.2)]
          by_cases y2 : x = p i
          · rw [y2, u2_same]
          · rw [u2_ne _ _ _ _ (fun z => y2 z.2)]
            obtain ⟨i', z1, z2, z3, z4⟩ := q
            rcases (by omega : i' < i ∨ i' = i) with y | y
            · exact (j2 x).1 ⟨i', y, z2, z3, z4⟩
            · subst y
              rcases z4 with z4 | z4
              · exact absurd z4 y2
              · exact absurd z4 y1
      · obtain ⟨y1, y2⟩ := q i (by omega) t1 t2
        rw [u2_ne _ _ _ _ (fun z => y2 z.2), u2_ne _ _ _ _ (fun z => y1 z.2)]
        exact (j2 x).2 (fun i' hi' => q i' (by omega))
  have := one k 0 I (by omega) (fun _ _ => rfl) (fun x => ⟨fun ⟨i', hi', _⟩ => absurd hi' (Nat.not_lt_zero _), fun _ => rfl⟩)
  rw [← h0] at this
  exact ZC.of' (vX4_turnOver_0 hS hj this) rfl (Nat.le_of_ble_eq_true rfl) rfl
/-- the row of partners of the join turned over -/
theorem j_pt_rot {I I' : zFI} {j : Nat} {F : Nat → Nat → Prop} {w : Nat → Nat → Int} {op : Nat → Prop} {m m' : Nat → Nat} {π : Nat → Int} {on : Nat → Prop} {s r : Nat → Nat} (hok : jOk F w) (hm : jVal F m) (hpt : jPt I j F m) (hc : jCyc on s r) (hg : jTig F w op m π on s) (hr : jRot F m m' on s)
    (a1 : ∀ x, x < 48 → jTn F x → on x → I' (j + 5) x = if s x < 48 then nI (s x) else -1) (a2 : ∀ x, x < 48 → jHl F x → on x → (jTn F (r x) → I' (j + 5) x = nI (r x)) ∧ (¬ jTn F (r x) → I' (j + 5) x = -1)) (a3 : ∀ x, x < 48 → ¬ on x ∨ (¬ jTn F x ∧ ¬ jHl F x) → I' (j + 5) x = I (j + 5) x) : jPt I' j F m' := by
  have hm' := j_rot_val hok hm hc hg hr
  intro x hx
  obtain ⟨p1, p2, p3⟩ := hpt x hx
  refine ⟨fun ht => ?_, fun hh => ?_, fun n1 n2 => ?_⟩
  · by_cases c : on x
    · rw [a1 x hx ht c, hr.1 x hx c ht]
      by_cases d : s x < 48
      · rw [if_pos d, if_pos d, if_neg (by omega)]
      · rw [if_neg d, if_neg d, if_pos rfl]
    · rw [a3 x hx (Or.inl c), hr.2 x hx (fun q => c q.1)]
      exact p1 ht
  · by_cases c : on x
    · by_cases d : jTn F (r x)
      · have e := (a2 x hx hh c).1 d
        have b := j_tlt hok d
        have mr : m' (r x) = x := by rw [hr.1 _ b (hc.2 x c).1 d, (hc.2 x c).2, if_pos hx]
        refine ⟨fun q => absurd mr (q _ b), fun t ht hmt => ?_⟩
        have := hm'.2 t (r x) ht b (by omega) (hmt.trans mr.symm)
        rw [e, this]
      · have e := (a2 x hx hh c).2 d
        refine ⟨fun _ => e, fun t ht hmt => ?_⟩
        exfalso
        rcases j_in_h hok hc hg hh c with ⟨b1, -⟩ | ⟨b1, b2, -⟩
        · exact d ⟨_, b1⟩
        · by_cases o : on t ∧ jTn F t
          · have := hr.1 t ht o.1 o.2
            rw [hmt] at this
            have st : s t = x := by
              by_cases y : s t < 48
              · rw [if_pos y] at this
                exact this.symm
              · rw [if_neg y] at this
                omega
            have : r x = t := by rw [← st]; exact (hc.1 t o.1).2
            rw [this] at d
            exact d o.2
          · have mt := hr.2 t ht o
            rw [hmt] at mt
            rcases j_out_h hok hg hh c with ⟨c1, -, c2, -⟩ | ⟨-, c2, -⟩
            · have := hm.2 (s x) t (hok _ _ c1).1 ht (by omega) (c2.trans mt)
              exact o ⟨by rw [← this]; exact (hc.1 x c).1, by rw [← this]; exact ⟨_, c1⟩⟩
            · exact c2 t ht mt.symm
    · have e := a3 x hx (Or.inl c)
      rw [e]
      have mm : ∀ t, t < 48 → (m' t = x ↔ m t = x) := fun t ht => by
        by_cases o : on t ∧ jTn F t
        · have h1 := hr.1 t ht o.1 o.2
          constructor
          · intro q
            rw [q] at h1
            have st : s t = x := by
              by_cases y : s t < 48
              · rw [if_pos y] at h1
                exact h1.symm
              · rw [if_neg y] at h1
                omega
            exact absurd (by rw [← st]; exact (hc.1 t o.1).1) c
          · intro q
            rcases j_in_t hok hc hg o.2 o.1 with ⟨b1, b2, b3, b4⟩ | ⟨b1, b2, b3, b4⟩
            · exact absurd (by rw [← q, b3]; exact (hc.2 t o.1).1) c
            · omega
        · rw [hr.2 t ht o]
      refine ⟨fun q => (p2 hh).1 (fun t ht z => q t ht ((mm t ht).mpr z)), fun t ht hmt => (p2 hh).2 t ht ((mm t ht).mp hmt)⟩
  · rw [a3 x hx (Or.inr ⟨n1, n2⟩)]
    exact p3 n1 n2
