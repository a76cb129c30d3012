section
variable {F : Nat → Nat → Prop} {w : Nat → Nat → Int} {op : Nat → Prop} {m : Nat → Nat} {π : Nat → Int} {d : Nat → Int} {nx : Nat → Nat}
theorem jE_ok (hok : jOk F w) (hπ : jFe F w op m π) : bOk (jE F w op m) π := by
  intro u v c he
  have hp := hπ u v c he
  rcases he with ⟨a1, a2, a3, a4⟩ | ⟨a1, a2, a3, a4⟩ | ⟨a1, a2, a3, a4, a5⟩ | ⟨a1, a2, a3, a4, a5⟩ | ⟨a1, a2, a3, a4⟩ | ⟨a1, a2, a3, a4⟩
  · have := hok _ _ a1
    omega
  · have := hok _ _ a1
    omega
  · have := j_tlt hok a2
    omega
  · have := j_tlt hok a2
    omega
  · have := j_hlt hok a2
    omega
  · have := j_hlt hok a2
    omega
theorem jE_all {u v : Nat} {c : Int} (h : jE F w op m u v c) : jE F w jAll m u v c := by
  rcases h with ⟨a1, a2, a3, a4⟩ | ⟨a1, a2, a3, a4⟩ | ⟨a1, a2, a3, a4, a5⟩ | ⟨a1, a2, a3, a4, a5⟩ | ⟨a1, a2, a3, a4⟩ | ⟨a1, a2, a3, a4⟩
  · exact Or.inl ⟨a1, trivial, a3, a4⟩
  · exact Or.inr (Or.inl ⟨a1, trivial, a3, a4⟩)
  · exact Or.inr (Or.inr (Or.inl ⟨a1, a2, trivial, a4, a5⟩))
  · exact Or.inr (Or.inr (Or.inr (Or.inl ⟨a1, a2, trivial, a4, a5⟩)))
  · exact Or.inr (Or.inr (Or.inr (Or.inr (Or.inl ⟨a1, a2, a3, a4⟩))))
  · exact Or.inr (Or.inr (Or.inr (Or.inr (Or.inr ⟨a1, a2, a3, a4⟩))))
theorem jFe_op (h : jFe F w jAll m π) : jFe F w op m π := fun u v c he => h u v c (jE_all he)
/-- A: one pair more -/
theorem j_aug (hok : jOk F w) (hm : jVal F m) (hπ : jFe F w jAll m π) (hD : bD (jE F w jAll m) 49 d nx) (hd : ¬ d 48 = 1000000) :
    ∃ k π', k ≤ 49 ∧ it nx k 48 = 49 ∧ (∀ i, i < k → ¬ it nx i 48 = 49) ∧ (∀ i, i ≤ k → it nx i 48 < 50) ∧ (∃ r, jCyc (pOn nx k 48) (pS nx 49 48) r) ∧ jTig F w jAll m π' (pOn nx k 48) (pS nx 49 48) ∧ jFe F w jAll m π' := by
  have hE := jE_ok hok hπ
  obtain ⟨k, k1, k2, k3, k4, k5, k6⟩ := b_shift hE hD (by omega : 48 < 50) hd
  refine ⟨k, jSh π d 49 (d 48 - π 48 + π 49), k1, k2, k3, k4, j_cyc k2 k3, fun x hx => ?_, jSh_ok hE hD k5⟩
  unfold pS
  by_cases q : x = 49
  · exact Or.inl ⟨q, if_pos q⟩
  · rw [if_neg q]
    exact Or.inr (k6 x hx q)
/-- A': none more -/
theorem j_full (hok : jOk F w) (hπ : jFe F w jAll m π) (hD : bD (jE F w jAll m) 49 d nx) (hd : d 48 = 1000000) : ∃ π', jFe F w jAll m π' ∧ 1000 ≤ π' 48 - π' 49 := by
  have hE := jE_ok hok hπ
  refine ⟨jSh π d 49 (1000 + (π 49 - π 48).natAbs), jSh_ok hE hD (by omega), ?_⟩
  unfold jSh
  rw [if_pos hd, if_neg (by rw [hD.1.1]; omega), hD.1.1]
  omega
/-- B: a round of no cost by t to h -/
theorem j_turn {t h : Nat} (hok : jOk F w) (hπ : jFe F w jAll m π) (hD : bD (jE F w op m) t d nx) (ht : F t h) (ho : op t) (hn : ¬ m t = h) (h0 : d h + w t h = 0) :
    ∃ k, k ≤ 49 ∧ it nx k h = t ∧ (∀ i, i < k → ¬ it nx i h = t) ∧ (∀ i, i ≤ k → it nx i h < 50) ∧ (∃ r, jCyc (pOn nx k h) (pS nx t h) r) ∧ jTig F w op m π (pOn nx k h) (pS nx t h) := by
  have hE := jE_ok hok (jFe_op (op := op) hπ)
  have b := hok _ _ ht
  have et := jFe_op (op := op) hπ t h (w t h) (Or.inl ⟨ht, ho, hn, rfl⟩)
  obtain ⟨k, k1, k2, k3, k4, k5, k6⟩ := b_zero hE hD (a := h) (by omega) (by omega) (by omega)
  refine ⟨k, k1, k2, k3, k5, j_cyc k2 k3, fun x hx => ?_⟩
  unfold pS
  by_cases q : x = t
  · rw [if_pos q, q]
    exact Or.inr ⟨w t h, Or.inl ⟨ht, ho, hn, rfl⟩, by omega⟩
  · rw [if_neg q]
    exact Or.inr (k6 x hx q)
/-- B': else no best join takes it -/
theorem j_excl {t h : Nat} {m' : Nat → Nat} (hok : jOk F w) (hπ : jFe F w jAll m π) (hm : jOpt F w m) (hm' : jOpt F w m') (hcl : ∀ i, i < 48 → ¬ op i → m' i = m i) (hD : bD (jE F w op m) t d nx) (ht : F t h) (ho : op t) (hn : ¬ m t = h) (h0 : d h = 1000000 ∨ ¬ d h + w t h = 0) : ¬ m' t = h := by
  intro q
  have hE := jE_ok hok (jFe_op (op := op) hπ)
  have b := hok _ _ ht
  have et := jFe_op (op := op) hπ t h (w t h) (Or.inl ⟨ht, ho, hn, rfl⟩)
  have hs := jSh_ok hE hD (B := 1) (by omega)
  have e := j_opt_eq hm hm'
  have weak := (j_weak hok hm.1 hm'.1 (π := jSh π d t 1) hs hcl).2 ⟨t, b.1, by rw [q]; exact fun z => hn z.symm, Or.inl ⟨by rw [q]; omega, ?_⟩⟩
  · rw [e.1, e.2, Int.sub_self, Int.sub_self, Int.zero_mul] at weak
    omega
  · rw [q]
    have st : jSh π d t 1 t = π t := by
      unfold jSh
      rw [if_neg (by rw [hD.1.1]; omega), hD.1.1]
      omega
    rw [st]
    unfold jSh
    by_cases c : d h = 1000000
    · rw [if_pos c]
      omega
    · rw [if_neg c]
      have := b_e hE hD.1 (by omega : h < 50) c
      have := h0.resolve_left c
      omega
/-- C: is a pair in all best joins -/
theorem j_loose {t h : Nat} (hok : jOk F w) (hπ : jFe F w jAll m π) (hg : 1000 ≤ π 48 - π 49) (hm : jVal F m) (hD : bD (jE F w jAll m) h d nx) (ht : F t h) (hn : m t = h) (h0 : d t = w t h) : ∃ m', jOpt F w m' ∧ ¬ m' t = h := by
  have hE := jE_ok hok hπ
  have b := hok _ _ ht
  have et := hπ h t (- w t h) (Or.inr (Or.inl ⟨ht, trivial, hn, rfl⟩))
  obtain ⟨k, k1, k2, k3, k4, k5, k6⟩ := b_zero hE hD (a := t) (by omega) (by omega) (by omega)
  obtain ⟨r, hr⟩ := j_cyc k2 k3
  have hth : ¬ t = h := fun q => by
    rw [q] at ht
    exact b.2.2.2.2.1 h (by rw [q] at b; exact ht)
  have tig : jTig F w jAll m π (pOn nx k t) (pS nx h t) := fun x hx => by
    unfold pS
    by_cases q : x = h
    · rw [if_pos q, q]
      exact Or.inr ⟨- w t h, Or.inr (Or.inl ⟨ht, trivial, hn, rfl⟩), by omega⟩
    · rw [if_neg q]
      exact Or.inr (k6 x hx q)
  have dec := fun x => Classical.propDecidable (pOn nx k t x ∧ jTn F x)
  have rot : jRot F m (fun x => @ite _ (pOn nx k t x ∧ jTn F x) (dec x) (if pS nx h t x < 48 then pS nx h t x else 50) (m x)) (pOn nx k t) (pS nx h t) := by
    constructor
    · intro x _ h1 h2
      exact @if_pos _ (dec x) ⟨h1, h2⟩ _ _ _
    · intro x _ h1
      exact @if_neg _ (dec x) h1 _ _ _
  refine ⟨_, j_gap_opt hok (j_rot_val hok hm hr tig rot) (j_rot_fe hok hm hπ hr tig rot) hg, fun q => ?_⟩
  have ont : pOn nx k t t := ⟨0, by omega, rfl⟩
  have e := q.symm.trans (rot.1 t b.1 ont ⟨h, ht⟩)
  rcases j_out_t hok tig ⟨h, ht⟩ ont with ⟨c1, c2, c3, c4⟩ | ⟨c1, c2, c3, c4⟩
  · rw [if_pos (hok _ _ c1).2.1] at e
    exact c3 (by rw [← e, hn])
  · rw [if_neg (by omega)] at e
    omega
theorem j_tied {t h : Nat} {m' : Nat → Nat} (hok : jOk F w) (hπ : jFe F w jAll m π) (hm : jOpt F w m) (hm' : jOpt F w m') (hD : bD (jE F w jAll m) h d nx) (ht : F t h) (hn : m t = h) (h0 : ¬ d t = w t h) : m' t = h := by
  refine Classical.byContradiction (fun q => ?_)
  have hE := jE_ok hok hπ
  have b := hok _ _ ht
  have et := hπ h t (- w t h) (Or.inr (Or.inl ⟨ht, trivial, hn, rfl⟩))
  have hs := jSh_ok hE hD (B := 1) (by omega)
  have e := j_opt_eq hm hm'
  have weak := (j_weak hok hm.1 hm'.1 (π := jSh π d h 1) hs (fun i _ z => absurd trivial z)).2 ⟨t, b.1, by rw [hn]; exact q, Or.inr ⟨by rw [hn]; omega, ?_⟩⟩
  · rw [e.1, e.2, Int.sub_self, Int.sub_self, Int.zero_mul] at weak
    omega
  · rw [hn]
    have st : jSh π d h 1 h = π h := by
      unfold jSh
      rw [if_neg (by rw [hD.1.1]; omega), hD.1.1]
      omega
    rw [st]
    unfold jSh
    by_cases c : d t = 1000000
    · rw [if_pos c]
      omega
    · rw [if_neg c]
      have := b_e hE hD.1 (by omega : t < 50) c
      omega
end
