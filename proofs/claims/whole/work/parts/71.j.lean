/-! turning a tight round over -/
def jCyc (on : Nat → Prop) (s r : Nat → Nat) : Prop := (∀ x, on x → on (s x) ∧ r (s x) = x) ∧ ∀ x, on x → on (r x) ∧ s (r x) = x
def jTig (F : Nat → Nat → Prop) (w : Nat → Nat → Int) (op : Nat → Prop) (m : Nat → Nat) (π : Nat → Int) (on : Nat → Prop) (s : Nat → Nat) : Prop := ∀ x, on x → (x = 49 ∧ s x = 48) ∨ ∃ c, jE F w op m x (s x) c ∧ π x = c + π (s x)
def jRot (F : Nat → Nat → Prop) (m m' : Nat → Nat) (on : Nat → Prop) (s : Nat → Nat) : Prop := (∀ t, t < 48 → on t → jTn F t → m' t = if s t < 48 then s t else 50) ∧ ∀ t, t < 48 → ¬ (on t ∧ jTn F t) → m' t = m t
section
variable {F : Nat → Nat → Prop} {w : Nat → Nat → Int} {op : Nat → Prop} {m : Nat → Nat} {π : Nat → Int} {on : Nat → Prop} {s r : Nat → Nat}
theorem j_tlt (hok : jOk F w) {t : Nat} (ht : jTn F t) : t < 48 := by
  obtain ⟨h, hh⟩ := ht
  exact (hok _ _ hh).1
theorem j_hlt (hok : jOk F w) {t : Nat} (ht : jHl F t) : t < 48 := by
  obtain ⟨h, hh⟩ := ht
  exact (hok _ _ hh).2.1
theorem j_tnh (hok : jOk F w) {t : Nat} (ht : jTn F t) (x : Nat) : ¬ F x t := by
  obtain ⟨h, hh⟩ := ht
  exact (hok _ _ hh).2.2.2.2.2 x
theorem j_hnt (hok : jOk F w) {t : Nat} (ht : jHl F t) (x : Nat) : ¬ F t x := by
  obtain ⟨h, hh⟩ := ht
  exact (hok _ _ hh).2.2.2.2.1 x
theorem j_out_t (hok : jOk F w) (hg : jTig F w op m π on s) {t : Nat} (ht : jTn F t) (ho : on t) : (F t (s t) ∧ op t ∧ ¬ m t = s t ∧ π t = w t (s t) + π (s t)) ∨ (s t = 48 ∧ op t ∧ ¬ m t = 50 ∧ π t = π 48) := by
  have h48 := j_tlt hok ht
  rcases hg t ho with ⟨q, -⟩ | ⟨c, (⟨a1, a2, a3, a4⟩ | ⟨a1, a2, a3, a4⟩ | ⟨a1, a2, a3, a4, a5⟩ | ⟨a1, a2, a3, a4, a5⟩ | ⟨a1, a2, a3, a4⟩ | ⟨a1, a2, a3, a4⟩), e⟩
  · omega
  · exact Or.inl ⟨a1, a2, a3, by rw [e, a4]⟩
  · exact absurd a1 (j_tnh hok ht _)
  · omega
  · exact Or.inr ⟨a1, a3, a4, by rw [e, a1, a5]; omega⟩
  · obtain ⟨x, hx⟩ := a2
    exact absurd hx (j_tnh hok ht _)
  · omega
theorem j_in_t (hok : jOk F w) (hc : jCyc on s r) (hg : jTig F w op m π on s) {t : Nat} (ht : jTn F t) (ho : on t) : (F t (r t) ∧ op t ∧ m t = r t ∧ π (r t) = - w t (r t) + π t) ∨ (r t = 48 ∧ op t ∧ m t = 50 ∧ π 48 = π t) := by
  have h48 := j_tlt hok ht
  obtain ⟨or, sr⟩ := hc.2 t ho
  have g := hg (r t) or
  rw [sr] at g
  rcases g with ⟨-, q⟩ | ⟨c, (⟨a1, a2, a3, a4⟩ | ⟨a1, a2, a3, a4⟩ | ⟨a1, a2, a3, a4, a5⟩ | ⟨a1, a2, a3, a4, a5⟩ | ⟨a1, a2, a3, a4⟩ | ⟨a1, a2, a3, a4⟩), e⟩
  · omega
  · exact absurd a1 (j_tnh hok ht _)
  · exact Or.inl ⟨a1, a2, a3, by rw [e, a4]⟩
  · exact Or.inr ⟨a1, a3, a4, by rw [a1] at e; omega⟩
  · omega
  · omega
  · obtain ⟨x, hx⟩ := a2
    exact absurd hx (j_tnh hok ht _)
theorem j_out_h (hok : jOk F w) (hg : jTig F w op m π on s) {h : Nat} (hh : jHl F h) (ho : on h) : (F (s h) h ∧ op (s h) ∧ m (s h) = h ∧ π h = - w (s h) h + π (s h)) ∨ (s h = 49 ∧ jFr m h ∧ π h = π 49) := by
  have h48 := j_hlt hok hh
  rcases hg h ho with ⟨q, -⟩ | ⟨c, (⟨a1, a2, a3, a4⟩ | ⟨a1, a2, a3, a4⟩ | ⟨a1, a2, a3, a4, a5⟩ | ⟨a1, a2, a3, a4, a5⟩ | ⟨a1, a2, a3, a4⟩ | ⟨a1, a2, a3, a4⟩), e⟩
  · omega
  · exact absurd a1 (j_hnt hok hh _)
  · exact Or.inl ⟨a1, a2, a3, by rw [e, a4]⟩
  · omega
  · obtain ⟨x, hx⟩ := a2
    exact absurd hx (j_hnt hok hh _)
  · exact Or.inr ⟨a1, a3, by rw [a1] at e; omega⟩
  · omega
theorem j_in_h (hok : jOk F w) (hc : jCyc on s r) (hg : jTig F w op m π on s) {h : Nat} (hh : jHl F h) (ho : on h) : (F (r h) h ∧ op (r h) ∧ ¬ m (r h) = h ∧ π (r h) = w (r h) h + π h) ∨ (r h = 49 ∧ ¬ jFr m h ∧ π 49 = π h) := by
  have h48 := j_hlt hok hh
  obtain ⟨or, sr⟩ := hc.2 h ho
  have g := hg (r h) or
  rw [sr] at g
  rcases g with ⟨-, q⟩ | ⟨c, (⟨a1, a2, a3, a4⟩ | ⟨a1, a2, a3, a4⟩ | ⟨a1, a2, a3, a4, a5⟩ | ⟨a1, a2, a3, a4, a5⟩ | ⟨a1, a2, a3, a4⟩ | ⟨a1, a2, a3, a4⟩), e⟩
  · omega
  · exact Or.inl ⟨a1, a2, a3, by rw [e, a4]⟩
  · exact absurd a1 (j_hnt hok hh _)
  · obtain ⟨x, hx⟩ := a2
    exact absurd hx (j_hnt hok hh _)
  · omega
  · omega
  · exact Or.inr ⟨a1, a3, by rw [a1] at e; omega⟩
theorem j_rot_val {m' : Nat → Nat} (hok : jOk F w) (hm : jVal F m) (hc : jCyc on s r) (hg : jTig F w op m π on s) (hr : jRot F m m' on s) : jVal F m' := by
  have val : ∀ t, t < 48 → m' t = 50 ∨ F t (m' t) := fun t ht => by
    by_cases c : on t ∧ jTn F t
    · rw [hr.1 t ht c.1 c.2]
      rcases j_out_t hok hg c.2 c.1 with ⟨f, -⟩ | ⟨f, -⟩
      · rw [if_pos (hok _ _ f).2.1]
        exact Or.inr f
      · rw [if_neg (by omega)]
        exact Or.inl rfl
    · rw [hr.2 t ht c]
      exact hm.1 t ht
  refine ⟨val, ?_⟩
  have mix : ∀ t t', t < 48 → t' < 48 → on t ∧ jTn F t → ¬ (on t' ∧ jTn F t') → ¬ m' t = 50 → m' t = m' t' → False := fun t t' ht ht' c c' hn he => by
    rw [hr.2 t' ht' c'] at he
    rw [hr.1 t ht c.1 c.2] at hn he
    rcases j_out_t hok hg c.2 c.1 with ⟨f, -⟩ | ⟨f, -⟩
    · rw [if_pos (hok _ _ f).2.1] at hn he
      have os := (hc.1 t c.1).1
      rcases j_out_h hok hg ⟨t, f⟩ os with ⟨g1, -, g2, -⟩ | ⟨-, g2, -⟩
      · have ft' := (hm.1 t' ht').resolve_left (by omega)
        have := hm.2 (s (s t)) t' (hok _ _ g1).1 ht' (by rw [g2]; exact hn) (by rw [g2, he])
        rw [← this] at c'
        exact c' ⟨(hc.1 _ os).1, ⟨_, g1⟩⟩
      · exact g2 t' ht' he.symm
    · rw [if_neg (by omega)] at hn
      exact hn rfl
  intro t t' ht ht' hn he
  by_cases c : on t ∧ jTn F t
  · by_cases c' : on t' ∧ jTn F t'
    · rw [hr.1 t ht c.1 c.2] at hn he
      rw [hr.1 t' ht' c'.1 c'.2] at he
      have h1 : s t < 48 := Classical.not_not.mp (fun q => hn (if_neg q))
      rw [if_pos h1] at he
      have h2 : s t' < 48 := Classical.not_not.mp (fun q => by rw [if_neg q] at he; omega)
      rw [if_pos h2] at he
      rw [← (hc.1 t c.1).2, he, (hc.1 t' c'.1).2]
    · exact (mix t t' ht ht' c c' hn he).elim
  · by_cases c' : on t' ∧ jTn F t'
    · exact (mix t' t ht' ht c' c (by rw [← he]; exact hn) he.symm).elim
    · rw [hr.2 t ht c] at hn he
      rw [hr.2 t' ht' c'] at he
      exact hm.2 t t' ht ht' hn he
theorem j_rot_fe {m' : Nat → Nat} {op0 : Nat → Prop} (hok : jOk F w) (hm : jVal F m) (hπ : jFe F w op0 m π) (hc : jCyc on s r) (hg : jTig F w op m π on s) (hr : jRot F m m' on s) : jFe F w op0 m' π := by
  have ne_on : ∀ t, t < 48 → ¬ m' t = m t → on t ∧ jTn F t := fun t ht q => Classical.not_not.mp (fun z => q (hr.2 t ht z))
  intro u v c hE
  rcases hE with ⟨a1, a2, a3, a4⟩ | ⟨a1, a2, a3, a4⟩ | ⟨a1, a2, a3, a4, a5⟩ | ⟨a1, a2, a3, a4, a5⟩ | ⟨a1, a2, a3, a4⟩ | ⟨a1, a2, a3, a4⟩
  · by_cases q : m u = v
    · have hu := (hok _ _ a1).1
      obtain ⟨o1, o2⟩ := ne_on u hu (fun z => a3 (z.trans q))
      rcases j_in_t hok hc hg o2 o1 with ⟨b1, b2, b3, b4⟩ | ⟨b1, b2, b3, b4⟩
      · rw [← b3, q] at b4
        omega
      · have := (hok _ _ a1).2.1
        omega
    · exact hπ _ _ _ (Or.inl ⟨a1, a2, q, a4⟩)
  · by_cases q : m v = u
    · exact hπ _ _ _ (Or.inr (Or.inl ⟨a1, a2, q, a4⟩))
    · have hv := (hok _ _ a1).1
      obtain ⟨o1, o2⟩ := ne_on v hv (fun z => q (z.symm.trans a3))
      have e := hr.1 v hv o1 o2
      have hu := (hok _ _ a1).2.1
      rcases j_out_t hok hg o2 o1 with ⟨b1, b2, b3, b4⟩ | ⟨b1, b2, b3, b4⟩
      · rw [if_pos (hok _ _ b1).2.1, a3] at e
        rw [← e] at b4
        omega
      · rw [if_neg (by omega), a3] at e
        omega
  · have hv := j_tlt hok a2
    by_cases q : m v = 50
    · exact hπ _ _ _ (Or.inr (Or.inr (Or.inl ⟨a1, a2, a3, q, a5⟩)))
    · obtain ⟨o1, o2⟩ := ne_on v hv (fun z => q (z.symm.trans a4))
      have e := hr.1 v hv o1 o2
      rcases j_out_t hok hg o2 o1 with ⟨b1, b2, b3, b4⟩ | ⟨b1, b2, b3, b4⟩
      · have := (hok _ _ b1).2.1
        rw [if_pos this, a4] at e
        omega
      · rw [a1, a5]
        omega
  · have hu := j_tlt hok a2
    by_cases q : m u = 50
    · obtain ⟨o1, o2⟩ := ne_on u hu (fun z => a4 (z.trans q))
      rcases j_in_t hok hc hg o2 o1 with ⟨b1, b2, b3, b4⟩ | ⟨b1, b2, b3, b4⟩
      · have := (hok _ _ b1).2.1
        omega
      · rw [a1, a5]
        omega
    · exact hπ _ _ _ (Or.inr (Or.inr (Or.inr (Or.inl ⟨a1, a2, a3, q, a5⟩))))
  · have hu := j_hlt hok a2
    by_cases q : jFr m u
    · exact hπ _ _ _ (Or.inr (Or.inr (Or.inr (Or.inr (Or.inl ⟨a1, a2, q, a4⟩)))))
    · obtain ⟨t, ht⟩ := Classical.not_forall.mp q
      obtain ⟨h1, h2⟩ := Classical.not_imp.mp ht
      have h2 := Classical.not_not.mp h2
      obtain ⟨o1, o2⟩ := ne_on t h1 (fun z => a3 t h1 (z.trans h2))
      rcases j_in_t hok hc hg o2 o1 with ⟨b1, b2, b3, b4⟩ | ⟨b1, b2, b3, b4⟩
      · have ou : on u := by
          have := (hc.2 t o1).1
          rw [← b3, h2] at this
          exact this
        rcases j_in_h hok hc hg a2 ou with ⟨d1, d2, d3, d4⟩ | ⟨d1, d2, d3⟩
        · exfalso
          have hrt := (hok _ _ d1).1
          have := hr.1 (r u) hrt (hc.2 u ou).1 ⟨_, d1⟩
          rw [(hc.2 u ou).2, if_pos hu] at this
          exact a3 _ hrt this
        · rw [a1, a4]
          omega
      · omega
  · have hv := j_hlt hok a2
    by_cases q : jFr m v
    · obtain ⟨t, ht⟩ := Classical.not_forall.mp a3
      obtain ⟨h1, h2⟩ := Classical.not_imp.mp ht
      have h2 := Classical.not_not.mp h2
      obtain ⟨o1, o2⟩ := ne_on t h1 (fun z => q t h1 (z.symm.trans h2))
      have e := hr.1 t h1 o1 o2
      rcases j_out_t hok hg o2 o1 with ⟨b1, b2, b3, b4⟩ | ⟨b1, b2, b3, b4⟩
      · rw [if_pos (hok _ _ b1).2.1, h2] at e
        have ov := (hc.1 t o1).1
        rw [← e] at ov
        rcases j_out_h hok hg a2 ov with ⟨d1, d2, d3, d4⟩ | ⟨d1, d2, d3⟩
        · exact absurd d3 (q _ (hok _ _ d1).1)
        · rw [a1, a4]
          omega
      · rw [if_neg (by omega), h2] at e
        omega
    · exact hπ _ _ _ (Or.inr (Or.inr (Or.inr (Or.inr (Or.inr ⟨a1, a2, q, a4⟩)))))
end
