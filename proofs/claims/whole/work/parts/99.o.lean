theorem zmx_le {a b v : Int32} : zmx a b ≤ v ↔ a ≤ v ∧ b ≤ v := by
  rw [zle, zle, zle, zmx_toInt]
  split <;> omega
theorem zwf_le {bf W : Nat → Int32} {s : Nat} {v : Int32} : ∀ j, zwf bf W s j ≤ v → (∃ i, i < j ∧ zcc bf i s ∧ W (s ||| 2 ^ i) ≤ v) ∨ 16 ≤ v := by
  intro j
  induction j with
  | zero => intro h; exact Or.inr h
  | succ j ih =>
    intro h
    by_cases c : zcc bf j s
    · rw [zwf_y c] at h
      by_cases d : W (s ||| 2 ^ j) < zwf bf W s j
      · rw [if_pos d] at h
        exact Or.inl ⟨j, by omega, c, h⟩
      · rw [if_neg d] at h
        rcases ih h with ⟨i, i1, i2⟩ | e
        · exact Or.inl ⟨i, by omega, i2⟩
        · exact Or.inr e
    · rw [zwf_n c] at h
      rcases ih h with ⟨i, i1, i2⟩ | e
      · exact Or.inl ⟨i, by omega, i2⟩
      · exact Or.inr e
/-- from each set within the worst one can go on within it -/
theorem z_goes {bf D pr W : Nat → Int32} {m : Nat} {V : Nat → Int64} (hm : m ≤ 16) (hV : zWy bf m V) (full : ¬ V (2 ^ m - 1) = 0) (hpr : ∀ s, 0 ≤ (pr s).toInt ∧ (pr s).toInt ≤ 16) (hW : ∀ s, s < 2 ^ m - 1 → ¬ V s = 0 → W s = zmx (zwf bf W s m) (pr s))
    (key : ∀ s, s < 2 ^ m → ¬ V s = 0 → 0 ≤ (D s).toInt ∧ (D s).toInt ≤ 16 ∧ W s = zmx (D s) (pr s)) {s : Nat} {v : Int32} (hs : s < 2 ^ m - 1) (hv : ¬ V s = 0) (h : W s ≤ v) : ∃ i, i < m ∧ zcc bf i s ∧ W (s ||| 2 ^ i) ≤ v := by
  have pos := Nat.two_pow_pos m
  have p := zWy_pos hm hV
  rw [hW s hs hv] at h
  rcases zwf_le m (zmx_le.mp h).1 with q | q
  · exact q
  · obtain ⟨i, i1, i2⟩ := z_alive hm hV s (2 ^ m - 1) (by omega) full (not_full hs)
    obtain ⟨d1, d2, d3⟩ := key _ (add_lt (show s < 2 ^ m by omega) i1) (p.2.1 s i (by omega) i1 i2 hv)
    refine ⟨i, i1, i2, ?_⟩
    rw [d3, zmx_le]
    have q := zle.mp q
    rw [show (16 : Int32).toInt = 16 from rfl] at q
    have := hpr (s ||| 2 ^ i)
    rw [zle, zle]
    omega
