theorem zmf_some {bf D pr : Nat → Int32} {s : Nat} : ∀ j, ¬ zmf bf D pr s j = 1000000 → ∃ i, i < j ∧ zcc bf i s ∧ ¬ D (s ||| 2 ^ i) = 1000000 := by
  intro j
  induction j with
  | zero => intro h; exact absurd rfl h
  | succ j ih =>
    intro h
    by_cases c : zcc bf j s ∧ ¬ D (s ||| 2 ^ j) = 1000000
    · exact ⟨j, by omega, c.1, c.2⟩
    · rw [zmf_n c] at h
      obtain ⟨i, i1, i2⟩ := ih h
      exact ⟨i, by omega, i2⟩
/-- what cannot be raised has no most -/
theorem z_never {bf D pr : Nat → Int32} {m : Nat} {V : Nat → Int64} (hm : m ≤ 16) (hV : zWy bf m V) (hD : zMs bf m D pr) (none : V (2 ^ m - 1) = 0) : D 0 = 1000000 := by
  have pos := Nat.two_pow_pos m
  have p := zWy_pos hm hV
  have key : ∀ k s, s + k = 2 ^ m → s < 2 ^ m → ¬ V s = 0 → D s = 1000000 := by
    intro k
    induction k using Nat.strongRecOn with
    | _ k ih =>
      intro s hk hs hv
      refine Classical.byContradiction (fun no => ?_)
      by_cases c : s = 2 ^ m - 1
      · rw [c] at hv
        exact hv none
      · rw [hD.2 s (by omega)] at no
        obtain ⟨i, i1, i2, i3⟩ := zmf_some m no
        have gt := add_gt i2.1
        have lt := add_lt hs i1
        exact i3 (ih (2 ^ m - (s ||| 2 ^ i)) (by omega) _ (by omega) lt (p.2.1 s i hs i1 i2 hv))
  exact key (2 ^ m) 0 (by omega) (by omega) p.1
