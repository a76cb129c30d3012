/-- no set that comes to stand is a dead end, if all can be raised -/
theorem z_alive {bf : Nat → Int32} {m : Nat} {V : Nat → Int64} (hm : m ≤ 16) (h : zWy bf m V) (s : Nat) : ∀ u, u < 2 ^ m → ¬ V u = 0 → (∃ k, u.testBit k = true ∧ ¬ s.testBit k = true) → ∃ i, i < m ∧ zcc bf i s := by
  have p := zWy_pos hm h
  intro u
  induction u using Nat.strongRecOn with
  | _ u ih =>
    intro hu hv hk
    obtain ⟨k, k1, k2⟩ := hk
    have u0 : 0 < u := Nat.pos_of_ne_zero (fun q => by
      rw [q, Nat.zero_testBit] at k1
      exact Bool.noConfusion k1)
    obtain ⟨i, i1, i2, i3, i4⟩ := p.2.2 u u0 hu hv
    have less := del_less i2
    by_cases c : ∃ k, (u ^^^ 2 ^ i).testBit k = true ∧ ¬ s.testBit k = true
    · exact ih _ less (by omega) i4 c
    · refine ⟨i, i1, fun q => ?_, fun k' hk' q => Classical.byContradiction (fun no => c ⟨k', i3.2 k' hk' q, no⟩)⟩
      by_cases e : k = i
      · rw [e] at k2
        exact k2 q
      · exact c ⟨k, (del_bit i2 k).mpr ⟨k1, e⟩, k2⟩
noncomputable def zwf (bf W : Nat → Int32) (s : Nat) : Nat → Int32
  | 0 => 16
  | j + 1 => @ite _ (zcc bf j s) (Classical.propDecidable _) (if W (s ||| 2 ^ j) < zwf bf W s j then W (s ||| 2 ^ j) else zwf bf W s j) (zwf bf W s j)
theorem zwf_y {bf W : Nat → Int32} {s j : Nat} (h : zcc bf j s) : zwf bf W s (j + 1) = if W (s ||| 2 ^ j) < zwf bf W s j then W (s ||| 2 ^ j) else zwf bf W s j := @if_pos _ (Classical.propDecidable _) h _ _ _
theorem zwf_n {bf W : Nat → Int32} {s j : Nat} (h : ¬ zcc bf j s) : zwf bf W s (j + 1) = zwf bf W s j := @if_neg _ (Classical.propDecidable _) h _ _ _
theorem zmx_toInt (a b : Int32) : (zmx a b).toInt = if a.toInt ≤ b.toInt then b.toInt else a.toInt := by
  unfold zmx
  by_cases c : a ≤ b
  · rw [if_pos c, if_pos (zle.mp c)]
  · rw [if_neg c, if_neg (fun q => c (zle.mpr q))]
theorem full_bit {m k : Nat} : (2 ^ m - 1).testBit k = true ↔ k < m := by
  rw [Nat.testBit_two_pow_sub_one, decide_eq_true_iff]
theorem not_full {m s : Nat} (hs : s < 2 ^ m - 1) : ∃ k, (2 ^ m - 1).testBit k = true ∧ ¬ s.testBit k = true := Classical.byContradiction (fun no => by
  have : s = 2 ^ m - 1 := bits_ext (fun k => ⟨fun q => full_bit.mpr (Classical.byContradiction (fun y => by
    have := Nat.testBit_lt_two_pow (show s < 2 ^ k from Nat.lt_of_lt_of_le (show s < 2 ^ m by omega) (Nat.pow_le_pow_right (by omega) (by omega)))
    rw [q] at this
    exact Bool.noConfusion this)), fun q => Classical.byContradiction (fun y => no ⟨k, q, y⟩)⟩)
  omega)
/-- the class's worst against the model's most -/
theorem z_worst {bf D pr W : Nat → Int32} {m : Nat} {V : Nat → Int64} (hm : m ≤ 16) (hV : zWy bf m V) (full : ¬ V (2 ^ m - 1) = 0) (hD : zMs bf m D pr) (hpr : ∀ s, 0 ≤ (pr s).toInt ∧ (pr s).toInt ≤ 16) (pf : pr (2 ^ m - 1) = 0) (hW0 : W (2 ^ m - 1) = 0) (hW : ∀ s, s < 2 ^ m - 1 → ¬ V s = 0 → W s = zmx (zwf bf W s m) (pr s)) :
    ∀ s, s < 2 ^ m → ¬ V s = 0 → 0 ≤ (D s).toInt ∧ (D s).toInt ≤ 16 ∧ W s = zmx (D s) (pr s) := by
  have pos := Nat.two_pow_pos m
  have p := zWy_pos hm hV
  have key : ∀ k s, s + k = 2 ^ m → ¬ V s = 0 → s < 2 ^ m → 0 ≤ (D s).toInt ∧ (D s).toInt ≤ 16 ∧ W s = zmx (D s) (pr s) := by
    intro k
    induction k using Nat.strongRecOn with
    | _ k ih =>
      intro s hk hv hs
      by_cases c : s = 2 ^ m - 1
      · rw [c, hD.1, hW0, pf]
        exact ⟨by decide, by decide, by decide⟩
      · have s1 : s < 2 ^ m - 1 := by omega
        have inner : ∀ j, j ≤ m → ((∀ i, i < j → ¬ zcc bf i s) ∧ zmf bf D pr s j = 1000000 ∧ zwf bf W s j = 16) ∨ (zmf bf D pr s j = zwf bf W s j ∧ 0 ≤ (zmf bf D pr s j).toInt ∧ (zmf bf D pr s j).toInt ≤ 16) := by
          intro j
          induction j with
          | zero => intro _; exact Or.inl ⟨fun i hi => absurd hi (Nat.not_lt_zero _), rfl, rfl⟩
          | succ j ihj =>
            intro hj
            have i1 := ihj (by omega)
            by_cases cc : zcc bf j s
            · have gt := add_gt cc.1
              have lt := add_lt (i := j) hs (by omega)
              have r := p.2.1 s j hs (by omega) cc hv
              obtain ⟨d1, d2, d3⟩ := ih (2 ^ m - (s ||| 2 ^ j)) (by omega) (s ||| 2 ^ j) (by omega) r lt
              have nm : ¬ D (s ||| 2 ^ j) = 1000000 := fun q => by
                rw [q, show (1000000 : Int32).toInt = 1000000 from rfl] at d2
                omega
              have q1 := hpr (s ||| 2 ^ j)
              have mx := zmx_toInt (D (s ||| 2 ^ j)) (pr (s ||| 2 ^ j))
              have mb : 0 ≤ (zmx (D (s ||| 2 ^ j)) (pr (s ||| 2 ^ j))).toInt ∧ (zmx (D (s ||| 2 ^ j)) (pr (s ||| 2 ^ j))).toInt ≤ 16 := by
                rw [mx]
                split <;> omega
              refine Or.inr ?_
              rw [zmf_y ⟨cc, nm⟩, zwf_y cc, d3]
              generalize zmx (D (s ||| 2 ^ j)) (pr (s ||| 2 ^ j)) = x at *
              unfold zmi
              rcases i1 with ⟨-, e1, e2⟩ | ⟨e1, e2, e3⟩
              · rw [e1, e2]
                have a1 : ¬ (1000000 : Int32) ≤ x := fun q => by
                  have := zle.mp q
                  rw [show (1000000 : Int32).toInt = 1000000 from rfl] at this
                  omega
                rw [if_neg a1]
                by_cases b : x < 16
                · rw [if_pos b]
                  exact ⟨rfl, mb⟩
                · rw [if_neg b]
                  refine ⟨?_, mb⟩
                  rw [zlt, show (16 : Int32).toInt = 16 from rfl] at b
                  rw [zeq, show (16 : Int32).toInt = 16 from rfl]
                  omega
              · rw [← e1]
                by_cases a : zmf bf D pr s j ≤ x
                · rw [if_pos a, if_neg (fun q => by
                    have := zle.mp a
                    have := zlt.mp q
                    omega)]
                  exact ⟨rfl, e2, e3⟩
                · rw [if_neg a, if_pos (Int32.not_le.mp a)]
                  exact ⟨rfl, mb⟩
            · rw [zmf_n (fun q => cc q.1), zwf_n cc]
              rcases i1 with ⟨e0, e1⟩ | e
              · refine Or.inl ⟨fun i hi => ?_, e1⟩
                rcases (by omega : i < j ∨ i = j) with y | y
                · exact e0 i y
                · rw [y]
                  exact cc
              · exact Or.inr e
        obtain ⟨i, i1, i2⟩ := z_alive hm hV s (2 ^ m - 1) (by omega) full (not_full s1)
        rcases inner m (Nat.le_refl _) with ⟨e0, -⟩ | ⟨e1, e2, e3⟩
        · exact absurd i2 (e0 i i1)
        · have ds := hD.2 s s1
          rw [← ds] at e1 e2 e3
          exact ⟨e2, e3, by rw [hW s s1 hv, e1]⟩
  exact fun s hs hv => key (2 ^ m - s) s (by omega) hv hs
