/-! the two objects when they are new -/
theorem zR0_none {o k : Nat} (h : 85 ≤ o ∨ 92 ≤ k) : zR0 o k = none := by
  unfold zR0
  split
  all_goals first
    | rfl
    | (rcases h with h | h
       · exact absurd h (by decide)
       · rw [List.getD_eq_getElem?_getD, List.getElem?_eq_none (Nat.le_trans (Nat.le_of_ble_eq_true rfl) h)]; rfl)
theorem zR0_dec : ∀ o : Fin 85, ∀ k : Fin 92, zR0 o.1 k.1 = none ∨ zer evR_138 o.1 k.1 = zR0 o.1 k.1 := by decide +kernel
theorem i_std : zStd (zcs 140 evR_138) := by
  refine ⟨Nat.le_refl _, fun a ha => if_pos (zpm_lt ha), fun o k a e => ?_, ⟨8, 9, 83, by decide +kernel, by decide +kernel, by decide +kernel, Or.inl rfl, Or.inr (Or.inl rfl), Or.inr (Or.inr rfl), by decide, by decide, by decide⟩, ⟨65, 66, 1, by decide +kernel, by decide +kernel, zq_has rfl rfl, zq_has rfl rfl, Or.inl rfl, Or.inl rfl, by decide, by decide, by decide⟩⟩
  by_cases ho : o < 85
  · by_cases hk : k < 92
    · rcases zR0_dec ⟨o, ho⟩ ⟨k, hk⟩ with y | y
      · exact absurd (y.symm.trans e) (by simp)
      · exact y.trans e
    · exact absurd ((zR0_none (Or.inr (by omega))).symm.trans e) (by simp)
  · exact absurd ((zR0_none (Or.inl (by omega))).symm.trans e) (by simp)
theorem i_rl : zrl (zcs 140 evR_138) 0 = 8 ∧ zrl (zcs 140 evR_138) 1 = 9 ∧ zwl (zcs 140 evR_138) = 1 := by decide +kernel
theorem i_row (a b : Nat) (v : Int32) (n : Nat) (h : ∀ k : Fin n, zev evI_317 a k.1 = v) (k : Nat) (hk : k < n) : zev evI_317 a k = v := h ⟨k, hk⟩
theorem i_now : iNow (zev evI_317) := by
  unfold iNow
  decide +kernel
theorem i_cu1 : iCu1 (zev evI_317) 8 0 ∧ iCu1 (zev evI_317) 9 1 := by
  have a : ∀ k : Fin 9, zev evI_317 105 (50 * 0 + k.1) = zev evI_317 8 k.1 := by decide +kernel
  have b : ∀ k : Fin 9, zev evI_317 105 (50 * 1 + k.1) = zev evI_317 9 k.1 := by decide +kernel
  have c : ∀ k : Fin 16, zev evI_317 105 (50 * 0 + 10 + k.1) = iBit (zev evI_317 8 9) k.1 ∧ zev evI_317 105 (50 * 0 + 30 + k.1) = iBit (zev evI_317 8 10) k.1 := by decide +kernel
  have d : ∀ k : Fin 16, zev evI_317 105 (50 * 1 + 10 + k.1) = iBit (zev evI_317 9 9) k.1 ∧ zev evI_317 105 (50 * 1 + 30 + k.1) = iBit (zev evI_317 9 10) k.1 := by decide +kernel
  have r8 : zRg_ (zev evI_317 8) := by unfold zRg_; decide +kernel
  have r9 : zRg_ (zev evI_317 9) := by unfold zRg_; decide +kernel
  obtain ⟨a0, b0, a1, a2, b2, a3, b3, a4, b4, a5, b5, a6, b6, a7, b7, a8, b8⟩ := r8
  obtain ⟨a0', b0', a1', a2', b2', a3', b3', a4', b4', a5', b5', a6', b6', a7', b7', a8', b8'⟩ := r9
  exact ⟨⟨fun k hk => a ⟨k, hk⟩, a0, b0, a1, a2, b2, a3, b3, a4, b4, a5, b5, a6, b6, a7, b7, a8, b8, fun k hk => (c ⟨k, hk⟩).1, fun k hk => (c ⟨k, hk⟩).2⟩,
    ⟨fun k hk => b ⟨k, hk⟩, a0', b0', a1', a2', b2', a3', b3', a4', b4', a5', b5', a6', b6', a7', b7', a8', b8', fun k hk => (d ⟨k, hk⟩).1, fun k hk => (d ⟨k, hk⟩).2⟩⟩
theorem i_init (L : zFL) : zIn (zcs 140 evR_138) (zev evI_317) L := by
  have st : zev evI_317 0 16 = 1 := by decide +kernel
  have r88 : ∀ t : Fin 16, zev evI_317 88 t.1 = 0 := by decide +kernel
  have r25 : ∀ t : Fin 48, zev evI_317 25 t.1 = -1 := by decide +kernel
  have r68 : ∀ y : Fin 200, zev evI_317 68 y.1 = -1 ∧ zev evI_317 132 y.1 = 0 := by decide +kernel
  have r69 : ∀ t : Fin 16, zev evI_317 89 t.1 = 0 ∧ zev evI_317 69 t.1 = 0 ∧ zev evI_317 92 t.1 = 0 ∧ zev evI_317 72 t.1 = 0 ∧ zev evI_317 93 t.1 = 0 ∧ zev evI_317 73 t.1 = 0 := by decide +kernel
  have wrd : ∀ k : Fin 96, zev evI_317 106 k.1 = zWrd.getD k.1 0 := by decide +kernel
  have one : zev evI_317 10 0 = 0 ∧ zev evI_317 84 3 = 0 ∧ zev evI_317 10 4 = 0 ∧ zev evI_317 84 13 = 0 ∧ zev evI_317 19 0 = 0 ∧ zev evI_317 84 19 = 0 ∧ zev evI_317 1 1 = 0 ∧ zev evI_317 84 26 = 0 ∧ zev evI_317 84 36 = zev evI_317 3 5 ∧ zev evI_317 84 37 = zev evI_317 3 6 ∧ zev evI_317 77 0 = 0 ∧ zev evI_317 84 79 = 0 ∧ zev evI_317 0 12 = 0 ∧ zev evI_317 84 90 = 0 := by decide +kernel
  obtain ⟨o1, o2, o3, o4, o5, o6, o7, o8, o9, o10, o11, o12, o13, o14⟩ := one
  have no : ∀ {P : Prop} {k : Nat}, k < 0 → P := fun h => absurd h (Nat.not_lt_zero _)
  refine ⟨0, 0, 0, 0, 0, 0, ⟨i_std, i_now, ⟨o1, by decide, o2, fun k hk => no hk, fun i k _ hk => no hk⟩, ⟨o3, by decide, o4, fun k hk => no hk, fun i k _ hk => no hk, fun t ht => ⟨r88 ⟨t, ht⟩, Nat.zero_le _⟩⟩, ⟨o5, by decide, o6, fun k hk => no hk⟩, fun j hj => r25 ⟨j, hj⟩, ⟨o7, by decide, o8, fun k hk => no hk⟩, ⟨o9, o10⟩, ?_, ⟨fun y hy => ?_, fun t ht => ?_⟩, ⟨o11, by decide, o12, fun k hk => no hk⟩, ⟨o13, by decide, o14, fun k hk => no hk⟩, fun k hk => wrd ⟨k, hk⟩⟩, fun y => absurd (st.symm.trans y) (by decide), fun y => absurd (st.symm.trans y) (by decide)⟩
  · unfold iCus
    rw [i_rl.1, i_rl.2.1]
    exact i_cu1
  · obtain ⟨a, b⟩ := r68 ⟨y, hy⟩
    have a : zev evI_317 68 y = -1 := a
    have b : zev evI_317 132 y = 0 := b
    rw [a, b]
    exact ⟨Or.inl rfl, ⟨fun _ => rfl, fun _ => rfl⟩, fun q => absurd rfl q, by decide, by decide⟩
  · obtain ⟨a, b, c, d, e, f⟩ := r69 ⟨t, ht⟩
    have a : zev evI_317 89 t = 0 := a
    have b : zev evI_317 69 t = 0 := b
    have c : zev evI_317 92 t = 0 := c
    have d : zev evI_317 72 t = 0 := d
    have e : zev evI_317 93 t = 0 := e
    have f : zev evI_317 73 t = 0 := f
    rw [a, b, c, d, e, f]
    refine ⟨rfl, by decide, by decide, rfl, by decide, by decide, rfl, Or.inl rfl, fun i hi hi2 => absurd hi ?_⟩
    exact Int32.not_lt.mpr (show nI 0 ≤ nI i from nI_le (Nat.zero_le _) (by omega))
theorem i_bg : zBg (zcs 140 evR_138) 150148 := ⟨0, by decide, i_rl.2.2, Nat.le_refl _, by decide⟩
