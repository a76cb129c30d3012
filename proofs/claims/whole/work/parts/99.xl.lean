/-- the model's tape -/
def zTm_ (I : zFI) (T : Nat → Int32) (tl : Nat) : Prop := I 84 26 = nI tl ∧ zTx T tl ∧ ∀ k, k < tl → I 104 k = T k
theorem raw_at {I : zFI} {T : Nat → Int32} {tl k : Nat} (h : zTm_ I T tl) (hk : k < 2147483648) : p_X12_raw I (nI k) = T k := by
  obtain ⟨h1, ⟨h2, h3, h4⟩, h5⟩ := h
  unfold p_X12_raw
  rw [h1]
  by_cases c : k < tl
  · rw [if_neg (nI_ge c (by omega)), znIc hk, h5 k c]
  · rw [if_pos (nI_le (by omega) (by omega)), h4 k (by omega)]
theorem ks_all : ∀ j : Fin 18, zKs (j.1 + 1) = zKs j.1 + 1 + zKl j.1 ∧ zWrd.getD (zKs (j.1 + 1)) 0 = 32 ∧ zKl j.1 ≤ 6 ∧ zKs (j.1 + 1) ≤ 95 ∧ ∀ i : Fin 7, (i.1 < zKl j.1 → ¬ zWrd.getD (zKs j.1 + 1 + i.1) 0 = 32) ∧ (i.1 < 6 → zKc j.1 i.1 = if i.1 < zKl j.1 then zWrd.getD (zKs j.1 + 1 + i.1) 0 else 32) := by decide +kernel
theorem ks_at {j : Nat} (hj : j < 18) : zKs (j + 1) = zKs j + 1 + zKl j ∧ zWrd.getD (zKs (j + 1)) 0 = 32 ∧ zKl j ≤ 6 ∧ zKs (j + 1) ≤ 95 ∧ (∀ i, i < zKl j → ¬ zWrd.getD (zKs j + 1 + i) 0 = 32) ∧ ∀ i, i < 6 → zKc j i = if i < zKl j then zWrd.getD (zKs j + 1 + i) 0 else 32 := by
  obtain ⟨a, b, c, d, e⟩ := ks_all ⟨j, hj⟩
  have c : zKl j ≤ 6 := c
  exact ⟨a, b, c, d, fun i hi => (e ⟨i, by omega⟩).1 hi, fun i hi => (e ⟨i, by omega⟩).2 hi⟩
theorem zmw_iff {T : Nat → Int32} {a b j : Nat} (hj : j < 18) (hl : ∀ i, a ≤ i → i < b → zLe T i) : zmw T a b j ↔ (b ≤ a ∧ zKl j = 0) ∨ b = a + zKl j ∧ ∀ i, i < zKl j → zWrd.getD (zKs j + 1 + i) 0 = T (a + i) := by
  obtain ⟨k1, k2, k3, k4, k5, k6⟩ := ks_at hj
  have pos : ¬ zKl j = 0 := by
    have : ∀ j : Fin 18, ¬ zKl j.1 = 0 := by decide +kernel
    exact this ⟨j, hj⟩
  refine ⟨fun ⟨h6, h⟩ => Or.inr ?_, fun q => ?_⟩
  · have e : b = a + zKl j := by
      rcases Nat.lt_trichotomy b (a + zKl j) with c | c | c
      · by_cases ab : a ≤ b
        · have := h (b - a) (by omega)
          rw [k6 _ (by omega), if_pos (by omega)] at this
          unfold zGot at this
          rw [if_neg (by omega)] at this
          exact absurd this (k5 _ (by omega))
        · have := h 0 (by omega)
          rw [k6 _ (by omega), if_pos (by omega)] at this
          unfold zGot at this
          rw [if_neg (by omega)] at this
          exact absurd this (k5 _ (by omega))
      · exact c
      · have := h (zKl j) (by omega)
        rw [k6 _ (by omega), if_neg (by omega)] at this
        unfold zGot at this
        rw [if_pos (by omega)] at this
        exact absurd this.symm (zLe_32 (hl _ (by omega) (by omega)))
    refine ⟨e, fun i hi => ?_⟩
    have := h i (by omega)
    rw [k6 _ (by omega), if_pos hi] at this
    unfold zGot at this
    rw [if_pos (by omega)] at this
    exact this
  · rcases q with q | ⟨e, q⟩
    · exact absurd q.2 pos
    · refine ⟨by omega, fun i hi => ?_⟩
      rw [k6 i hi]
      unfold zGot
      by_cases c : i < zKl j
      · rw [if_pos c, if_pos (by omega)]
        exact q i c
      · rw [if_neg c, if_neg (by omega)]
theorem m_wordAt {G : Gp} {Q : zPost} {S : zSh} {I : zFI} {L : zFL} {T : Nat → Int32} {tl a b : Nat} (hS : zStd S) (h : zTm_ I T tl) (hw : iWrd I) (hab : a < b) (hb : b ≤ tl) (hl : ∀ i, a ≤ i → i < b → zLe T i) (q : Q (some (.int (zWd T a b))) S I L) : ZC G mX12_wordAt fX12_wordAt lX12_wordAt [zo G 84, .int (nI a), .int (nI b)] S I L 0 0 Q := by
  have t800 : tl ≤ 800 := h.2.1.1
  have main : ∀ (d j : Nat) (v3 : Int32), j + d = 18 → v3 + 1 = nI j → (∀ i, i < j → ¬ zmw T a b i) → ZW G mX12_wordAt fX12_wordAt lX12_wordAt 5 [zo G 84, .int (nI a), .int (nI b), .int v3, .int (nI (zKs j)), .null] [] S I L 0 0 Q := by
    intro d
    induction d with
    | zero =>
      intro j v3 hj _ no
      rw [show j = 18 by omega] at no ⊢
      rw [zWd_no no] at q
      exact vX12_wordAt_5 hS ⟨fun _ => q, fun y => absurd (by decide) y⟩
    | succ d ih =>
      intro j v3 hj h3 no
      have j18 : j < 18 := by omega
      obtain ⟨k1, k2, k3, k4, k5, k6⟩ := ks_at j18
      have mi := zmw_iff (T := T) (a := a) (b := b) j18 hl
      refine vX12_wordAt_5 hS ⟨fun c => ?_, fun _ => ?_⟩
      · have c : nI 95 ≤ nI (zKs j) := c
        rw [zle, znI (by omega), znI (by omega)] at c
        omega
      · rw [h3]
        have miss : ¬ zmw T a b j → ∀ v5 : Int32, ZW G mX12_wordAt fX12_wordAt lX12_wordAt 93 [zo G 84, .int (nI a), .int (nI b), .int (nI j), .int (nI (zKs j + 1)), .int v5] [] S I L 0 0 Q := fun nm v5 => by
          have go : ∀ (e x : Nat), x + e = zKs (j + 1) → zKs j + 1 ≤ x → ZW G mX12_wordAt fX12_wordAt lX12_wordAt 93 [zo G 84, .int (nI a), .int (nI b), .int (nI j), .int (nI x), .int v5] [] S I L 0 0 Q := by
            intro e
            induction e with
            | zero =>
              intro x hx lx
              rw [show x = zKs (j + 1) by omega]
              refine vX12_wordAt_93 hS ⟨znIin (by omega) (by omega), ?_⟩
              rw [znIc (by omega), hw _ (by omega), k2]
              refine ⟨fun _ => ih (j + 1) (nI j) (by omega) (nI_1 j) (fun i hi => ?_), fun y => absurd rfl y⟩
              rcases (by omega : i < j ∨ i = j) with c | c
              · exact no i c
              · rw [c]; exact nm
            | succ e ihe =>
              intro x hx lx
              refine vX12_wordAt_93 hS ⟨znIin (by omega) (by omega), ?_⟩
              rw [znIc (by omega), hw _ (by omega), nI_1]
              have := k5 (x - (zKs j + 1)) (by omega)
              rw [show zKs j + 1 + (x - (zKs j + 1)) = x by omega] at this
              exact ⟨fun y => absurd y this, fun _ => ihe (x + 1) (by omega) (by omega)⟩
          exact go (zKl j) (zKs j + 1) (by omega) (Nat.le_refl _)
        have inner : ∀ (e i : Nat), a + i + e = b → i ≤ zKl j → (∀ i', i' < i → zWrd.getD (zKs j + 1 + i') 0 = T (a + i')) → ZW G mX12_wordAt fX12_wordAt lX12_wordAt 19 [zo G 84, .int (nI a), .int (nI b), .int (nI j), .int (nI (zKs j)), .int (nI i)] [] S I L 0 0 Q := by
          intro e
          induction e with
          | zero =>
            intro i hi il eq
            have ea : nI a + nI i = nI b := by rw [nI_add, show a + i = b by omega]
            have ex : nI (zKs j) + 1 + nI i = nI (zKs j + 1 + i) := by rw [nI_1, nI_add]
            refine vX12_wordAt_19 hS ⟨fun _ => ⟨fun y => absurd ea y, fun _ => ?_⟩, fun y => absurd (by rw [ea]; exact Int32.le_refl _) y⟩
            rw [ex, nI_1, znIc (by omega), hw _ (by omega)]
            refine ⟨znIin (by omega) (by omega), fun ne => miss (fun m => ?_) _, fun e32 => ?_⟩
            · rcases mi.mp m with m | m
              · omega
              · have : zKs j + 1 + i = zKs (j + 1) := by omega
                rw [this, k2] at ne
                exact ne rfl
            · have : i = zKl j := Classical.byContradiction (fun y => k5 i (by omega) e32)
              have m : zmw T a b j := mi.mpr (Or.inr ⟨by omega, fun i' hi' => eq i' (by omega)⟩)
              rw [zWd_eq j18 m] at q
              exact q
          | succ e ihe =>
            intro i hi il eq
            have ea : nI a + nI i = nI (a + i) := nI_add _ _
            have ex : nI (zKs j) + 1 + nI i = nI (zKs j + 1 + i) := by rw [nI_1, nI_add]
            have lt : zLe T (a + i) := hl _ (by omega) (by omega)
            refine vX12_wordAt_19 hS ⟨fun y => ?_, fun _ => ?_⟩
            · rw [ea, zle, znI (by omega), znI (by omega)] at y
              omega
            · rw [ea, ex, nI_1, nI_1, znIc (show zKs j + 1 + i < 2147483648 by omega), znIc (show a + i < 2147483648 by omega), hw _ (by omega), h.2.2 _ (by omega)]
              refine ⟨znIin (by omega) (by omega), znIin (by omega) (by omega), fun ne => ⟨fun _ => miss (fun m => ?_) _, fun y => ?_⟩, fun e => ihe (i + 1) (by omega) ?_ (fun i' hi' => ?_)⟩
              · rcases mi.mp m with m | m
                · omega
                · exact ne (m.2 i (by omega))
              · have := nI_same (by omega) (by omega) y
                omega
              · have : ¬ i = zKl j := fun y => by
                  rw [y, ← k1, k2] at e
                  rw [y] at lt
                  exact zLe_32 lt e.symm
                omega
              · rcases (by omega : i' < i ∨ i' = i) with c | c
                · exact eq i' c
                · rw [c]; exact e
        exact inner (b - a) 0 (by omega) (Nat.zero_le _) (fun i' hi' => absurd hi' (Nat.not_lt_zero _))
  exact ZC.of' (vX12_wordAt_0 hS (main 18 0 (-1) (by omega) (by decide) (fun i hi => absurd hi (Nat.not_lt_zero _)))) rfl (Nat.le_of_ble_eq_true rfl) rfl
def zMk (c : Int32) : Int32 := if c = 0 then 0 else if c = 1 then 2 else if c = 2 then 3 else if c = 3 then 4 else 1
/-- behind next: the token at q -/
def zNx (I J : zFI) (T : Nat → Int32) (q : Nat) : Prop := (∀ b, b ≠ 84 → J b = I b) ∧ (∀ k, k ≠ 29 → k ≠ 30 → k ≠ 31 → k ≠ 32 → J 84 k = I 84 k) ∧ J 84 29 = nI (znx T q) ∧ J 84 30 = nI q ∧ J 84 31 = zMk (zkd T q) ∧ (zkd T q = 1 ∨ zkd T q = 2 → J 84 32 = zvu T q)
theorem m_next {G : Gp} {Q : zPost} {S : zSh} {I : zFI} {L : zFL} {T : Nat → Int32} {tl p : Nat} (hS : zStd S) (h : zTm_ I T tl) (hw : iWrd I) (hp : p ≤ tl) (h29 : I 84 29 = nI p) (q : ∀ J, zNx I J T (zE (zBl T) p) → Q none S J L) : ZC G mX12_next fX12_next lX12_next [zo G 84] S I L 0 0 Q := by
  have t800 : tl ≤ 800 := h.2.1.1
  have hT := h.2.1
  have main : ∀ (d p : Nat) (I1 : zFI), p + d = tl → (∀ b, b ≠ 84 → I1 b = I b) → (∀ k, k ≠ 29 → I1 84 k = I 84 k) → I1 84 29 = nI p → (∀ J, zNx I J T (zE (zBl T) p) → Q none S J L) → ZW G mX12_next fX12_next lX12_next 0 [zo G 84, .null] [] S I1 L 0 0 Q := by
    intro d
    induction d using Nat.strongRecOn with
    | _ d ih =>
      intro p I1 hp i1 i2 i3 q
      have tm : ∀ J : zFI, J 84 26 = I 84 26 → J 104 = I 104 → zTm_ J T tl := fun J e1 e2 => ⟨e1.trans h.1, hT, fun k hk => by rw [e2]; exact h.2.2 k hk⟩
      have tm1 := tm I1 (i2 26 (by omega)) (i1 104 (by omega))
      have wr : ∀ J : zFI, J 106 = I 106 → iWrd J := fun J e k hk => by rw [e]; exact hw k hk
      have vin : ∀ J : zFI, J 84 26 = I 84 26 → ¬ J 84 26 ≤ nI p → vp_in (nI p) 800 := fun J e c => by
        rw [e, h.1, zle, znI (by omega), znI (by omega)] at c
        exact znIin (by omega) (by omega)
      have r1 : p_X12_raw I1 (nI p) = T p := raw_at tm1 (by omega)
      have r2 : p_X12_raw (u2 (u2 I1 84 30 (nI p)) 84 31 1) (nI p) = T p := by
        refine raw_at (tm _ ?_ ?_) (by omega)
        · rw [u2_ne _ _ _ _ (by omega), u2_ne _ _ _ _ (by omega)]
          exact i2 26 (by omega)
        · rw [← u2_row _ _ _ _ (by omega), ← u2_row _ _ _ _ (by omega)]
          exact i1 104 (by omega)
      have skip : zBl T p → ZW G mX12_next fX12_next lX12_next 0 [zo G 84, .null] [] S (u2 I1 84 29 (nI (p + 1))) L 0 0 Q := fun b => by
        have lt : p < tl := Classical.byContradiction (fun y => bl_no b (hT.2.2 p (by omega)))
        refine ih (d - 1) (by omega) (p + 1) _ (by omega) (fun b hb => ?_) (fun k hk => ?_) (u2_same _ _ _ _) (by rw [zE_skip b]; exact q)
        · rw [← u2_row _ _ _ _ hb]
          exact i1 b hb
        · rw [u2_ne _ _ _ _ (fun y => hk y.2)]
          exact i2 k hk
      refine vX12_next_0 hS ?_
      rw [i3, r1, r2, nI_1]
      refine ⟨vin I1 (i2 26 (by omega)), fun b => skip (Or.inl b), fun nb => ⟨vin I1 (i2 26 (by omega)), fun nb2 => ⟨fun c => vin (u2 (u2 I1 84 30 (nI p)) 84 31 1) (by rw [u2_ne _ _ _ _ (by omega), u2_ne _ _ _ _ (by omega)]; exact i2 26 (by omega)) c, fun te => ⟨fun nl => ⟨fun nd => ⟨fun n59 => ?_, fun y59 => ?_⟩, fun dg => ?_⟩, fun lt' => ?_⟩, fun te => ?_⟩, fun b => skip (Or.inr b)⟩⟩
      all_goals have nbl : ¬ zBl T p := fun y => y.elim nb nb2
      all_goals rw [zE_stop nbl] at q
      · have n1 : ¬ zLe T p := fun y => y ((let12 _).mp nl)
        have n2 : ¬ zDi T p := fun y => y ((dig12 _).mp nd)
        have ek : zkd T p = 4 := by rw [kd_oth te n1 n2, if_neg n59]
        refine q _ ⟨fun b hb => ?_, fun k a b c d => ?_, ?_, ?_, ?_, fun y => by rw [ek] at y; exact absurd y (by decide)⟩
        · rw [← u2_row _ _ _ _ hb, ← u2_row _ _ _ _ hb, ← u2_row _ _ _ _ hb]
          exact i1 b hb
        · rw [u2_ne _ _ _ _ (by omega), u2_ne _ _ _ _ (by omega), u2_ne _ _ _ _ (by omega)]
          exact i2 k a
        · rw [u2_same, nx_oth te n1 n2]
        · rw [u2_ne _ _ _ _ (by omega), u2_ne _ _ _ _ (by omega), u2_same]
        · rw [u2_ne _ _ _ _ (by omega), u2_same, ek]
          rfl
      · have n1 : ¬ zLe T p := fun y => y ((let12 _).mp nl)
        have n2 : ¬ zDi T p := fun y => y ((dig12 _).mp nd)
        have ek : zkd T p = 3 := by rw [kd_oth te n1 n2, if_pos y59]
        refine q _ ⟨fun b hb => ?_, fun k a b c d => ?_, ?_, ?_, ?_, fun y => by rw [ek] at y; exact absurd y (by decide)⟩
        · rw [← u2_row _ _ _ _ hb, ← u2_row _ _ _ _ hb, ← u2_row _ _ _ _ hb, ← u2_row _ _ _ _ hb]
          exact i1 b hb
        · rw [u2_ne _ _ _ _ (by omega), u2_ne _ _ _ _ (by omega), u2_ne _ _ _ _ (by omega), u2_ne _ _ _ _ (by omega)]
          exact i2 k a
        · rw [u2_ne _ _ _ _ (by omega), u2_same, nx_oth te n1 n2]
        · rw [u2_ne _ _ _ _ (by omega), u2_ne _ _ _ _ (by omega), u2_ne _ _ _ _ (by omega), u2_same]
        · rw [u2_same, ek]
          rfl
      · have hd : zDi T p := fun y => dg ((dig12 _).mpr y)
        obtain ⟨b1, b2, b3, b4⟩ := zE_bound hT (fun k => di_no (T := T) (k := k)) (show p ≤ tl by omega)
        have pr : p < zE (zDi T) p := Classical.byContradiction (fun y => b3 (by rw [show zE (zDi T) p = p by omega]; exact hd))
        have go : ∀ (e i : Nat) (v : Int32) (J : zFI), i + e = zE (zDi T) p → p < i → (∀ b, b ≠ 84 → J b = I b) → (∀ k, k ≠ 29 → k ≠ 30 → k ≠ 31 → k ≠ 32 → J 84 k = I 84 k) → J 84 29 = nI i → J 84 30 = nI p → J 84 31 = 1 → J 84 32 = v → (i = p + 1 → v = T p - 48) → (i = p + 2 → v = 10 * (T p - 48) + T (p + 1) - 48) → ∀ v1 : Int32, ZW G mX12_next fX12_next lX12_next 166 [zo G 84, .int v1] [] S J L 0 0 Q := by
          intro e
          induction e with
          | zero =>
            intro i v J hi pi j1 j2 j3 j4 j5 j6 a1 a2 v1
            have tj := tm J (j2 26 (by omega) (by omega) (by omega) (by omega)) (j1 104 (by omega))
            have ie : i = zE (zDi T) p := by omega
            have rj : p_X12_raw J (nI i) = T i := raw_at tj (by omega)
            have vi : ¬ J 84 26 ≤ nI i → vp_in (nI i) 800 := fun c => by
              rw [j2 26 (by omega) (by omega) (by omega) (by omega), h.1, zle, znI (by omega), znI (by omega)] at c
              exact znIin (by omega) (by omega)
            have er : (nI i - nI p).toInt = (i : Int) - (p : Int) := by
              rw [zsub (by rw [znI (by omega), znI (by omega)]; omega) (by rw [znI (by omega), znI (by omega)]; omega), znI (by omega), znI (by omega)]
            refine vX12_next_166 hS ?_
            rw [j3, j4, rj]
            refine ⟨vi, fun _ => ⟨fun c => ?_, fun c => ?_⟩, fun y => ?_⟩
            · rw [zle, er, show (3 : Int32).toInt = 3 from rfl] at c
              have ek : zkd T p = 4 := by rw [kd_dig hd, if_pos (by omega)]
              refine q J ⟨j1, j2, ?_, j4, ?_, fun y => by rw [ek] at y; exact absurd y (by decide)⟩
              · rw [j3, nx_dig hd, ie]
              · rw [j5, ek]
                rfl
            · rw [zle, er, show (3 : Int32).toInt = 3 from rfl] at c
              have ek : zkd T p = 2 := by rw [kd_dig hd, if_neg (by omega)]
              refine q _ ⟨fun b hb => ?_, fun k a b c d => ?_, ?_, ?_, ?_, fun _ => ?_⟩
              · rw [← u2_row _ _ _ _ hb]
                exact j1 b hb
              · rw [u2_ne _ _ _ _ (by omega)]
                exact j2 k a b c d
              · rw [u2_ne _ _ _ _ (by omega), j3, nx_dig hd, ie]
              · rw [u2_ne _ _ _ _ (by omega)]
                exact j4
              · rw [u2_same, ek]
                rfl
              · rw [u2_ne _ _ _ _ (by omega), j6, vu_dig hd]
                by_cases y : i = p + 1
                · rw [if_pos (by omega)]
                  exact a1 y
                · rw [if_neg (by omega)]
                  exact a2 (by omega)
            · exact absurd (fun z => y ((dig12 _).mpr z)) (by rw [ie]; exact b3)
          | succ e ihe =>
            intro i v J hi pi j1 j2 j3 j4 j5 j6 a1 a2 v1
            have tj := tm J (j2 26 (by omega) (by omega) (by omega) (by omega)) (j1 104 (by omega))
            have rj : p_X12_raw J (nI i) = T i := raw_at tj (by omega)
            have di := b4 i (by omega) (by omega)
            have vi : ¬ J 84 26 ≤ nI i → vp_in (nI i) 800 := fun c => by
              rw [j2 26 (by omega) (by omega) (by omega) (by omega), h.1, zle, znI (by omega), znI (by omega)] at c
              exact znIin (by omega) (by omega)
            refine vX12_next_166 hS ?_
            rw [j3, rj, nI_1, j6]
            refine ⟨vi, fun y => absurd ((dig12 _).mp y) di, fun _ => ⟨fun c => ?_, fun _ => ⟨vi, ?_⟩⟩⟩
            · refine ihe (i + 1) v _ (by omega) (by omega) (fun b hb => ?_) (fun k a b c d => ?_) (u2_same _ _ _ _) ?_ ?_ ?_ (fun y => by omega) (fun y => ?_) v1
              · rw [← u2_row _ _ _ _ hb, ← u2_row _ _ _ _ hb]
                exact j1 b hb
              · rw [u2_ne _ _ _ _ (by omega), u2_ne _ _ _ _ (by omega)]
                exact j2 k a b c d
              · rw [u2_ne _ _ _ _ (by omega), u2_ne _ _ _ _ (by omega)]
                exact j4
              · rw [u2_ne _ _ _ _ (by omega), u2_ne _ _ _ _ (by omega)]
                exact j5
              · rw [u2_ne _ _ _ _ (by omega), u2_same]
              · have := a1 (by omega)
                have dp := dig_iff.mp hd
                rw [this] at c
                exfalso
                lia
            · refine ihe (i + 1) (10 * v + T i - 48) _ (by omega) (by omega) (fun b hb => ?_) (fun k a b c d => ?_) (u2_same _ _ _ _) ?_ ?_ ?_ (fun y => by omega) (fun y => ?_) v1
              · rw [← u2_row _ _ _ _ hb, ← u2_row _ _ _ _ hb]
                exact j1 b hb
              · rw [u2_ne _ _ _ _ (by omega), u2_ne _ _ _ _ (by omega)]
                exact j2 k a b c d
              · rw [u2_ne _ _ _ _ (by omega), u2_ne _ _ _ _ (by omega)]
                exact j4
              · rw [u2_ne _ _ _ _ (by omega), u2_ne _ _ _ _ (by omega)]
                exact j5
              · rw [u2_ne _ _ _ _ (by omega), u2_same]
              · rw [a1 (by omega), show i = p + 1 by omega]
        refine go (zE (zDi T) p - (p + 1)) (p + 1) (T p - 48) _ (by omega) (by omega) (fun b hb => ?_) (fun k a b c d => ?_) ?_ ?_ ?_ (u2_same _ _ _ _) (fun _ => rfl) (fun y => by omega) _
        · rw [← u2_row _ _ _ _ hb, ← u2_row _ _ _ _ hb, ← u2_row _ _ _ _ hb, ← u2_row _ _ _ _ hb]
          exact i1 b hb
        · rw [u2_ne _ _ _ _ (by omega), u2_ne _ _ _ _ (by omega), u2_ne _ _ _ _ (by omega), u2_ne _ _ _ _ (by omega)]
          exact i2 k a
        · rw [u2_ne _ _ _ _ (by omega), u2_same]
        · rw [u2_ne _ _ _ _ (by omega), u2_ne _ _ _ _ (by omega), u2_ne _ _ _ _ (by omega), u2_same]
        · rw [u2_ne _ _ _ _ (by omega), u2_ne _ _ _ _ (by omega), u2_same]
      · have hl : zLe T p := fun y => lt' ((let12 _).mpr y)
        obtain ⟨b1, b2, b3, b4⟩ := zE_bound hT (fun k => le_no (T := T) (k := k)) (show p ≤ tl by omega)
        have pr : p < zE (zLe T) p := Classical.byContradiction (fun y => b3 (by rw [show zE (zLe T) p = p by omega]; exact hl))
        have go : ∀ (e i : Nat) (J : zFI), i + e = zE (zLe T) p → p < i → (∀ b, b ≠ 84 → J b = I b) → (∀ k, k ≠ 29 → k ≠ 30 → k ≠ 31 → k ≠ 32 → J 84 k = I 84 k) → J 84 29 = nI i → J 84 30 = nI p → J 84 31 = 1 → ∀ v1 : Int32, ZW G mX12_next fX12_next lX12_next 90 [zo G 84, .int v1] [] S J L 0 0 Q := by
          intro e
          induction e with
          | zero =>
            intro i J hi pi j1 j2 j3 j4 j5 v1
            have tj := tm J (j2 26 (by omega) (by omega) (by omega) (by omega)) (j1 104 (by omega))
            have ie : i = zE (zLe T) p := by omega
            have rj : p_X12_raw J (nI i) = T i := raw_at tj (by omega)
            have vi : ¬ J 84 26 ≤ nI i → vp_in (nI i) 800 := fun c => by
              rw [j2 26 (by omega) (by omega) (by omega) (by omega), h.1, zle, znI (by omega), znI (by omega)] at c
              exact znIin (by omega) (by omega)
            refine vX12_next_90 hS ?_
            rw [j3, j4, rj]
            refine ⟨vi, fun _ => ?_, fun y => ?_⟩
            · rw [ie]
              refine m_wordAt hS tj (wr J (j1 106 (by omega))) pr b2 b4 ⟨_, rfl, rfl, fun e1 => ?_, fun n1 => ?_⟩
              · have ek : zkd T p = 4 := by rw [kd_let hl, if_pos e1]
                refine q _ ⟨fun b hb => ?_, fun k a b c d => ?_, ?_, ?_, ?_, fun y => by rw [ek] at y; exact absurd y (by decide)⟩
                · rw [← u2_row _ _ _ _ hb]
                  exact j1 b hb
                · rw [u2_ne _ _ _ _ (by omega)]
                  exact j2 k a b c d
                · rw [u2_ne _ _ _ _ (by omega), j3, nx_let hl, ie]
                · rw [u2_ne _ _ _ _ (by omega)]
                  exact j4
                · rw [u2_ne _ _ _ _ (by omega), j5, ek]
                  rfl
              · have ek : zkd T p = 1 := by rw [kd_let hl, if_neg n1]
                refine q _ ⟨fun b hb => ?_, fun k a b c d => ?_, ?_, ?_, ?_, fun _ => ?_⟩
                · rw [← u2_row _ _ _ _ hb, ← u2_row _ _ _ _ hb]
                  exact j1 b hb
                · rw [u2_ne _ _ _ _ (by omega), u2_ne _ _ _ _ (by omega)]
                  exact j2 k a b c d
                · rw [u2_ne _ _ _ _ (by omega), u2_ne _ _ _ _ (by omega), j3, nx_let hl, ie]
                · rw [u2_ne _ _ _ _ (by omega), u2_ne _ _ _ _ (by omega)]
                  exact j4
                · rw [u2_same, ek]
                  rfl
                · rw [u2_ne _ _ _ _ (by omega), u2_same, vu_let hl]
            · exact absurd (fun z => y ((let12 _).mpr z)) (by rw [ie]; exact b3)
          | succ e ihe =>
            intro i J hi pi j1 j2 j3 j4 j5 v1
            have tj := tm J (j2 26 (by omega) (by omega) (by omega) (by omega)) (j1 104 (by omega))
            have rj : p_X12_raw J (nI i) = T i := raw_at tj (by omega)
            have li := b4 i (by omega) (by omega)
            have vi : ¬ J 84 26 ≤ nI i → vp_in (nI i) 800 := fun c => by
              rw [j2 26 (by omega) (by omega) (by omega) (by omega), h.1, zle, znI (by omega), znI (by omega)] at c
              exact znIin (by omega) (by omega)
            refine vX12_next_90 hS ?_
            rw [j3, rj, nI_1]
            refine ⟨vi, fun y => absurd ((let12 _).mp y) li, fun _ => ihe (i + 1) _ (by omega) (by omega) (fun b hb => ?_) (fun k a b c d => ?_) (u2_same _ _ _ _) ?_ ?_ v1⟩
            · rw [← u2_row _ _ _ _ hb]
              exact j1 b hb
            · rw [u2_ne _ _ _ _ (by omega)]
              exact j2 k a b c d
            · rw [u2_ne _ _ _ _ (by omega)]
              exact j4
            · rw [u2_ne _ _ _ _ (by omega)]
              exact j5
        refine go (zE (zLe T) p - (p + 1)) (p + 1) _ (by omega) (by omega) (fun b hb => ?_) (fun k a b c d => ?_) (u2_same _ _ _ _) ?_ ?_ _
        · rw [← u2_row _ _ _ _ hb, ← u2_row _ _ _ _ hb, ← u2_row _ _ _ _ hb]
          exact i1 b hb
        · rw [u2_ne _ _ _ _ (by omega), u2_ne _ _ _ _ (by omega), u2_ne _ _ _ _ (by omega)]
          exact i2 k a
        · rw [u2_ne _ _ _ _ (by omega), u2_ne _ _ _ _ (by omega), u2_same]
        · rw [u2_ne _ _ _ _ (by omega), u2_same]
      · have ek : zkd T p = 0 := kd_end te
        refine q _ ⟨fun b hb => ?_, fun k a b c d => ?_, ?_, ?_, ?_, fun y => by rw [ek] at y; exact absurd y (by decide)⟩
        · rw [← u2_row _ _ _ _ hb, ← u2_row _ _ _ _ hb, ← u2_row _ _ _ _ hb]
          exact i1 b hb
        · rw [u2_ne _ _ _ _ (by omega), u2_ne _ _ _ _ (by omega), u2_ne _ _ _ _ (by omega)]
          exact i2 k a
        · rw [u2_ne _ _ _ _ (by omega), u2_ne _ _ _ _ (by omega), u2_ne _ _ _ _ (by omega), i3, nx_end te]
        · rw [u2_ne _ _ _ _ (by omega), u2_ne _ _ _ _ (by omega), u2_same]
        · rw [u2_same, ek]
          rfl
  exact ZC.of' (main (tl - p) p I (by omega) (fun _ _ => rfl) (fun _ _ => rfl) h29 q) rfl (Nat.le_of_ble_eq_true rfl) rfl
