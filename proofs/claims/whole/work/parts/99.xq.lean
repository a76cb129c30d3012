theorem zSw_rl {S : zSh} {v x : Int32} (hv : v = 0 ∨ v = 1) (hx : x = 0 ∨ x = 1) : zrl (zSw S v) x = if x = v then zdr S else zrl S x := by
  unfold zrl zSw zR u2
  rcases hv with rfl | rfl <;> rcases hx with rfl | rfl <;> rfl
theorem zSw_dr {S : zSh} {v : Int32} : zdr (zSw S v) = zrl S v := by
  unfold zdr zSw
  show (u2 (u2 (zR S) 7 v.toNatClampNeg (some (zdr S))) 0 13 (some (zrl S v)) 0 13).getD 0 = zrl S v
  rw [u2_same]
  rfl
theorem zSw_std {S : zSh} {v : Int32} (h : zStd S) (hv : v = 0 ∨ v = 1) : zStd (zSw S v) := by
  obtain ⟨h1, h2, h3, h4, h5⟩ := h
  have hS : zStd S := ⟨h1, h2, h3, h4, h5⟩
  have p3 := hS.p3
  have ne : ∀ o k, ¬ (o = 7) → ¬ (o = 0 ∧ k = 13) → zR (zSw S v) o k = zR S o k := fun o k n7 n0 => by
    show u2 (u2 (zR S) 7 v.toNatClampNeg (some (zdr S))) 0 13 (some (zrl S v)) o k = _
    rw [u2_ne _ _ _ _ n0, u2_ne _ _ _ _ (fun y => n7 y.1)]
  refine ⟨h1, h2, fun o k a e => ?_, ?_, ?_⟩
  · rw [ne o k (fun y => by rw [y] at e; exact absurd e (by unfold zR0; simp)) (fun y => by rw [y.1, y.2] at e; exact absurd (show (none : Option Nat) = some a from e) (by simp))]
    exact h3 o k a e
  · obtain ⟨a0, a1, a2, a3, a4, a5⟩ := p3
    have r0 : zR S 7 0 = some (zrl S 0) := (hS.rl (x := 0) (Or.inl rfl)).1
    have r1 : zR S 7 1 = some (zrl S 1) := (hS.rl (x := 1) (Or.inr rfl)).1
    rcases hv with rfl | rfl
    · exact ⟨zdr S, zrl S 1, zrl S 0, rfl, r1, rfl, a2, a1, a0, fun y => a5 y.symm, fun y => a4 y.symm, fun y => a3 y.symm⟩
    · exact ⟨zrl S 0, zdr S, zrl S 1, r0, rfl, rfl, a0, a2, a1, a4, a3, fun y => a5 y.symm⟩
  · obtain ⟨w, u, n, b1, b2, b3⟩ := h5
    exact ⟨w, u, n, (ne 60 6 (by decide) (by decide)).trans b1, (ne 60 7 (by decide) (by decide)).trans b2, b3⟩
/-! what a text says is in its ranges -/
def zRg_ (R : Nat → Int32) : Prop := 1 ≤ R 0 ∧ R 0 ≤ 3 ∧ (R 1 = 0 ∨ R 1 = 1) ∧ 0 ≤ R 2 ∧ R 2 ≤ 3 ∧ 0 ≤ R 3 ∧ R 3 ≤ 5 ∧ 0 ≤ R 4 ∧ R 4 ≤ 99 ∧ 0 ≤ R 5 ∧ R 5 ≤ 9 ∧ 0 ≤ R 6 ∧ R 6 ≤ 99 ∧ R 6 ≤ R 7 ∧ R 7 ≤ 99 ∧ 0 ≤ R 8 ∧ R 8 ≤ 99
theorem znf_ok {K V : Nat → Int32} {lo hi : Int32} {m : Nat} (h : znf K V lo hi m = 0) : lo ≤ V m ∧ V m ≤ hi := by
  unfold znf at h
  split at h
  · split at h
    · assumption
    · exact absurd h (by decide)
  · exact absurd h (by decide)
theorem zwf_ok {K V : Nat → Int32} {lo hi : Int32} {m : Nat} (h : zwf1 K V lo hi m = 0) : K m = 1 ∧ lo ≤ V m ∧ V m ≤ hi := by
  unfold zwf1 at h
  split at h
  · assumption
  · exact absurd h (by decide)
theorem zbd_rg {T : Nat → Int32} {R : Nat → Int32} {n : Nat} (h : zRg_ R) (f : (zbd (zTK T) (zTV T) R n).1 = 0) : zRg_ (zbd (zTK T) (zTV T) R n).2.2 := by
  obtain ⟨a0, b0, a1, a2, b2, a3, b3, a4, b4, a5, b5, a6, b6, a7, b7, a8, b8⟩ := h
  have h : zRg_ R := ⟨a0, b0, a1, a2, b2, a3, b3, a4, b4, a5, b5, a6, b6, a7, b7, a8, b8⟩
  have num : ∀ (k : Nat) (lo hi : Int32) (m : Nat) (R : Nat → Int32), (znr (zTK T) (zTV T) R k lo hi m).1 = 0 → (lo ≤ zTV T m → zTV T m ≤ hi → zRg_ (up1 R k (zTV T m))) → zRg_ (znr (zTK T) (zTV T) R k lo hi m).2.2 := fun k lo hi m R f y => by
    unfold znr at f ⊢
    split at f
    · next c =>
      rw [if_pos c]
      obtain ⟨c1, c2⟩ := znf_ok c
      exact y c1 c2
    · next c => exact absurd f c
  unfold zbd at f ⊢
  by_cases v4 : zTV T n = 4
  · rw [if_pos v4] at f ⊢
    split at f
    · next c =>
      rw [if_pos c]
      obtain ⟨c0, c1, c2⟩ := zwf_ok c
      obtain ⟨k, hk, e⟩ := tk_word T (n + 1) c0
      rw [e] at c1 c2
      have := (show ∀ k : Fin 18, 12 ≤ nI k.1 → nI k.1 ≤ 14 → 1 ≤ nI k.1 - 11 ∧ nI k.1 - 11 ≤ 3 by decide) ⟨k, hk⟩ c1 c2
      show zRg_ (up1 R 0 (zTV T (n + 1) - 11))
      rw [e]
      exact ⟨this.1, this.2, a1, a2, b2, a3, b3, a4, b4, a5, b5, a6, b6, a7, b7, a8, b8⟩
    · exact absurd (show (1 : Nat) = 0 from f) (by decide)
  · rw [if_neg v4] at f ⊢
    by_cases v5 : zTV T n = 5
    · rw [if_pos v5]
      exact ⟨a0, b0, Or.inr rfl, a2, b2, a3, b3, a4, b4, a5, b5, a6, b6, a7, b7, a8, b8⟩
    · rw [if_neg v5] at f ⊢
      by_cases v6 : zTV T n = 6
      · rw [if_pos v6] at f ⊢
        exact num _ _ _ _ _ f (fun c1 c2 => ⟨a0, b0, a1, c1, c2, a3, b3, a4, b4, a5, b5, a6, b6, a7, b7, a8, b8⟩)
      · rw [if_neg v6] at f ⊢
        by_cases v7 : zTV T n = 7
        · rw [if_pos v7] at f ⊢
          exact num _ _ _ _ _ f (fun c1 c2 => ⟨a0, b0, a1, a2, b2, c1, c2, a4, b4, a5, b5, a6, b6, a7, b7, a8, b8⟩)
        · rw [if_neg v7] at f ⊢
          by_cases v8 : zTV T n = 8
          · rw [if_pos v8] at f ⊢
            exact num _ _ _ _ _ f (fun c1 c2 => ⟨a0, b0, a1, a2, b2, a3, b3, c1, c2, a5, b5, a6, b6, a7, b7, a8, b8⟩)
          · rw [if_neg v8] at f ⊢
            by_cases v9 : zTV T n = 9
            · rw [if_pos v9] at f ⊢
              exact num _ _ _ _ _ f (fun c1 c2 => ⟨a0, b0, a1, a2, b2, a3, b3, a4, b4, c1, c2, a6, b6, a7, b7, a8, b8⟩)
            · rw [if_neg v9] at f ⊢
              by_cases v11 : zTV T n = 11
              · rw [if_pos v11] at f ⊢
                exact num _ _ _ _ _ f (fun c1 c2 => ⟨a0, b0, a1, a2, b2, a3, b3, a4, b4, a5, b5, a6, b6, a7, b7, c1, c2⟩)
              · rw [if_neg v11] at f ⊢
                by_cases v10 : zTV T n = 10
                · rw [if_pos v10] at f ⊢
                  unfold zsap at f ⊢
                  split at f
                  · next c =>
                    rw [if_pos c]
                    obtain ⟨d1, d2⟩ := znf_ok c
                    split at f
                    · next c' =>
                      rw [if_pos c']
                      exact num _ _ _ _ _ f (fun c1 c2 => ⟨a0, b0, a1, a2, b2, a3, b3, a4, b4, a5, b5, d1, d2, c1, c2, a8, b8⟩)
                    · exact absurd (show (1 : Nat) = 0 from f) (by decide)
                  · next c => exact absurd f c
                · rw [if_neg v10] at f ⊢
                  unfold zkin at f ⊢
                  split at f
                  · next c =>
                    rw [if_pos c]
                    split at f
                    · next c' =>
                      rw [if_pos c']
                      split
                      · exact ⟨a0, b0, a1, a2, b2, a3, b3, a4, b4, a5, b5, a6, b6, a7, b7, a8, b8⟩
                      · exact ⟨a0, b0, a1, a2, b2, a3, b3, a4, b4, a5, b5, a6, b6, a7, b7, a8, b8⟩
                    · exact absurd (show (1 : Nat) = 0 from f) (by decide)
                  · exact absurd (show (1 : Nat) = 0 from f) (by decide)
theorem zal_rg {T : Nat → Int32} : ∀ (fu l n : Nat) (R : Nat → Int32), zRg_ R → (zal_ (zTK T) (zTV T) fu l n R).2 ≤ l + fu ∧ ((zal_ (zTK T) (zTV T) fu l n R).1.1 = 0 → zRg_ (zal_ (zTK T) (zTV T) fu l n R).1.2.2) := by
  intro fu
  induction fu with
  | zero =>
    intro l n R h
    exact ⟨Nat.le_refl _, fun _ => h⟩
  | succ fu ih =>
    intro l n R h
    rw [zal_]
    split
    · exact ⟨Nat.le_add_right _ _, fun _ => h⟩
    · split
      · split
        · next f =>
          have h' : zRg_ (zln (zTK T) (zTV T) R n).2.2 := by
            unfold zln at f ⊢
            split at f
            · next c =>
              rw [if_pos c]
              have := zbd_rg h c
              split <;> exact this
            · next c => exact absurd f c
          obtain ⟨i1, i2⟩ := ih (l + 1) (zln (zTK T) (zTV T) R n).2.1 _ h'
          exact ⟨by omega, i2⟩
        · next f => exact ⟨Nat.le_add_right _ _, fun y => absurd y f⟩
      · exact ⟨Nat.le_add_right _ _, fun y => absurd y (show ¬ (1 : Nat) = 0 by decide)⟩
theorem zRg_0 : zRg_ zR0_ := by
  unfold zRg_
  simp only [zR0_, up1]
  decide
/-! what joins, frames and raisings hold rests on the rules' rows only -/
theorem zF_row1 {I J : zFI} {r : Nat} (e : J r = I r) (w : ∀ a, 10 ≤ a → a ≤ 25 → J a = I a) (sj : Nat) (dl : Nat → Prop) : zF J r sj dl = zF I r sj dl := by
  have nm : ∀ x, zNm J r x = zNm I r x := fun x => by
    unfold zNm
    rw [w 22 (by omega) (by omega), w 24 (by omega) (by omega), e]
  unfold zF pT zFt
  funext t h
  rw [nm, nm, w 16 (by omega) (by omega), w 25 (by omega) (by omega), canFit_rows e (w 14 (by omega) (by omega)) (w 17 (by omega) (by omega)) (w 11 (by omega) (by omega)) (w 22 (by omega) (by omega)) (w 23 (by omega) (by omega)) (w 25 (by omega) (by omega))]
theorem zJo.row1 {I J : zFI} {L : zFL} {j f r sj : Nat} {dl : Nat → Prop} (h : zJo I L j f r sj dl) (er : J r = I r) (w : ∀ a, 10 ≤ a → a ≤ 66 → J a = I a) (hj : 10 ≤ j ∧ j ≤ 60) (hf : 10 ≤ f ∧ f ≤ 60) : zJo J L j f r sj dl := by
  obtain ⟨⟨m, h1⟩, h2⟩ := h
  refine ⟨⟨m, ?_⟩, ?_⟩
  · have ew : zw J = zw I := by
      unfold zw
      rw [w 17 (by omega) (by omega)]
    unfold zJb jPt at h1 ⊢
    rw [zF_row1 er (fun a a1 a2 => w a a1 (by omega)), ew, w j (by omega) (by omega), w (j + 5) (by omega) (by omega)]
    exact h1
  · rw [w 14 (by omega) (by omega), w 16 (by omega) (by omega), w (j + 5) (by omega) (by omega)]
    unfold zGth at h2 ⊢
    rw [w (f + 1) (by omega) (by omega), w (f + 2) (by omega) (by omega), w (f + 3) (by omega) (by omega), w (f + 4) (by omega) (by omega), w f (by omega) (by omega)]
    exact h2
theorem zJ2.row1 {S : zSh} {I J : zFI} {L : zFL} {sj : Nat} (h : zJ2 S I L sj) (e0 : J (zrl S 0) = I (zrl S 0)) (e1 : J (zrl S 1) = I (zrl S 1)) (w : ∀ a, 10 ≤ a → a ≤ 66 → J a = I a) : zJ2 S J L sj := by
  obtain ⟨h1, h2, h3⟩ := h
  unfold zJ2
  rw [w 32 (by omega) (by omega), w 40 (by omega) (by omega)]
  exact ⟨h1.row1 e0 w (by omega) (by omega), h2.row1 e1 w (by omega) (by omega), h3⟩
theorem zRs.row1 {S : zSh} {I J : zFI} {L : zFL} (h : zRs S I L) (er : ∀ x, x = 0 ∨ x = 1 → J (zrl S x) = I (zrl S x)) (e : ∀ a, 10 ≤ a → a ≤ 66 → J a = I a) : zRs S J L := fun c g hc hg b => by
  rw [e (44 + 8 * c) (by omega) (by omega)] at b
  obtain ⟨t, t1, t2, t3, t4⟩ := h c g hc hg b
  have r := er (nI c) (nI_01 hc)
  refine ⟨t, t1, ?_⟩
  rw [e (44 + 8 * c + 1) (by omega) (by omega), r]
  refine ⟨t2, t3, ?_⟩
  unfold zRf at t4 ⊢
  rw [e (44 + 8 * c + 5) (by omega) (by omega), e (44 + 8 * c + 7) (by omega) (by omega)]
  refine zRt_congr t4 (fun _ _ => rfl) (fun _ _ _ => rfl) (fun a b a1 b1 a2 b2 => ?_)
  unfold zAh
  rw [ah_row r, e 11 (by omega) (by omega)]
