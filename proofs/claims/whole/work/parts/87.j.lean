/-! the model's trials: early tenons are settled -/
def jCmb (M m : Nat → Nat) (x : Nat) : Nat := if M x = 50 then m x else M x
section
variable {F F' : Nat → Nat → Prop} {w : Nat → Nat → Int} {M m : Nat → Nat} {e : Nat → Prop}
theorem jOk_sub (hok : jOk F w) (h : ∀ t h, F' t h → F t h) : jOk F' w := fun t x q => by
  obtain ⟨a1, a2, a3, a4, a5, a6⟩ := hok t x (h t x q)
  exact ⟨a1, a2, a3, a4, fun y z => a5 y (h _ _ z), fun y z => a6 y (h _ _ z)⟩
theorem jVal_sub (h : ∀ t h, F' t h → F t h) (hm : jVal F' m) : jVal F m := ⟨fun t ht => (hm.1 t ht).imp_right (h _ _), hm.2⟩
theorem cmb_or (hF : ∀ t h, F' t h → ¬ e t) (hM : ∀ x, x < 48 → ¬ M x = 50 → e x) (hm : jVal F' m) {x : Nat} (hx : x < 48) : M x = 50 ∨ m x = 50 := by
  by_cases c : M x = 50
  · exact Or.inl c
  · refine Or.inr (Classical.byContradiction (fun q => ?_))
    exact hF _ _ ((hm.1 x hx).resolve_left q) (hM x hx c)
theorem cmb_sz (hF : ∀ t h, F' t h → ¬ e t) (hM : ∀ x, x < 48 → ¬ M x = 50 → e x) (hm : jVal F' m) : jSz (jCmb M m) = jSz M + jSz m ∧ jCo w (jCmb M m) = jCo w M + jCo w m := by
  unfold jSz jCo
  rw [← sm_add, ← sm_add]
  refine ⟨sm_congr (fun x hx => ?_), sm_congr (fun x hx => ?_)⟩
  · rcases cmb_or hF hM hm hx with c | c
    · have : jCmb M m x = m x := if_pos c
      rw [this, if_pos c]
      omega
    · by_cases q : M x = 50
      · have : jCmb M m x = m x := if_pos q
        rw [this, if_pos q]
        omega
      · have : jCmb M m x = M x := if_neg q
        rw [this, if_pos c]
        omega
  · rcases cmb_or hF hM hm hx with c | c
    · have : jCmb M m x = m x := if_pos c
      rw [this, if_pos c]
      omega
    · by_cases q : M x = 50
      · have : jCmb M m x = m x := if_pos q
        rw [this, if_pos q]
        omega
      · have : jCmb M m x = M x := if_neg q
        rw [this, if_pos c]
        omega
theorem cmb_val (hF : ∀ t h, F' t h ↔ F t h ∧ ¬ e t ∧ ∀ x, x < 48 → ¬ M x = h) (hV : jVal F M) (hm : jVal F' m) : jVal F (jCmb M m) := by
  have one : ∀ t, t < 48 → jCmb M m t = 50 ∨ F t (jCmb M m t) := fun t ht => by
    by_cases c : M t = 50
    · have : jCmb M m t = m t := if_pos c
      rw [this]
      exact (hm.1 t ht).imp_right (fun q => ((hF _ _).mp q).1)
    · have : jCmb M m t = M t := if_neg c
      rw [this]
      exact hV.1 t ht
  refine ⟨one, fun t t' ht ht' hn he => ?_⟩
  by_cases c : M t = 50
  · have e1 : jCmb M m t = m t := if_pos c
    rw [e1] at hn he
    have f := (hF _ _).mp ((hm.1 t ht).resolve_left hn)
    by_cases c' : M t' = 50
    · have e2 : jCmb M m t' = m t' := if_pos c'
      rw [e2] at he
      exact hm.2 t t' ht ht' hn he
    · have e2 : jCmb M m t' = M t' := if_neg c'
      rw [e2] at he
      exact absurd he.symm (f.2.2 t' ht')
  · have e1 : jCmb M m t = M t := if_neg c
    rw [e1] at hn he
    by_cases c' : M t' = 50
    · have e2 : jCmb M m t' = m t' := if_pos c'
      rw [e2] at he
      have f := (hF _ _).mp ((hm.1 t' ht').resolve_left (by rw [← he]; exact hn))
      exact absurd he (f.2.2 t ht)
    · have e2 : jCmb M m t' = M t' := if_neg c'
      rw [e2] at he
      exact hV.2 t t' ht ht' hn he
theorem f_test {m0 : Nat → Nat} (hok : jOk F w) (hV : jVal F M) (hM : ∀ x, x < 48 → ¬ M x = 50 → e x) (hF : ∀ t h, F' t h ↔ F t h ∧ ¬ e t ∧ ∀ x, x < 48 → ¬ M x = h) (hopt : jOpt F w m0) (hm : jOpt F' w m) : (jSz M + jSz m = jSz m0 ∧ jCo w M + jCo w m = jCo w m0) ↔ ∃ m1, jOpt F w m1 ∧ ∀ x, x < 48 → e x → m1 x = M x := by
  have hFe : ∀ t h, F' t h → ¬ e t := fun t h q => ((hF _ _).mp q).2.1
  have z := cmb_sz (w := w) hFe hM hm.1
  have v := cmb_val hF hV hm.1
  constructor
  · rintro ⟨a1, a2⟩
    refine ⟨jCmb M m, ⟨v, fun m' hm' => ?_⟩, fun x hx hex => ?_⟩
    · rw [z.1, z.2, a1, a2]
      exact hopt.2 m' hm'
    · by_cases c : M x = 50
      · have e1 : jCmb M m x = m x := if_pos c
        rw [e1, c]
        refine Classical.byContradiction (fun q => ?_)
        exact hFe _ _ ((hm.1.1 x hx).resolve_left q) hex
      · exact if_neg c
  · rintro ⟨m1, o1, o2⟩
    obtain ⟨rs, hrs⟩ : ∃ rs : Nat → Nat, (∀ x, e x → rs x = 50) ∧ ∀ x, ¬ e x → rs x = m1 x :=
      ⟨fun x => @ite _ (e x) (Classical.propDecidable _) 50 (m1 x), fun x q => @if_pos _ (Classical.propDecidable _) q _ _ _, fun x q => @if_neg _ (Classical.propDecidable _) q _ _ _⟩
    obtain ⟨yes, no⟩ := hrs
    have rv : jVal F' rs := by
      constructor
      · intro t ht
        by_cases c : e t
        · exact Or.inl (yes t c)
        · rw [no t c]
          rcases o1.1.1 t ht with q | q
          · exact Or.inl q
          · refine Or.inr ((hF _ _).mpr ⟨q, c, fun x hx y => ?_⟩)
            by_cases n50 : M x = 50
            · have := (hok _ _ q).2.1
              omega
            · have ex := hM x hx n50
              have mx := o2 x hx ex
              have := o1.1.2 x t hx ht (by rw [mx]; exact n50) (by rw [mx]; exact y)
              rw [this] at ex
              exact c ex
      · intro t t' ht ht' hn he
        by_cases c : e t
        · exact absurd (yes t c) hn
        · rw [no t c] at hn he
          by_cases c' : e t'
          · rw [yes t' c'] at he
            exact absurd he hn
          · rw [no t' c'] at he
            exact o1.1.2 t t' ht ht' hn he
    have z2 := cmb_sz (w := w) hFe hM rv
    have same : ∀ x, x < 48 → jCmb M rs x = m1 x := fun x hx => by
      by_cases c : M x = 50
      · have e1 : jCmb M rs x = rs x := if_pos c
        rw [e1]
        by_cases d : e x
        · rw [yes x d, o2 x hx d, c]
        · exact no x d
      · have e1 : jCmb M rs x = M x := if_neg c
        rw [e1, o2 x hx (hM x hx c)]
    have y1 : jSz (jCmb M rs) = jSz m1 := sm_congr (fun x hx => by rw [same x hx])
    have y2 : jCo w (jCmb M rs) = jCo w m1 := sm_congr (fun x hx => by rw [same x hx])
    have b1 := hm.2 rs rv
    have b2 := o1.2 _ v
    have b3 := j_opt_eq o1 hopt
    omega
/-- no best join avoids the pair -/
theorem f_must {m0 : Nat → Nat} {t h : Nat} (hF : ∀ x y, F' x y ↔ F x y ∧ ¬ (x = t ∧ y = h)) (ht : t < 48) (hh : h < 48) (hopt : jOpt F w m0) (hmt : m0 t = h) (hm : jOpt F' w m) : (jSz m = jSz m0 ∧ jCo w m = jCo w m0) ↔ ¬ jTie F w m0 t := by
  have hFf : ∀ x y, F' x y → F x y := fun x y q => ((hF _ _).mp q).1
  constructor
  · rintro ⟨a1, a2⟩ tie
    have o : jOpt F w m := ⟨jVal_sub hFf hm.1, fun m' hm' => by rw [a1, a2]; exact hopt.2 m' hm'⟩
    have e := tie m o
    rw [hmt] at e
    rcases hm.1.1 t ht with q | q
    · omega
    · rw [e] at q
      exact ((hF _ _).mp q).2 ⟨rfl, rfl⟩
  · intro nt
    obtain ⟨m', h1⟩ := Classical.not_forall.mp nt
    obtain ⟨o, ne⟩ := Classical.not_imp.mp h1
    have v : jVal F' m' := ⟨fun x hx => by
      rcases o.1.1 x hx with q | q
      · exact Or.inl q
      · refine Or.inr ((hF _ _).mpr ⟨q, fun y => ?_⟩)
        rw [y.1] at y
        exact ne (by rw [hmt]; exact y.2), o.1.2⟩
    have b1 := hm.2 m' v
    have b2 := hopt.2 m (jVal_sub hFf hm.1)
    have b3 := j_opt_eq o hopt
    omega
end
