/-! the members by their places, their mates and what is ahead of them -/
def zTm (p : Nat → Bool) (tm : Nat → Nat) : Prop := ∀ i, i < zcnt p 16 → tm i < 16 ∧ p (tm i) = true ∧ zcnt p (tm i) = i
theorem zcnt_inj {p : Nat → Bool} {t t' : Nat} (h : p t = true) (h' : p t' = true) (e : zcnt p t = zcnt p t') : t = t' := by
  rcases Nat.lt_trichotomy t t' with y | y | y
  · have := zcnt_up (p := p) (show t + 1 ≤ t' by omega)
    rw [zcnt_succ, if_pos h] at this
    omega
  · exact y
  · have := zcnt_up (p := p) (show t' + 1 ≤ t by omega)
    rw [zcnt_succ, if_pos h'] at this
    omega
theorem zcnt_mem {p : Nat → Bool} {t m : Nat} (h : p t = true) (ht : t < m) : zcnt p t < zcnt p m := by
  have := zcnt_up (p := p) (show t + 1 ≤ m by omega)
  rw [zcnt_succ, if_pos h] at this
  omega
theorem zTm_one {p : Nat → Bool} {tm tm' : Nat → Nat} (h : zTm p tm) (h' : zTm p tm') {i : Nat} (hi : i < zcnt p 16) : tm i = tm' i :=
  zcnt_inj (h i hi).2.1 (h' i hi).2.1 ((h i hi).2.2.trans (h' i hi).2.2.symm)
theorem zTm_of {p : Nat → Bool} {row : Nat → Int32} (h : ∀ t, t < 16 → p t = true → row (zcnt p t) = nI t) : zTm p (fun i => (row i).toNatClampNeg) ∧ ∀ i, i < zcnt p 16 → row i = nI (row i).toNatClampNeg := by
  have key : ∀ i, i < zcnt p 16 → ∃ t, t < 16 ∧ p t = true ∧ zcnt p t = i ∧ row i = nI t := fun i hi => by
    obtain ⟨t, a, b, c⟩ := zcnt_nth 16 hi
    exact ⟨t, a, b, c, by rw [← c]; exact h t a b⟩
  refine ⟨fun i hi => ?_, fun i hi => ?_⟩
  · obtain ⟨t, a, b, c, d⟩ := key i hi
    show (row i).toNatClampNeg < 16 ∧ p (row i).toNatClampNeg = true ∧ zcnt p (row i).toNatClampNeg = i
    rw [d, znIc (by omega)]
    exact ⟨a, b, c⟩
  · obtain ⟨t, a, b, c, d⟩ := key i hi
    rw [d, znIc (by omega)]
/-- row i has bit x, if member x is a mate of member i, with A -/
def zLn (mt : Nat → Int32) (tm : Nat → Nat) (A : Nat → Nat → Prop) (m : Nat) (row : Nat → Int32) : Prop := ∀ i, i < m → ∀ x, x < 32 → (zb (row i) x ↔ x < m ∧ zb (mt (tm i)) (tm x) ∧ A (tm i) (tm x))
theorem zLn_one {mt : Nat → Int32} {tm : Nat → Nat} {A : Nat → Nat → Prop} {m : Nat} {row row' : Nat → Int32} (h : zLn mt tm A m row) (h' : zLn mt tm A m row') : ∀ i, i < m → row i = row' i :=
  fun i hi => zb_ext (fun x hx => (h i hi x hx).trans (h' i hi x hx).symm)
theorem zLn_congr {mt mt' : Nat → Int32} {tm tm' : Nat → Nat} {A A' : Nat → Nat → Prop} {m : Nat} {row : Nat → Int32} (h : zLn mt tm A m row) (e : ∀ i, i < m → tm i = tm' i) (e1 : ∀ i, i < m → mt (tm i) = mt' (tm i)) (e2 : ∀ i x, i < m → x < m → (A (tm i) (tm x) ↔ A' (tm i) (tm x))) : zLn mt' tm' A' m row := fun i hi x hx => by
  rw [h i hi x hx]
  refine ⟨fun q => ?_, fun q => ?_⟩
  · rw [← e i hi, ← e x q.1, ← e1 i hi, ← e2 i x hi q.1]
    exact q
  · rw [← e i hi, ← e x q.1, ← e1 i hi, ← e2 i x hi q.1] at q
    exact q
/-- while member i is at mate k -/
def zLk (mt : Nat → Int32) (tm : Nat → Nat) (A : Nat → Nat → Prop) (i k : Nat) (v : Int32) : Prop := ∀ x, x < 32 → (zb v x ↔ x < k ∧ zb (mt (tm i)) (tm x) ∧ A (tm i) (tm x))
theorem zLk_zero {mt : Nat → Int32} {tm : Nat → Nat} {A : Nat → Nat → Prop} {i : Nat} : zLk mt tm A i 0 0 := fun x _ => ⟨fun q => absurd q (zb_0 x), fun q => absurd q.1 (Nat.not_lt_zero _)⟩
theorem zLk_skip {mt : Nat → Int32} {tm : Nat → Nat} {A : Nat → Nat → Prop} {i k : Nat} {v : Int32} (h : zLk mt tm A i k v) (no : ¬ (zb (mt (tm i)) (tm k) ∧ A (tm i) (tm k))) : zLk mt tm A i (k + 1) v := fun x hx => by
  rw [h x hx]
  refine ⟨fun q => ⟨by omega, q.2⟩, fun q => ⟨?_, q.2⟩⟩
  rcases (by omega : x < k ∨ x = k) with c | c
  · exact c
  · have q2 := q.2
    rw [c] at q2
    exact absurd q2 no
theorem zLk_take {mt : Nat → Int32} {tm : Nat → Nat} {A : Nat → Nat → Prop} {i k : Nat} {v : Int32} (h : zLk mt tm A i k v) (hk : k < 32) (yes : zb (mt (tm i)) (tm k) ∧ A (tm i) (tm k)) : zLk mt tm A i (k + 1) (v ||| zone k) := fun x hx => by
  rw [zb_or, zb_one hk hx, h x hx]
  refine ⟨fun q => q.elim (fun q => ⟨by omega, q.2⟩) (fun q => ⟨by omega, by rw [q]; exact yes⟩), fun q => ?_⟩
  rcases (by omega : x < k ∨ x = k) with c | c
  · exact Or.inl ⟨c, q.2⟩
  · exact Or.inr c
theorem ah_row {I J : zFI} {r : Nat} (e : J r = I r) (a b : Int32) : p_X1_isAhead J r a b = p_X1_isAhead I r a b := by
  unfold p_X1_isAhead
  rw [e]
/-- k's kind is ahead of i's -/
def zAh (I : zFI) (r a b : Nat) : Prop := ¬ p_X1_isAhead I r (I 11 b) (I 11 a) = 0
theorem c_link {G : Gp} {Q : zPost} {S : zSh} {I : zFI} {L : zFL} {f r m : Nat} {tm : Nat → Nat} (hS : zStd S) (hf : zFm f) (hr : zCu r) (hm : m ≤ 16) (h0 : I 60 0 = nI m) (ht : ∀ i, i < m → tm i < 16 ∧ I 61 i = nI (tm i))
    (q : ∀ I', (∀ b, b ≠ 62 → b ≠ 63 → b ≠ 64 → b ≠ 139 → I' b = I b) → zLn (I (f + 1)) tm (fun _ _ => True) m (I' 62) → zLn (I (f + 1)) tm (zAh I r) m (I' 63) → (∀ x, x < m → ∀ v : Int32, I' 64 x ≤ v ↔ I r 3 ≤ v ∨ nI (zpc (I' 62 x)) ≤ v) → (∀ x, x < m → I' 139 x = I' 63 x ||| zone x) → Q none S I' L) : ZC G mX7_link fX7_link lX7_link [zo G 60, zo G f, zo G 10, zo G r] S I L 0 0 Q := by
  have hf' : f = 44 ∨ f = 52 := hf
  have hr' : r = 8 ∨ r = 9 ∨ r = 83 := hr
  have main : ∀ (k i : Nat) (J : zFI), i + k = m → (∀ b, b ≠ 62 → b ≠ 63 → b ≠ 64 → b ≠ 139 → J b = I b) → (∀ x, x < i → ∀ v : Int32, J 64 x ≤ v ↔ I r 3 ≤ v ∨ nI (zpc (J 62 x)) ≤ v) → (∀ y, y < i → zLk (I (f + 1)) tm (fun _ _ => True) y m (J 62 y) ∧ zLk (I (f + 1)) tm (zAh I r) y m (J 63 y)) → (∀ y, y < i → J 139 y = J 63 y ||| zone y) → ZW G mX7_link fX7_link lX7_link 3 [zo G 60, zo G f, zo G 10, zo G r, .int (nI i), .null] [] S J L 0 0 Q := by
    intro k
    induction k with
    | zero =>
      intro i J hi j1 j3 j4 j5
      have : i = m := by omega
      rw [this] at j3 j4 j5
      rw [this]
      refine vX7_link_3 hS hf hr ⟨fun _ => q J j1 (fun y hy x hx => (j4 y hy).1 x hx) (fun y hy x hx => (j4 y hy).2 x hx) j3 j5, fun no => ?_⟩
      rw [j1 60 (by omega) (by omega) (by omega) (by omega), h0] at no
      exact absurd (Int32.le_refl _) no
    | succ k ih =>
      intro i J hi j1 j3 j4 j5
      have ic : (nI i).toNatClampNeg = i := znIc (by omega)
      obtain ⟨t1, t2⟩ := ht i (by omega)
      have inner : ∀ (d x : Nat) (K : zFI), x + d = m → (∀ b, b ≠ 62 → b ≠ 63 → b ≠ 64 → b ≠ 139 → K b = I b) → (∀ y, y < i → K 62 y = J 62 y ∧ K 63 y = J 63 y ∧ K 64 y = J 64 y ∧ K 139 y = J 139 y) → zLk (I (f + 1)) tm (fun _ _ => True) i x (K 62 i) → zLk (I (f + 1)) tm (zAh I r) i x (K 63 i) → ZW G mX7_link fX7_link lX7_link 31 [zo G 60, zo G f, zo G 10, zo G r, .int (nI i), .int (nI x)] [] S K L 0 0 Q := by
        intro d
        induction d with
        | zero =>
          intro x K hx k1 k2 k3 k4
          have : x = m := by omega
          rw [this] at k3 k4
          rw [this]
          refine vX7_link_31 hS hf hr ⟨fun _ => ⟨znIin (by omega) (by omega), ?_⟩, fun no => ?_⟩
          · have e : p_J6_bitCount_0f7a4 (K 62 i) = nI (zpc (K 62 i)) := pc32 _
            have er : ∀ v : Int32, (u2 K 139 i v) r 3 = I r 3 := fun v => by rw [u2_ne _ _ _ _ (by omega), k1 r (by omega) (by omega) (by omega) (by omega)]
            rw [ic, e, er, zone_eq, nI_1]
            have old : ∀ y, y < i + 1 → zLk (I (f + 1)) tm (fun _ _ => True) y m (K 62 y) ∧ zLk (I (f + 1)) tm (zAh I r) y m (K 63 y) := fun y hy => by
              rcases (by omega : y < i ∨ y = i) with c | c
              · rw [(k2 y c).1, (k2 y c).2.1]
                exact j4 y c
              · rw [c]
                exact ⟨k3, k4⟩
            refine ih (i + 1) _ (by omega) (fun b b1 b2 b3 b4 => ?_) (fun y hy v => ?_) (fun y hy => ?_) (fun y hy => ?_)
            · rw [← u2_row _ _ _ _ b3, ← u2_row _ _ _ _ b4]
              exact k1 b b1 b2 b3 b4
            · rw [u2_ne _ _ _ _ (show ¬ (62 = 64 ∧ y = i) by omega), u2_ne _ _ _ _ (show ¬ (62 = 139 ∧ y = i) by omega)]
              rcases (by omega : y < i ∨ y = i) with c | c
              · rw [u2_ne _ _ _ _ (by omega), u2_ne _ _ _ _ (by omega), (k2 y c).2.2.1, (k2 y c).1]
                exact j3 y c v
              · rw [c, u2_same]
                by_cases b : nI (zpc (K 62 i)) < I r 3
                · rw [if_pos b]
                  exact ⟨Or.inr, fun z => z.elim (fun z => Int32.le_trans (Int32.le_of_lt b) z) id⟩
                · rw [if_neg b]
                  exact ⟨Or.inl, fun z => z.elim id (fun z => Int32.le_trans (Int32.not_lt.mp b) z)⟩
            · rw [u2_ne _ _ _ _ (show ¬ (62 = 64 ∧ y = i) by omega), u2_ne _ _ _ _ (show ¬ (62 = 139 ∧ y = i) by omega), u2_ne _ _ _ _ (show ¬ (63 = 64 ∧ y = i) by omega), u2_ne _ _ _ _ (show ¬ (63 = 139 ∧ y = i) by omega)]
              exact old y hy
            · rw [u2_ne _ _ _ _ (show ¬ (139 = 64 ∧ y = i) by omega), u2_ne _ _ _ _ (show ¬ (63 = 64 ∧ y = i) by omega), u2_ne _ _ _ _ (show ¬ (63 = 139 ∧ y = i) by omega)]
              rcases (by omega : y < i ∨ y = i) with c | c
              · rw [u2_ne _ _ _ _ (by omega), (k2 y c).2.2.2, (k2 y c).2.1]
                exact j5 y c
              · rw [c, u2_same]
          · rw [k1 60 (by omega) (by omega) (by omega) (by omega), h0] at no
            exact absurd (Int32.le_refl _) no
        | succ d ihd =>
          intro x K hx k1 k2 k3 k4
          have xc : (nI x).toNatClampNeg = x := znIc (by omega)
          obtain ⟨s1, s2⟩ := ht x (by omega)
          have mem : p_X3_isMember (nI (tm i)) = 1 := by
            unfold p_X3_isMember
            rw [if_neg (nI_pos (by omega)), if_neg (show ¬ (16 : Int32) ≤ nI (tm i) from nI_ge (b := 16) t1 (by omega))]
          have em : p_X3_matesOf K f (K 61 i) = I (f + 1) (tm i) := by
            rw [k1 61 (by omega) (by omega) (by omega) (by omega), t2]
            unfold p_X3_matesOf
            rw [mem, if_neg (by decide), znIc (by omega), k1 (f + 1) (by omega) (by omega) (by omega) (by omega)]
          refine vX7_link_31 hS hf hr ⟨fun no => ?_, fun _ => ⟨znIin (by omega) (by omega), znIin (by omega) (by omega), ?_⟩⟩
          · rw [k1 60 (by omega) (by omega) (by omega) (by omega), h0] at no
            exact absurd no (nI_ge (by omega) (by omega))
          · rw [ic, xc, em, show K 61 x = nI (tm x) by rw [k1 61 (by omega) (by omega) (by omega) (by omega)]; exact s2, show K 61 i = nI (tm i) by rw [k1 61 (by omega) (by omega) (by omega) (by omega)]; exact t2, zone_eq, nI_1]
            have kd : ∀ y, y < 16 → p_X10_kindOf (u2 K 62 i (K 62 i ||| zone x)) (nI y) = I 11 y := fun y hy => by
              show p_X11_pick _ 11 16 _ = _
              rw [pick_in hy (by omega), u2_ne _ _ _ _ (by omega), k1 11 (by omega) (by omega) (by omega) (by omega)]
            rw [kd _ s1, kd _ t1, ah_row (I := I) (show (u2 K 62 i (K 62 i ||| zone x)) r = I r by rw [← u2_row _ _ _ _ (show r ≠ 62 by omega)]; exact k1 r (by omega) (by omega) (by omega) (by omega))]
            refine ⟨fun no => ?_, fun yes => ?_⟩
            · have nb : ¬ zb (I (f + 1) (tm i)) (tm x) := fun y => no ((zb_test (by omega)).mpr y)
              exact ihd (x + 1) K (by omega) k1 k2 (zLk_skip k3 (fun y => nb y.1)) (zLk_skip k4 (fun y => nb y.1))
            · have yb := (zb_test (by omega)).mp yes
              refine ⟨fun no => ?_, fun ah => ?_⟩
              · refine ihd (x + 1) _ (by omega) (fun b b1 b2 b3 b4 => ?_) (fun y hy => ?_) ?_ ?_
                · rw [← u2_row _ _ _ _ b1]
                  exact k1 b b1 b2 b3 b4
                · rw [u2_ne _ _ _ _ (by omega), u2_ne _ _ _ _ (by omega), u2_ne _ _ _ _ (by omega), u2_ne _ _ _ _ (by omega)]
                  exact k2 y hy
                · rw [u2_same]
                  exact zLk_take k3 (by omega) ⟨yb, trivial⟩
                · rw [u2_ne _ _ _ _ (by omega)]
                  exact zLk_skip k4 (fun y => y.2 no)
              · refine ihd (x + 1) _ (by omega) (fun b b1 b2 b3 b4 => ?_) (fun y hy => ?_) ?_ ?_
                · rw [← u2_row _ _ _ _ b2, ← u2_row _ _ _ _ b1]
                  exact k1 b b1 b2 b3 b4
                · rw [u2_ne _ _ _ _ (by omega), u2_ne _ _ _ _ (by omega), u2_ne _ _ _ _ (by omega), u2_ne _ _ _ _ (by omega), u2_ne _ _ _ _ (by omega), u2_ne _ _ _ _ (by omega), u2_ne _ _ _ _ (by omega), u2_ne _ _ _ _ (by omega)]
                  exact k2 y hy
                · rw [u2_ne _ _ _ _ (by omega), u2_same]
                  exact zLk_take k3 (by omega) ⟨yb, trivial⟩
                · rw [u2_same]
                  exact zLk_take k4 (by omega) ⟨yb, ah⟩
      refine vX7_link_3 hS hf hr ⟨fun no => ?_, fun _ => ⟨znIin (by omega) (by omega), ?_⟩⟩
      · rw [j1 60 (by omega) (by omega) (by omega) (by omega), h0] at no
        exact absurd no (nI_ge (by omega) (by omega))
      · rw [ic]
        refine inner m 0 _ (by omega) (fun b b1 b2 b3 b4 => ?_) (fun y hy => ?_) ?_ ?_
        · rw [← u2_row _ _ _ _ b2, ← u2_row _ _ _ _ b1]
          exact j1 b b1 b2 b3 b4
        · rw [u2_ne _ _ _ _ (by omega), u2_ne _ _ _ _ (by omega), u2_ne _ _ _ _ (by omega), u2_ne _ _ _ _ (by omega), u2_ne _ _ _ _ (by omega), u2_ne _ _ _ _ (by omega), u2_ne _ _ _ _ (by omega), u2_ne _ _ _ _ (by omega)]
          exact ⟨rfl, rfl, rfl, rfl⟩
        · rw [u2_ne _ _ _ _ (by omega), u2_same]
          exact zLk_zero
        · rw [u2_same]
          exact zLk_zero
  exact ZC.of' (vX7_link_0 hS hf hr (main m 0 I (by omega) (fun _ _ _ _ _ => rfl) (fun x hx => absurd hx (Nat.not_lt_zero _)) (fun y hy => absurd hy (Nat.not_lt_zero _)) (fun y hy => absurd hy (Nat.not_lt_zero _)))) rfl (Nat.le_of_ble_eq_true rfl) rfl
