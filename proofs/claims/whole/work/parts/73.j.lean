/-! rounds of relaxing -/
def bJ (E : Nat → Nat → Int → Prop) (z : Nat) (d0 : Nat → Int) (P : Nat → Nat → Int → Prop) (d : Nat → Int) (nx : Nat → Nat) (mv : Bool) : Prop :=
  bInv E z d nx ∧ (∀ u, u < 50 → d u ≤ d0 u) ∧ (∀ u v c, P u v c → ¬ d0 v = 1000000 → d u ≤ c + d0 v) ∧ (mv = false → ∀ u, u < 50 → d u = d0 u)
theorem bJ_start {E : Nat → Nat → Int → Prop} {z : Nat} {d : Nat → Int} {nx : Nat → Nat} (h : bInv E z d nx) : bJ E z d (fun _ _ _ => False) d nx false := ⟨h, fun _ _ => Int.le_refl _, fun _ _ _ q => q.elim, fun _ _ _ => rfl⟩
theorem bJ_keep {E : Nat → Nat → Int → Prop} {π : Nat → Int} {z : Nat} {d0 d : Nat → Int} {P P' : Nat → Nat → Int → Prop} {nx : Nat → Nat} {mv : Bool} {u v : Nat} {c : Int} (hE : bOk E π) (h : bJ E z d0 P d nx mv) (h0 : ∀ u, u < 50 → d0 u ≤ 1000000) (he : E u v c) (hno : d v = 1000000 ∨ d u ≤ d v + c) (hP : ∀ a b k, P' a b k → P a b k ∨ (a = u ∧ b = v ∧ k = c)) : bJ E z d0 P' d nx mv := by
  obtain ⟨h1, h2, h3, h4⟩ := h
  refine ⟨h1, h2, fun a b k hp hb => ?_, h4⟩
  rcases hP a b k hp with q | ⟨rfl, rfl, rfl⟩
  · exact h3 a b k q hb
  · have hv := (hE _ _ _ he).2.1
    have a1 := h2 b hv
    have a2 := h0 b hv
    rcases hno with q | q
    · omega
    · omega
theorem bJ_move {E : Nat → Nat → Int → Prop} {π : Nat → Int} {z : Nat} {d0 d d' : Nat → Int} {P P' : Nat → Nat → Int → Prop} {nx nx' : Nat → Nat} {mv : Bool} {u v : Nat} {c : Int} (hE : bOk E π) (h : bJ E z d0 P d nx mv) (he : E u v c) (hv : ¬ d v = 1000000) (hl : d v + c < d u) (e1 : d' u = d v + c) (e2 : ∀ x, x ≠ u → d' x = d x) (e3 : nx' u = v) (e4 : ∀ x, x ≠ u → nx' x = nx x) (hP : ∀ a b k, P' a b k → P a b k ∨ (a = u ∧ b = v ∧ k = c)) : bJ E z d0 P' d' nx' true := by
  obtain ⟨h1, h2, h3, h4⟩ := h
  have le : ∀ x, d' x ≤ d x := fun x => by
    by_cases q : x = u
    · rw [q, e1]
      omega
    · rw [e2 x q]
      exact Int.le_refl _
  refine ⟨b_relax hE h1 he hv hl e1 e2 e3 e4, fun x hx => Int.le_trans (le x) (h2 x hx), fun a b k hp hb => ?_, fun q => Bool.noConfusion q⟩
  rcases hP a b k hp with q | ⟨rfl, rfl, rfl⟩
  · exact Int.le_trans (le a) (h3 a b k q hb)
  · have := h2 b (hE _ _ _ he).2.1
    omega
def bCv (E : Nat → Nat → Int → Prop) (d : Nat → Int) : Prop := ∀ u v c, E u v c → ¬ d v = 1000000 → d u ≤ c + d v
def bW (E : Nat → Nat → Int → Prop) (z : Nat) (k : Nat) (d : Nat → Int) : Prop := ∀ j u C, j ≤ k → wk E z j u C → d u ≤ C
theorem bW_0 {E : Nat → Nat → Int → Prop} {z : Nat} {d : Nat → Int} {nx : Nat → Nat} (h : bInv E z d nx) : bW E z 0 d := by
  intro j u C hj hw
  have : j = 0 := by omega
  subst this
  obtain ⟨rfl, rfl⟩ := hw
  rw [h.1]
  exact Int.le_refl _
theorem bW_s {E : Nat → Nat → Int → Prop} {π : Nat → Int} {z k : Nat} {d0 d : Nat → Int} {nx : Nat → Nat} {mv : Bool} (hE : bOk E π) (hk : k < 100) (h : bJ E z d0 E d nx mv) (h0 : bW E z k d0) : bW E z (k + 1) d := by
  intro j u C hj hw
  cases j with
  | zero =>
    obtain ⟨rfl, rfl⟩ := hw
    rw [h.1.1]
    exact Int.le_refl _
  | succ j =>
    obtain ⟨v, c, h1, h2⟩ := hw
    have a := h0 j v (C - c) (by omega) h2
    have b := wk_b hE _ _ _ h2
    have := h.2.2.1 u v c h1 (by omega)
    omega
theorem bCv_W {E : Nat → Nat → Int → Prop} {π : Nat → Int} {z : Nat} {d : Nat → Int} {nx : Nat → Nat} (hE : bOk E π) (h : bInv E z d nx) (hw : bW E z 50 d) : bCv E d := by
  intro u v c he hv
  obtain ⟨k, C, k1, k2, k3, k4, k5, k6⟩ := b_way hE h (hE _ _ _ he).2.1 hv
  have := hw (k + 1) u (c + C) (by omega) ⟨v, c, he, by rw [show c + C - c = C by omega]; exact k5⟩
  omega
theorem bCv_0 {E : Nat → Nat → Int → Prop} {π : Nat → Int} {z : Nat} {d0 d : Nat → Int} {nx : Nat → Nat} (hE : bOk E π) (h : bJ E z d0 E d nx false) : bCv E d := by
  intro u v c he hv
  have hb := hE _ _ _ he
  have e := h.2.2.2 rfl
  rw [e v hb.2.1] at hv ⊢
  exact h.2.2.1 u v c he hv
/-- done -/
def bD (E : Nat → Nat → Int → Prop) (z : Nat) (d : Nat → Int) (nx : Nat → Nat) : Prop := bInv E z d nx ∧ bCv E d
section
variable {E : Nat → Nat → Int → Prop} {π : Nat → Int} {z : Nat} {d : Nat → Int} {nx : Nat → Nat}
theorem bD_wk (hE : bOk E π) (h : bD E z d nx) : ∀ k u C, k < 100 → wk E z k u C → d u ≤ C := by
  intro k
  induction k with
  | zero =>
    rintro u C - ⟨rfl, rfl⟩
    rw [h.1.1]
    exact Int.le_refl _
  | succ k ih =>
    rintro u C hk ⟨v, c, h1, h2⟩
    have a := ih v (C - c) (by omega) h2
    have b := wk_b hE _ _ _ h2
    have := h.2 u v c h1 (by omega)
    omega
theorem bD_up (hE : bOk E π) (h : bD E z d nx) {u : Nat} (hu : u < 50) (hd : ¬ d u = 1000000) : d u ≤ 147 := by
  obtain ⟨k, C, k1, k2, k3, k4, k5, k6⟩ := b_way hE h.1 hu hd
  have a := bD_wk hE h k u C (by omega) k5
  have b := wk_b hE _ _ _ k5
  omega
theorem bD_fin (hE : bOk E π) (h : bD E z d nx) {u v : Nat} {c : Int} (he : E u v c) (hv : ¬ d v = 1000000) : ¬ d u = 1000000 := by
  have hb := hE _ _ _ he
  have a := bD_up hE h hb.2.1 hv
  have b := h.2 u v c he hv
  omega
theorem bD_tight (h : bD E z d nx) {u : Nat} (hu : u < 50) (hd : ¬ d u = 1000000) (hz : ¬ u = z) : ∃ c, E u (nx u) c ∧ ¬ d (nx u) = 1000000 ∧ d u = c + d (nx u) := by
  obtain ⟨c, a1, a2, a3⟩ := h.1.2.2.1 u hu hd hz
  have := h.2 _ _ _ a1 a2
  exact ⟨c, a1, a2, by omega⟩
/-- the potential shifted by the distance, cut at B -/
def jSh (π d : Nat → Int) (z : Nat) (B : Int) (u : Nat) : Int := if d u = 1000000 then π u + B else π u + min (d u - π u + π z) B
theorem jSh_ok (hE : bOk E π) (h : bD E z d nx) {B : Int} (hB : 0 ≤ B) : ∀ u v c, E u v c → jSh π d z B u ≤ c + jSh π d z B v := by
  intro u v c he
  have hb := hE _ _ _ he
  unfold jSh
  by_cases q : d v = 1000000
  · rw [if_pos q]
    split <;> omega
  · have q2 := bD_fin hE h he q
    have := h.2 u v c he q
    rw [if_neg q, if_neg q2]
    omega
/-- the nodes of a way that is closed to a round -/
def pOn (nx : Nat → Nat) (k a : Nat) (x : Nat) : Prop := ∃ i, i ≤ k ∧ it nx i a = x
def pS (nx : Nat → Nat) (z a : Nat) (x : Nat) : Nat := if x = z then a else nx x
theorem j_cyc {k a : Nat} (h1 : it nx k a = z) (h2 : ∀ i, i < k → ¬ it nx i a = z) : ∃ r, jCyc (pOn nx k a) (pS nx z a) r := by
  have dist := it_dist h1 h2
  have sit : ∀ i, i < k → pS nx z a (it nx i a) = it nx (i + 1) a := fun i hi => by
    unfold pS
    rw [if_neg (h2 i hi), it_succ]
  have sz : pS nx z a (it nx k a) = a := by
    unfold pS
    rw [if_pos h1]
  have inj : ∀ x y, pOn nx k a x → pOn nx k a y → pS nx z a x = pS nx z a y → x = y := by
    rintro x y ⟨i, i1, rfl⟩ ⟨j, j1, rfl⟩ he
    rcases (by omega : i < k ∨ i = k) with c | c
    · rw [sit i c] at he
      rcases (by omega : j < k ∨ j = k) with c' | c'
      · rw [sit j c'] at he
        have := dist _ _ (by omega) (by omega) he
        rw [show i = j by omega]
      · rw [c', sz] at he
        have := dist (i + 1) 0 (by omega) (by omega) he
        omega
    · rw [c, sz] at he
      rcases (by omega : j < k ∨ j = k) with c' | c'
      · rw [sit j c'] at he
        have := dist 0 (j + 1) (by omega) (by omega) he
        omega
      · rw [c, c']
  have sur : ∀ x, pOn nx k a x → ∃ y, pOn nx k a y ∧ pS nx z a y = x := by
    rintro x ⟨i, i1, rfl⟩
    rcases Nat.eq_zero_or_pos i with c | c
    · exact ⟨it nx k a, ⟨k, Nat.le_refl _, rfl⟩, by rw [sz, c]; rfl⟩
    · refine ⟨it nx (i - 1) a, ⟨i - 1, by omega, rfl⟩, ?_⟩
      rw [sit _ (by omega), show i - 1 + 1 = i by omega]
  have nxt : ∀ x, pOn nx k a x → pOn nx k a (pS nx z a x) := by
    rintro x ⟨i, i1, rfl⟩
    rcases (by omega : i < k ∨ i = k) with c | c
    · rw [sit i c]
      exact ⟨i + 1, by omega, rfl⟩
    · rw [c, sz]
      exact ⟨0, by omega, rfl⟩
  have ex : ∀ x, ∃ y, pOn nx k a x → pOn nx k a y ∧ pS nx z a y = x := fun x => by
    by_cases c : pOn nx k a x
    · obtain ⟨y, hy⟩ := sur x c
      exact ⟨y, fun _ => hy⟩
    · exact ⟨0, fun q => absurd q c⟩
  obtain ⟨r, hr⟩ := Classical.axiomOfChoice ex
  refine ⟨r, fun x hx => ⟨nxt x hx, ?_⟩, fun x hx => hr x hx⟩
  obtain ⟨a1, a2⟩ := hr _ (nxt x hx)
  exact inj _ _ a1 hx a2
/-- a way whose reduced distance is 0 is tight -/
theorem b_zero (hE : bOk E π) (h : bD E z d nx) {a : Nat} (ha : a < 50) (hd : ¬ d a = 1000000) (h0 : d a - π a + π z ≤ 0) : ∃ k, k ≤ 49 ∧ it nx k a = z ∧ (∀ i, i < k → ¬ it nx i a = z) ∧ d a - π a + π z = 0 ∧ (∀ i, i ≤ k → it nx i a < 50) ∧ ∀ x, pOn nx k a x → ¬ x = z → ∃ c, E x (nx x) c ∧ π x = c + π (nx x) := by
  obtain ⟨k, C, k1, k2, k3, k4, k5, k6⟩ := b_way hE h.1 ha hd
  have e : ∀ i, i ≤ k → d (it nx i a) - π (it nx i a) + π z = 0 := fun i hi => by
    have a1 := (b_mono hE h.1 ha hd (k := i) (fun j hj => k3 j (by omega))).2.2
    have a2 := b_e hE h.1 (k4 i hi).1 (k4 i hi).2
    omega
  refine ⟨k, k1, k2, k3, e 0 (by omega), fun i hi => (k4 i hi).1, ?_⟩
  rintro x ⟨i, i1, rfl⟩ hz
  have hik : i < k := by
    rcases (by omega : i < k ∨ i = k) with c | c
    · exact c
    · rw [c] at hz
      exact absurd k2 hz
  obtain ⟨c, b1, b2, b3⟩ := bD_tight h (k4 i i1).1 (k4 i i1).2 hz
  have a1 := e i i1
  have a2 := e (i + 1) (by omega)
  rw [it_succ] at a2
  exact ⟨c, b1, by omega⟩
/-- the shifted potential is tight on the way from a -/
theorem b_shift (hE : bOk E π) (h : bD E z d nx) {a : Nat} (ha : a < 50) (hd : ¬ d a = 1000000) : ∃ k, k ≤ 49 ∧ it nx k a = z ∧ (∀ i, i < k → ¬ it nx i a = z) ∧ (∀ i, i ≤ k → it nx i a < 50) ∧ (0 ≤ d a - π a + π z) ∧ ∀ x, pOn nx k a x → ¬ x = z → ∃ c, E x (nx x) c ∧ jSh π d z (d a - π a + π z) x = c + jSh π d z (d a - π a + π z) (nx x) := by
  obtain ⟨k, C, k1, k2, k3, k4, k5, k6⟩ := b_way hE h.1 ha hd
  have e : ∀ i, i ≤ k → jSh π d z (d a - π a + π z) (it nx i a) = d (it nx i a) + π z := fun i hi => by
    have a1 := (b_mono hE h.1 ha hd (k := i) (fun j hj => k3 j (by omega))).2.2
    unfold jSh
    rw [if_neg (k4 i hi).2]
    omega
  have a0 := b_e hE h.1 ha hd
  refine ⟨k, k1, k2, k3, fun i hi => (k4 i hi).1, by omega, ?_⟩
  rintro x ⟨i, i1, rfl⟩ hz
  have hik : i < k := by
    rcases (by omega : i < k ∨ i = k) with c | c
    · exact c
    · rw [c] at hz
      exact absurd k2 hz
  obtain ⟨c, b1, b2, b3⟩ := bD_tight h (k4 i i1).1 (k4 i i1).2 hz
  have a1 := e i i1
  have a2 := e (i + 1) (by omega)
  rw [it_succ] at a2
  refine ⟨c, b1, ?_⟩
  rw [a1, a2]
  omega
end
