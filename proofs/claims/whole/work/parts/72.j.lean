/-! the best join -/
def jOpt (F : Nat → Nat → Prop) (w : Nat → Nat → Int) (m : Nat → Nat) : Prop := jVal F m ∧ ∀ m', jVal F m' → jSz m' < jSz m ∨ (jSz m' = jSz m ∧ jCo w m ≤ jCo w m')
def jLex (n : Nat) (m m' : Nat → Nat) : Prop := (∀ j, j < n → m j = m' j) ∨ ∃ j, j < n ∧ (∀ i, i < j → m i = m' i) ∧ m j < m' j
def jBest (F : Nat → Nat → Prop) (w : Nat → Nat → Int) (m : Nat → Nat) : Prop := jOpt F w m ∧ ∀ m', jOpt F w m' → jLex 48 m m'
theorem j_unique {F : Nat → Nat → Prop} {w : Nat → Nat → Int} {m m' : Nat → Nat} (h : jBest F w m) (h' : jBest F w m') : ∀ t, t < 48 → m t = m' t := by
  rcases h.2 m' h'.1 with a | ⟨j, a1, a2, a3⟩
  · exact a
  · rcases h'.2 m h.1 with b | ⟨i, b1, b2, b3⟩
    · exact fun t ht => (b t ht).symm
    · exfalso
      rcases Nat.lt_trichotomy i j with c | c | c
      · have := a2 i c
        omega
      · subst c
        omega
      · have := b2 j c
        omega
theorem j_opt_eq {F : Nat → Nat → Prop} {w : Nat → Nat → Int} {m m' : Nat → Nat} (h : jOpt F w m) (h' : jOpt F w m') : jSz m = jSz m' ∧ jCo w m = jCo w m' := by
  have a := h.2 m' h'.1
  have b := h'.2 m h.1
  omega
theorem sm_const (c : Int) : ∀ n : Nat, sm (fun _ => c) n = c * n
  | 0 => (Int.mul_zero c).symm
  | n + 1 => by rw [sm_succ, sm_const c n, Int.natCast_succ, Int.mul_add, Int.mul_one]
theorem jCo_b {F : Nat → Nat → Prop} {w : Nat → Nat → Int} {m : Nat → Nat} (hok : jOk F w) (h : jVal F m) : 0 ≤ jCo w m ∧ jCo w m ≤ 144 := by
  have b : ∀ t, t < 48 → 0 ≤ (if m t = 50 then 0 else w t (m t)) ∧ (if m t = 50 then 0 else w t (m t)) ≤ 3 := fun t ht => by
    rcases h.1 t ht with c | c
    · rw [if_pos c]
      omega
    · have := hok _ _ c
      rw [if_neg (by omega)]
      omega
  have h1 := sm_le (f := fun _ => 0) (n := 48) (fun t ht => (b t ht).1)
  have h2 := sm_le (g := fun _ => 3) (n := 48) (fun t ht => (b t ht).2)
  rw [sm_const] at h1 h2
  unfold jCo
  omega
theorem jSz_b {m : Nat → Nat} : 0 ≤ jSz m ∧ jSz m ≤ 48 := by
  have b : ∀ t, t < 48 → 0 ≤ (if m t = 50 then (0 : Int) else 1) ∧ (if m t = 50 then (0 : Int) else 1) ≤ 1 := fun t ht => by
    split <;> omega
  have h1 := sm_le (f := fun _ => 0) (n := 48) (fun t ht => (b t ht).1)
  have h2 := sm_le (g := fun _ => 1) (n := 48) (fun t ht => (b t ht).2)
  rw [sm_const] at h1 h2
  unfold jSz
  omega
def jAll : Nat → Prop := fun _ => True
theorem j_gap_opt {F : Nat → Nat → Prop} {w : Nat → Nat → Int} {m : Nat → Nat} {π : Nat → Int} (hok : jOk F w) (hm : jVal F m) (hπ : jFe F w jAll m π) (hg : 1000 ≤ π 48 - π 49) : jOpt F w m := by
  refine ⟨hm, fun m' hm' => ?_⟩
  have h := (j_weak hok hm hm' hπ (fun t _ q => absurd trivial q)).1
  have b1 := jCo_b hok hm
  have b2 := jCo_b hok hm'
  rcases Int.lt_trichotomy (jSz m') (jSz m) with c | c | c
  · exact Or.inl c
  · refine Or.inr ⟨c, ?_⟩
    rw [c, Int.sub_self, Int.zero_mul] at h
    omega
  · exfalso
    have := Int.mul_le_mul_of_nonneg_right (a := 1) (b := jSz m' - jSz m) (c := π 48 - π 49) (by omega) (by omega)
    rw [Int.one_mul] at this
    omega
/-! ways by a next of each node -/
def it (nx : Nat → Nat) : Nat → Nat → Nat
  | 0, u => u
  | k + 1, u => it nx k (nx u)
theorem it_succ (nx : Nat → Nat) : ∀ k u, it nx (k + 1) u = nx (it nx k u)
  | 0, _ => rfl
  | k + 1, u => it_succ nx k (nx u)
theorem it_add (nx : Nat → Nat) (a : Nat) : ∀ b u, it nx (b + a) u = it nx a (it nx b u)
  | 0, u => by rw [Nat.zero_add]; rfl
  | b + 1, u => by
    rw [show b + 1 + a = (b + a) + 1 by omega]
    exact it_add nx a b (nx u)
theorem php : ∀ (N : Nat) (f : Nat → Nat) (n : Nat), (∀ i, i < n → f i < N) → (∀ i j, i < n → j < n → f i = f j → i = j) → n ≤ N := by
  intro N
  induction N with
  | zero =>
    intro f n h1 h2
    rcases Nat.eq_zero_or_pos n with c | c
    · omega
    · have := h1 0 c
      omega
  | succ N ih =>
    intro f n h1 h2
    by_cases c : ∃ i, i < n ∧ f i = N
    · obtain ⟨i0, c1, c2⟩ := c
      have := ih (fun i => f (if i < i0 then i else i + 1)) (n - 1) (fun i hi => ?_) (fun i j hi hj he => ?_)
      · omega
      · have a : (if i < i0 then i else i + 1) < n := by split <;> omega
        have b := h1 _ a
        have d : f (if i < i0 then i else i + 1) ≠ N := fun q => by
          have := h2 _ _ a c1 (q.trans c2.symm)
          split at this <;> omega
        show f (if i < i0 then i else i + 1) < N
        omega
      · have a : (if i < i0 then i else i + 1) < n := by split <;> omega
        have b : (if j < i0 then j else j + 1) < n := by split <;> omega
        have := h2 _ _ a b he
        split at this <;> split at this <;> omega
    · have := ih f n (fun i hi => ?_) h2
      · omega
      · have a := h1 i hi
        have b : f i ≠ N := fun q => c ⟨i, hi, q⟩
        omega
theorem least {p : Nat → Prop} (h : ∃ k, p k) : ∃ k, p k ∧ ∀ i, i < k → ¬ p i := by
  obtain ⟨k, hk⟩ := h
  induction k using Nat.strongRecOn with
  | _ k ih =>
    by_cases c : ∃ i, i < k ∧ p i
    · obtain ⟨i, h1, h2⟩ := c
      exact ih i h1 h2
    · exact ⟨k, hk, fun i hi q => c ⟨i, hi, q⟩⟩
/-- a way that reaches z, cut at its first z, has no node twice -/
theorem it_dist {nx : Nat → Nat} {z u k : Nat} (h1 : it nx k u = z) (h2 : ∀ i, i < k → ¬ it nx i u = z) : ∀ i j, i ≤ k → j ≤ k → it nx i u = it nx j u → i = j := by
  have key : ∀ i j, i < j → j ≤ k → it nx i u = it nx j u → False := fun i j hij hj he => by
    have a : it nx (i + (k - j)) u = z := by
      rw [it_add, he, ← it_add, show j + (k - j) = k by omega, h1]
    exact h2 _ (by omega) a
  intro i j hi hj he
  rcases Nat.lt_trichotomy i j with c | c | c
  · exact (key i j c hj he).elim
  · exact c
  · exact (key j i c hi he.symm).elim
/-! least ways: E the edges, z the target, d how far, nx the next; 1000000 is unreached -/
def wk (E : Nat → Nat → Int → Prop) (z : Nat) : Nat → Nat → Int → Prop
  | 0, u, C => u = z ∧ C = 0
  | k + 1, u, C => ∃ v c, E u v c ∧ wk E z k v (C - c)
def bOk (E : Nat → Nat → Int → Prop) (π : Nat → Int) : Prop := ∀ u v c, E u v c → u < 50 ∧ v < 50 ∧ -3 ≤ c ∧ c ≤ 3 ∧ π u ≤ c + π v
def bInv (E : Nat → Nat → Int → Prop) (z : Nat) (d : Nat → Int) (nx : Nat → Nat) : Prop :=
  d z = 0 ∧ (∀ u, u < 50 → d u ≤ 1000000) ∧ (∀ u, u < 50 → ¬ d u = 1000000 → ¬ u = z → ∃ c, E u (nx u) c ∧ ¬ d (nx u) = 1000000 ∧ c + d (nx u) ≤ d u) ∧ ∀ u, u < 50 → ¬ d u = 1000000 → ∃ k, it nx k u = z
theorem wk_b {E : Nat → Nat → Int → Prop} {π : Nat → Int} {z : Nat} (hE : bOk E π) : ∀ k u C, wk E z k u C → -3 * (k : Int) ≤ C ∧ C ≤ 3 * (k : Int) := by
  intro k
  induction k with
  | zero => rintro u C ⟨-, h⟩; omega
  | succ k ih =>
    rintro u C ⟨v, c, h1, h2⟩
    have := ih _ _ h2
    have := hE _ _ _ h1
    omega
/-- the way from u: at most 49 steps, and its cost is at most d u -/
theorem b_way {E : Nat → Nat → Int → Prop} {π : Nat → Int} {z : Nat} {d : Nat → Int} {nx : Nat → Nat} (hE : bOk E π) (h : bInv E z d nx) {u : Nat} (hu : u < 50) (hd : ¬ d u = 1000000) :
    ∃ k C, k ≤ 49 ∧ it nx k u = z ∧ (∀ i, i < k → ¬ it nx i u = z) ∧ (∀ i, i ≤ k → it nx i u < 50 ∧ ¬ d (it nx i u) = 1000000) ∧ wk E z k u C ∧ C ≤ d u := by
  obtain ⟨h1, h2, h3, h4⟩ := h
  obtain ⟨k, k1, k2⟩ := least (h4 u hu hd)
  have fin : ∀ i, i ≤ k → it nx i u < 50 ∧ ¬ d (it nx i u) = 1000000 := by
    intro i
    induction i with
    | zero => intro _; exact ⟨hu, hd⟩
    | succ i ih =>
      intro hi
      obtain ⟨a1, a2⟩ := ih (by omega)
      obtain ⟨c, b1, b2, b3⟩ := h3 _ a1 a2 (k2 i (by omega))
      rw [it_succ]
      exact ⟨(hE _ _ _ b1).2.1, b2⟩
  have k49 : k + 1 ≤ 50 := php 50 (fun i => it nx i u) (k + 1) (fun i hi => (fin i (by omega)).1) (fun i j hi hj he => it_dist k1 k2 i j (by omega) (by omega) he)
  have walk : ∀ j i, i + j = k → ∃ C, wk E z j (it nx i u) C ∧ C ≤ d (it nx i u) := by
    intro j
    induction j with
    | zero =>
      intro i hi
      have : i = k := by omega
      subst this
      rw [k1]
      exact ⟨0, ⟨rfl, rfl⟩, by omega⟩
    | succ j ih =>
      intro i hi
      obtain ⟨a1, a2⟩ := fin i (by omega)
      obtain ⟨c, b1, b2, b3⟩ := h3 _ a1 a2 (k2 i (by omega))
      obtain ⟨C, c1, c2⟩ := ih (i + 1) (by omega)
      rw [it_succ] at c1 c2
      refine ⟨c + C, ⟨_, c, b1, ?_⟩, by omega⟩
      rw [show c + C - c = C by omega]
      exact c1
  obtain ⟨C, c1, c2⟩ := walk k 0 (by omega)
  exact ⟨k, C, by omega, k1, k2, fin, c1, c2⟩
theorem b_low {E : Nat → Nat → Int → Prop} {π : Nat → Int} {z : Nat} {d : Nat → Int} {nx : Nat → Nat} (hE : bOk E π) (h : bInv E z d nx) {u : Nat} (hu : u < 50) : -147 ≤ d u := by
  by_cases c : d u = 1000000
  · omega
  · obtain ⟨k, C, k1, -, -, -, k2, k3⟩ := b_way hE h hu c
    have := wk_b hE _ _ _ k2
    omega
/-- along the way the reduced distance falls -/
theorem b_mono {E : Nat → Nat → Int → Prop} {π : Nat → Int} {z : Nat} {d : Nat → Int} {nx : Nat → Nat} (hE : bOk E π) (h : bInv E z d nx) {u k : Nat} (hu : u < 50) (hd : ¬ d u = 1000000) (hk : ∀ i, i < k → ¬ it nx i u = z) : it nx k u < 50 ∧ ¬ d (it nx k u) = 1000000 ∧ d (it nx k u) - π (it nx k u) ≤ d u - π u := by
  induction k with
  | zero => exact ⟨hu, hd, Int.le_refl _⟩
  | succ k ih =>
    obtain ⟨a1, a2, a3⟩ := ih (fun i hi => hk i (by omega))
    obtain ⟨c, b1, b2, b3⟩ := h.2.2.1 _ a1 a2 (hk k (by omega))
    have := hE _ _ _ b1
    rw [it_succ]
    exact ⟨this.2.1, b2, by omega⟩
theorem b_e {E : Nat → Nat → Int → Prop} {π : Nat → Int} {z : Nat} {d : Nat → Int} {nx : Nat → Nat} (hE : bOk E π) (h : bInv E z d nx) {u : Nat} (hu : u < 50) (hd : ¬ d u = 1000000) : - π z ≤ d u - π u := by
  obtain ⟨k, C, k1, k2, k3, -⟩ := b_way hE h hu hd
  have := (b_mono hE h hu hd k3).2.2
  rw [k2, h.1] at this
  omega
/-- one relaxing -/
theorem b_relax {E : Nat → Nat → Int → Prop} {π : Nat → Int} {z : Nat} {d : Nat → Int} {nx : Nat → Nat} (hE : bOk E π) (h : bInv E z d nx) {u v : Nat} {c : Int} (he : E u v c) (hv : ¬ d v = 1000000) (hl : d v + c < d u) {d' : Nat → Int} {nx' : Nat → Nat} (e1 : d' u = d v + c) (e2 : ∀ x, x ≠ u → d' x = d x) (e3 : nx' u = v) (e4 : ∀ x, x ≠ u → nx' x = nx x) : bInv E z d' nx' := by
  have hb := hE _ _ _ he
  obtain ⟨h1, h2, h3, h4⟩ := id h
  have uz : ¬ u = z := fun q => by
    have := b_e hE h hb.2.1 hv
    rw [q, h1] at hl
    rw [q] at hb
    omega
  have du := h2 u hb.1
  have vu : ¬ v = u := fun q => by
    rw [q] at hl hb
    omega
  have dv : d' v = d v := e2 v vu
  -- v's way does not meet u
  have nou : ∀ k, (∀ i, i < k → ¬ it nx i v = z) → ¬ it nx k v = u := fun k hk q => by
    have := (b_mono hE h hb.2.1 hv hk).2.2
    rw [q] at this
    omega
  have same : ∀ k x, (∀ i, i < k → ¬ it nx i x = u) → it nx' k x = it nx k x := by
    intro k
    induction k with
    | zero => intro x _; rfl
    | succ k ih =>
      intro x hx
      rw [it_succ, it_succ, ih x (fun i hi => hx i (by omega)), e4 _ (hx k (by omega))]
  have reach_v : ∃ k, it nx' k v = z := by
    obtain ⟨k, k1, k2⟩ := least (h4 v hb.2.1 hv)
    refine ⟨k, ?_⟩
    rw [same k v (fun i hi => nou i (fun j hj => k2 j (by omega)))]
    exact k1
  have reach_u : ∃ k, it nx' k u = z := by
    obtain ⟨k, hk⟩ := reach_v
    refine ⟨k + 1, ?_⟩
    show it nx' k (nx' u) = z
    rw [e3]
    exact hk
  refine ⟨by rw [e2 z (fun q => uz q.symm), h1], fun x hx => ?_, fun x hx hd hz => ?_, fun x hx hd => ?_⟩
  · by_cases q : x = u
    · rw [q, e1]
      omega
    · rw [e2 x q]
      exact h2 x hx
  · by_cases q : x = u
    · subst q
      rw [e3, e1, dv]
      exact ⟨c, he, hv, by omega⟩
    · rw [e2 x q] at hd
      obtain ⟨c', b1, b2, b3⟩ := h3 x hx hd hz
      rw [e4 x q, e2 x q]
      by_cases q2 : nx x = u
      · rw [q2] at b1 b2 b3 ⊢
        refine ⟨c', b1, ?_, ?_⟩ <;> rw [e1] <;> omega
      · rw [e2 _ q2]
        exact ⟨c', b1, b2, b3⟩
  · by_cases q : x = u
    · rw [q]
      exact reach_u
    · rw [e2 x q] at hd
      obtain ⟨k, k1⟩ := h4 x hx hd
      by_cases q2 : ∃ i, i < k ∧ it nx i x = u
      · obtain ⟨i, i1, i2⟩ := least q2
        obtain ⟨j, hj⟩ := reach_u
        refine ⟨i + j, ?_⟩
        rw [it_add, same i x (fun a ha z => i2 a ha ⟨by omega, z⟩), i1.2]
        exact hj
      · refine ⟨k, ?_⟩
        rw [same k x (fun i hi z => q2 ⟨i, hi, z⟩)]
        exact k1
