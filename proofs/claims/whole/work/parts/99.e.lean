/-! in how many ways a set comes to stand -/
def sL (f : Nat → Int64) : Nat → Int64
  | 0 => 0
  | n + 1 => sL f n + f n
theorem sL_congr {f g : Nat → Int64} : ∀ n, (∀ i, i < n → f i = g i) → sL f n = sL g n := by
  intro n
  induction n with
  | zero => intro _; rfl
  | succ n ih =>
    intro h
    show sL f n + f n = sL g n + g n
    rw [ih (fun i hi => h i (by omega)), h n (by omega)]
theorem sL_zero : ∀ n, sL (fun _ => 0) n = 0 := by
  intro n
  induction n with
  | zero => rfl
  | succ n ih =>
    show sL (fun _ => 0) n + 0 = 0
    rw [ih]
    rfl
theorem sL_one {f g : Nat → Int64} {j : Nat} {d : Int64} (hj : g j = f j + d) (h : ∀ i, i ≠ j → g i = f i) : ∀ n, j < n → sL g n = sL f n + d := by
  intro n
  induction n with
  | zero => intro q; exact absurd q (Nat.not_lt_zero _)
  | succ n ih =>
    intro q
    show sL g n + g n = sL f n + f n + d
    rcases (by omega : j < n ∨ j = n) with c | c
    · rw [ih c, h n (by omega), Int64.add_assoc, Int64.add_assoc, Int64.add_comm d]
    · rw [sL_congr (g := f) n (fun i hi => h i (by omega)), ← c, hj, Int64.add_assoc]
/-- what comes to s by its member i -/
noncomputable def zwt (bf : Nat → Int32) (V : Nat → Int64) (s i : Nat) : Int64 := @ite _ (s.testBit i = true ∧ zcc bf i (s ^^^ 2 ^ i)) (Classical.propDecidable _) (V (s ^^^ 2 ^ i)) 0
theorem zwt_y {bf : Nat → Int32} {V : Nat → Int64} {s i : Nat} (h : s.testBit i = true ∧ zcc bf i (s ^^^ 2 ^ i)) : zwt bf V s i = V (s ^^^ 2 ^ i) := @if_pos _ (Classical.propDecidable _) h _ _ _
theorem zwt_n {bf : Nat → Int32} {V : Nat → Int64} {s i : Nat} (h : ¬ (s.testBit i = true ∧ zcc bf i (s ^^^ 2 ^ i))) : zwt bf V s i = 0 := @if_neg _ (Classical.propDecidable _) h _ _ _
def zWy (bf : Nat → Int32) (m : Nat) (V : Nat → Int64) : Prop := V 0 = 1 ∧ ∀ s, 0 < s → s < 2 ^ m → V s = sL (zwt bf V s) m
theorem zWy_one {bf : Nat → Int32} {m : Nat} {V V' : Nat → Int64} (h : zWy bf m V) (h' : zWy bf m V') : ∀ s, s < 2 ^ m → V s = V' s := by
  intro s
  induction s using Nat.strongRecOn with
  | _ s ih =>
    intro hs
    rcases Nat.eq_zero_or_pos s with c | c
    · rw [c, h.1, h'.1]
    · rw [h.2 s c hs, h'.2 s c hs]
      refine sL_congr m (fun i _ => ?_)
      by_cases q : s.testBit i = true ∧ zcc bf i (s ^^^ 2 ^ i)
      · have := del_less q.1
        rw [zwt_y q, zwt_y q, ih _ this (by omega)]
      · rw [zwt_n q, zwt_n q]
/-- what came to s from the sets before t, and from t by members before j -/
noncomputable def zwp (bf : Nat → Int32) (V : Nat → Int64) (t j s i : Nat) : Int64 := @ite _ ((s.testBit i = true ∧ zcc bf i (s ^^^ 2 ^ i)) ∧ (s ^^^ 2 ^ i < t ∨ s ^^^ 2 ^ i = t ∧ i < j)) (Classical.propDecidable _) (V (s ^^^ 2 ^ i)) 0
theorem zwp_y {bf : Nat → Int32} {V : Nat → Int64} {t j s i : Nat} (h : (s.testBit i = true ∧ zcc bf i (s ^^^ 2 ^ i)) ∧ (s ^^^ 2 ^ i < t ∨ s ^^^ 2 ^ i = t ∧ i < j)) : zwp bf V t j s i = V (s ^^^ 2 ^ i) := @if_pos _ (Classical.propDecidable _) h _ _ _
theorem zwp_n {bf : Nat → Int32} {V : Nat → Int64} {t j s i : Nat} (h : ¬ ((s.testBit i = true ∧ zcc bf i (s ^^^ 2 ^ i)) ∧ (s ^^^ 2 ^ i < t ∨ s ^^^ 2 ^ i = t ∧ i < j))) : zwp bf V t j s i = 0 := @if_neg _ (Classical.propDecidable _) h _ _ _
def zWp (bf : Nat → Int32) (m : Nat) (V : Nat → Int64) (t j : Nat) : Prop := ∀ s, s < 2 ^ m → V s = (if s = 0 then 1 else 0) + sL (zwp bf V t j s) m
/-- nothing from t by member j -/
theorem zWp_skip {bf : Nat → Int32} {m : Nat} {V : Nat → Int64} {t j : Nat} (h : zWp bf m V t j) (no : ¬ zcc bf j t ∨ V t = 0) : zWp bf m V t (j + 1) := fun s hs => by
  rw [h s hs]
  congr 1
  refine sL_congr m (fun i _ => ?_)
  by_cases q : (s.testBit i = true ∧ zcc bf i (s ^^^ 2 ^ i)) ∧ (s ^^^ 2 ^ i < t ∨ s ^^^ 2 ^ i = t ∧ i < j)
  · rw [zwp_y q, zwp_y ⟨q.1, q.2.elim Or.inl (fun y => Or.inr ⟨y.1, by omega⟩)⟩]
  · rw [zwp_n q]
    by_cases q' : (s.testBit i = true ∧ zcc bf i (s ^^^ 2 ^ i)) ∧ (s ^^^ 2 ^ i < t ∨ s ^^^ 2 ^ i = t ∧ i < j + 1)
    · rw [zwp_y q']
      obtain ⟨q1, q2⟩ := q'
      rcases q2 with q2 | ⟨q2, q3⟩
      · exact absurd ⟨q1, Or.inl q2⟩ q
      · rcases (by omega : i < j ∨ i = j) with c | c
        · exact absurd ⟨q1, Or.inr ⟨q2, c⟩⟩ q
        · rw [q2, c] at q1
          rw [q2]
          rcases no with no | no
          · exact absurd q1.2 no
          · exact no.symm
    · rw [zwp_n q']
/-- from t by member j -/
theorem zWp_take {bf : Nat → Int32} {m : Nat} {V V' : Nat → Int64} {t j : Nat} (h : zWp bf m V t j) (ht : t < 2 ^ m) (hj : j < m) (c : zcc bf j t) (e : V' (t ||| 2 ^ j) = V (t ||| 2 ^ j) + V t) (e' : ∀ s, s ≠ t ||| 2 ^ j → V' s = V s) : zWp bf m V' t (j + 1) := fun s hs => by
  have gt := add_gt c.1
  have same : ∀ i, s.testBit i = true → s ^^^ 2 ^ i ≤ t → V' (s ^^^ 2 ^ i) = V (s ^^^ 2 ^ i) := fun i _ hi => e' _ (by omega)
  have other : ∀ i, ¬ (i = j ∧ s = t ||| 2 ^ j) → zwp bf V' t (j + 1) s i = zwp bf V t j s i := fun i ne => by
    by_cases q : (s.testBit i = true ∧ zcc bf i (s ^^^ 2 ^ i)) ∧ (s ^^^ 2 ^ i < t ∨ s ^^^ 2 ^ i = t ∧ i < j)
    · rw [zwp_y q, zwp_y ⟨q.1, q.2.elim Or.inl (fun y => Or.inr ⟨y.1, by omega⟩)⟩]
      exact same i q.1.1 (by omega)
    · rw [zwp_n q]
      refine zwp_n (fun q' => ?_)
      obtain ⟨q1, q2⟩ := q'
      rcases q2 with q2 | ⟨q2, q3⟩
      · exact q ⟨q1, Or.inl q2⟩
      · rcases (by omega : i < j ∨ i = j) with y | y
        · exact q ⟨q1, Or.inr ⟨q2, y⟩⟩
        · refine ne ⟨y, ?_⟩
          rw [y] at q1 q2
          rw [← q2, del_add q1.1]
  by_cases d : s = t ||| 2 ^ j
  · have bit : s.testBit j = true := by rw [d]; exact (add_bit t j j).mpr (Or.inr rfl)
    have back : s ^^^ 2 ^ j = t := by rw [d]; exact add_del c.1
    have hit : zwp bf V' t (j + 1) s j = zwp bf V t j s j + V t := by
      rw [zwp_y ⟨⟨bit, by rw [back]; exact c⟩, Or.inr ⟨back, by omega⟩⟩, zwp_n (fun q => by rcases q.2 with y | y <;> omega), back, e' t (by omega)]
      exact (Int64.zero_add _).symm
    have := sL_one (f := zwp bf V t j s) (g := zwp bf V' t (j + 1) s) (j := j) (d := V t) hit (fun i hi => other i (fun q => hi q.1)) m hj
    rw [this, d, e, ← d, h s hs, Int64.add_assoc]
  · rw [e' s d, h s hs]
    congr 1
    exact sL_congr m (fun i _ => (other i (fun q => d q.2)).symm)
theorem zWp_next {bf : Nat → Int32} {m : Nat} {V : Nat → Int64} {t : Nat} (h : zWp bf m V t m) : zWp bf m V (t + 1) 0 := fun s hs => by
  rw [h s hs]
  congr 1
  refine sL_congr m (fun i hi => ?_)
  by_cases q : (s.testBit i = true ∧ zcc bf i (s ^^^ 2 ^ i)) ∧ (s ^^^ 2 ^ i < t ∨ s ^^^ 2 ^ i = t ∧ i < m)
  · rw [zwp_y q, zwp_y ⟨q.1, Or.inl (by omega)⟩]
  · rw [zwp_n q]
    exact (zwp_n (fun y => q ⟨y.1, by omega⟩)).symm
theorem zWp_end {bf : Nat → Int32} {m : Nat} {V : Nat → Int64} (h : zWp bf m V (2 ^ m) 0) : zWy bf m V := by
  refine ⟨?_, fun s h0 hs => ?_⟩
  · rw [h 0 (Nat.two_pow_pos m), if_pos rfl, sL_congr (g := fun _ => 0) m (fun i _ => zwp_n (fun q => ?_)), sL_zero]
    · rfl
    · have := q.1.1
      rw [Nat.zero_testBit] at this
      exact Bool.noConfusion this
  · rw [h s hs, if_neg (by omega), Int64.zero_add]
    refine sL_congr m (fun i _ => ?_)
    by_cases q : s.testBit i = true ∧ zcc bf i (s ^^^ 2 ^ i)
    · rw [zwt_y q, zwp_y ⟨q, Or.inl ?_⟩]
      have := del_less q.1
      omega
    · rw [zwt_n q, zwp_n (fun y => q y.1)]
