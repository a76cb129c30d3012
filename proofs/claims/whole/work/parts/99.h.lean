/-! the same counted without end -/
def sN (f : Nat → Nat) : Nat → Nat
  | 0 => 0
  | n + 1 => sN f n + f n
theorem sN_le {f g : Nat → Nat} : ∀ n, (∀ i, i < n → f i ≤ g i) → sN f n ≤ sN g n := by
  intro n
  induction n with
  | zero => intro _; exact Nat.le_refl _
  | succ n ih =>
    intro h
    have := ih (fun i hi => h i (by omega))
    have := h n (by omega)
    show sN f n + f n ≤ sN g n + g n
    omega
theorem sN_bits (p : Nat → Bool) (x : Nat) : ∀ n, sN (fun i => if p i = true then x else 0) n = zcnt p n * x := by
  intro n
  induction n with
  | zero => exact (Nat.zero_mul x).symm
  | succ n ih =>
    show sN _ n + (if p n = true then x else 0) = zcnt p (n + 1) * x
    rw [ih, zcnt_succ]
    by_cases c : p n = true
    · rw [if_pos c, if_pos c, Nat.add_mul, Nat.one_mul]
    · rw [if_neg c, if_neg c, Nat.add_zero]
theorem sN_pos {f : Nat → Nat} : ∀ n, ¬ sN f n = 0 → ∃ i, i < n ∧ ¬ f i = 0 := by
  intro n
  induction n with
  | zero => intro h; exact absurd rfl h
  | succ n ih =>
    intro h
    have h : ¬ sN f n + f n = 0 := h
    by_cases c : f n = 0
    · obtain ⟨i, a, b⟩ := ih (by omega)
      exact ⟨i, by omega, b⟩
    · exact ⟨n, by omega, c⟩
theorem sN_ge {f : Nat → Nat} {i : Nat} : ∀ n, i < n → f i ≤ sN f n := by
  intro n
  induction n with
  | zero => intro h; exact absurd h (Nat.not_lt_zero _)
  | succ n ih =>
    intro h
    show f i ≤ sN f n + f n
    rcases (by omega : i < n ∨ i = n) with c | c
    · have := ih c
      omega
    · rw [c]
      omega
noncomputable def zNt (bf : Nat → Int32) (V : Nat → Nat) (s i : Nat) : Nat := @ite _ (s.testBit i = true ∧ zcc bf i (s ^^^ 2 ^ i)) (Classical.propDecidable _) (V (s ^^^ 2 ^ i)) 0
theorem zNt_y {bf : Nat → Int32} {V : Nat → Nat} {s i : Nat} (h : s.testBit i = true ∧ zcc bf i (s ^^^ 2 ^ i)) : zNt bf V s i = V (s ^^^ 2 ^ i) := @if_pos _ (Classical.propDecidable _) h _ _ _
theorem zNt_n {bf : Nat → Int32} {V : Nat → Nat} {s i : Nat} (h : ¬ (s.testBit i = true ∧ zcc bf i (s ^^^ 2 ^ i))) : zNt bf V s i = 0 := @if_neg _ (Classical.propDecidable _) h _ _ _
noncomputable def zNc (bf : Nat → Int32) (m : Nat) : Nat → Nat → Nat
  | 0, _ => 0
  | k + 1, s => if s = 0 then 1 else sN (zNt bf (zNc bf m k) s) m
theorem sL_of {f : Nat → Int64} {g : Nat → Nat} : ∀ n, (∀ i, i < n → f i = Int64.ofNat (g i)) → sL f n = Int64.ofNat (sN g n) := by
  intro n
  induction n with
  | zero => intro _; rfl
  | succ n ih =>
    intro h
    show sL f n + f n = Int64.ofNat (sN g n + g n)
    rw [ih (fun i hi => h i (by omega)), h n (by omega), Int64.ofNat_add]
theorem zWy_of {bf : Nat → Int32} {m : Nat} {V : Nat → Int64} (h : zWy bf m V) : ∀ k s, s < k → s < 2 ^ m → V s = Int64.ofNat (zNc bf m k s) := by
  intro k
  induction k with
  | zero => intro s hs; exact absurd hs (Nat.not_lt_zero _)
  | succ k ih =>
    intro s hs hm
    show V s = Int64.ofNat (if s = 0 then 1 else sN (zNt bf (zNc bf m k) s) m)
    by_cases c : s = 0
    · rw [if_pos c, c, h.1]
      rfl
    · rw [if_neg c, h.2 s (by omega) hm]
      refine sL_of m (fun i _ => ?_)
      by_cases q : s.testBit i = true ∧ zcc bf i (s ^^^ 2 ^ i)
      · have := del_less q.1
        rw [zwt_y q, zNt_y q, ih _ (by omega) (by omega)]
      · rw [zwt_n q, zNt_n q]
        rfl
def zfa : Nat → Nat
  | 0 => 1
  | n + 1 => (n + 1) * zfa n
theorem zfa_16 : ∀ n, n ≤ 16 → zfa n < 9223372036854775808 := by
  have : ∀ n : Fin 17, zfa n.1 < 9223372036854775808 := by decide +kernel
  intro n hn
  exact this ⟨n, by omega⟩
theorem zcnt_del {s i m : Nat} (hi : i < m) (h : s.testBit i = true) : zcnt (fun k => (s ^^^ 2 ^ i).testBit k) m + 1 = zcnt (fun k => s.testBit k) m := by
  induction m with
  | zero => exact absurd hi (Nat.not_lt_zero _)
  | succ m ih =>
    rw [zcnt_succ, zcnt_succ]
    rcases (by omega : i < m ∨ i = m) with c | c
    · have e : (s ^^^ 2 ^ i).testBit m = true ↔ s.testBit m = true := (del_bit h m).trans ⟨fun q => q.1, fun q => ⟨q, by omega⟩⟩
      have := ih c
      by_cases d : s.testBit m = true
      · rw [if_pos d, if_pos (e.mpr d)]
        omega
      · rw [if_neg d, if_neg (fun y => d (e.mp y))]
        exact this
    · rw [← c, if_pos h, if_neg (fun y => ((del_bit h i).mp y).2 rfl)]
      congr 1
      refine zcnt_congr (fun k hk => Bool.eq_iff_iff.mpr ?_)
      rw [del_bit h]
      exact ⟨fun q => q.1, fun q => ⟨q, by omega⟩⟩
theorem zNc_fa {bf : Nat → Int32} {m : Nat} : ∀ k s, s < 2 ^ m → zNc bf m k s ≤ zfa (zcnt (fun i => s.testBit i) m) := by
  intro k
  induction k with
  | zero => intro s _; exact Nat.zero_le _
  | succ k ih =>
    intro s hs
    show (if s = 0 then 1 else sN (zNt bf (zNc bf m k) s) m) ≤ _
    by_cases c : s = 0
    · rw [if_pos c]
      have : ∀ n, 1 ≤ zfa n := by
        intro n
        induction n with
        | zero => exact Nat.le_refl _
        | succ n ih =>
          show 1 ≤ (n + 1) * zfa n
          exact Nat.mul_pos (by omega) ih
      exact this _
    · rw [if_neg c]
      have step : sN (zNt bf (zNc bf m k) s) m ≤ sN (fun i => if s.testBit i = true then zfa (zcnt (fun i => s.testBit i) m - 1) else 0) m := by
        refine sN_le m (fun i hi => ?_)
        by_cases q : s.testBit i = true ∧ zcc bf i (s ^^^ 2 ^ i)
        · have e := zcnt_del hi q.1
          have b := ih (s ^^^ 2 ^ i) (del_lt hs hi)
          rw [zNt_y q]
          show _ ≤ if s.testBit i = true then _ else 0
          rw [if_pos q.1, ← e, Nat.add_sub_cancel]
          exact b
        · rw [zNt_n q]
          exact Nat.zero_le _
      refine Nat.le_trans step ?_
      rw [sN_bits]
      generalize zcnt (fun i => s.testBit i) m = n
      cases n with
      | zero => rw [Nat.zero_mul]; exact Nat.zero_le _
      | succ n => exact Nat.le_refl _
theorem ofNat_0 {n : Nat} (h : n < 9223372036854775808) : Int64.ofNat n = 0 ↔ n = 0 := by
  refine ⟨fun q => ?_, fun q => by rw [q]; rfl⟩
  have e : (Int64.ofNat n).toInt = (n : Int) := Int64.toInt_ofNat_of_lt (by omega)
  rw [q, show (0 : Int64).toInt = 0 from rfl] at e
  omega
/-- the sets that come to stand -/
theorem zWy_pos {bf : Nat → Int32} {m : Nat} {V : Nat → Int64} (hm : m ≤ 16) (h : zWy bf m V) :
    (¬ V 0 = 0) ∧ (∀ s i, s < 2 ^ m → i < m → zcc bf i s → ¬ V s = 0 → ¬ V (s ||| 2 ^ i) = 0) ∧ ∀ s, 0 < s → s < 2 ^ m → ¬ V s = 0 → ∃ i, i < m ∧ s.testBit i = true ∧ zcc bf i (s ^^^ 2 ^ i) ∧ ¬ V (s ^^^ 2 ^ i) = 0 := by
  have key : ∀ k s, s < k → s < 2 ^ m → (V s = 0 ↔ zNc bf m k s = 0) := fun k s hk hs => by
    rw [zWy_of h k s hk hs]
    have b := zNc_fa (bf := bf) k s hs
    have c := zfa_16 (zcnt (fun i => s.testBit i) m) (Nat.le_trans (zcnt_le _ m) hm)
    exact ofNat_0 (by omega)
  refine ⟨by rw [h.1]; decide, fun s i hs hi c n => ?_, fun s s0 hs n => ?_⟩
  · have gt := add_gt c.1
    have bit : (s ||| 2 ^ i).testBit i = true := (add_bit s i i).mpr (Or.inr rfl)
    have back := add_del c.1
    rw [key ((s ||| 2 ^ i) + 1) _ (by omega) (add_lt hs hi)]
    show ¬ (if s ||| 2 ^ i = 0 then 1 else sN (zNt bf (zNc bf m (s ||| 2 ^ i)) (s ||| 2 ^ i)) m) = 0
    rw [if_neg (by omega)]
    intro z
    have ge := sN_ge (f := zNt bf (zNc bf m (s ||| 2 ^ i)) (s ||| 2 ^ i)) (i := i) m hi
    rw [z, zNt_y ⟨bit, by rw [back]; exact c⟩, back] at ge
    exact n ((key (s ||| 2 ^ i) s gt hs).mpr (by omega))
  · rw [key (s + 1) s (by omega) hs] at n
    have n : ¬ (if s = 0 then 1 else sN (zNt bf (zNc bf m s) s) m) = 0 := n
    rw [if_neg (by omega)] at n
    obtain ⟨i, i1, i2⟩ := sN_pos m n
    by_cases q : s.testBit i = true ∧ zcc bf i (s ^^^ 2 ^ i)
    · rw [zNt_y q] at i2
      exact ⟨i, i1, q.1, q.2, fun y => i2 ((key s _ (del_less q.1) (del_lt hs i1)).mp y)⟩
    · exact absurd (zNt_n q) i2
