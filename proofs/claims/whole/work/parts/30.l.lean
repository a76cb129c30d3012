theorem zc_eq (x : Int32) : x.toNatClampNeg = x.toInt.toNat := rfl
theorem zle {x y : Int32} : x ≤ y ↔ x.toInt ≤ y.toInt := Int32.le_iff_toInt_le
theorem zlt {x y : Int32} : x < y ↔ x.toInt < y.toInt := Int32.lt_iff_toInt_lt
theorem zeq {x y : Int32} : x = y ↔ x.toInt = y.toInt := Int32.toInt_inj.symm
theorem zlo (x : Int32) : -2147483648 ≤ x.toInt := by have := Int32.le_toInt x; simpa using this
theorem zhi (x : Int32) : x.toInt < 2147483648 := by have := Int32.toInt_lt x; simpa using this
theorem zbm {z : Int} (h1 : -2147483648 ≤ z) (h2 : z < 2147483648) : z.bmod (2 ^ 32) = z := by
  apply Int.bmod_eq_of_le <;> simp <;> omega
theorem zadd {x y : Int32} (h1 : -2147483648 ≤ x.toInt + y.toInt) (h2 : x.toInt + y.toInt < 2147483648) : (x + y).toInt = x.toInt + y.toInt := by
  rw [Int32.toInt_add]; exact zbm h1 h2
theorem zsub {x y : Int32} (h1 : -2147483648 ≤ x.toInt - y.toInt) (h2 : x.toInt - y.toInt < 2147483648) : (x - y).toInt = x.toInt - y.toInt := by
  rw [Int32.toInt_sub]; exact zbm h1 h2
theorem zmul {x y : Int32} (h1 : -2147483648 ≤ x.toInt * y.toInt) (h2 : x.toInt * y.toInt < 2147483648) : (x * y).toInt = x.toInt * y.toInt := by
  rw [Int32.toInt_mul]; exact zbm h1 h2
theorem zinc {x : Int32} (h : x.toInt < 2147483647) : (x + 1).toInt = x.toInt + 1 := zadd (y := 1) (by have := zlo x; rw [show (1 : Int32).toInt = 1 from rfl]; omega) (by rw [show (1 : Int32).toInt = 1 from rfl]; omega)
theorem znI {n : Nat} (h : n < 2147483648) : (nI n).toInt = (n : Int) := nI_toInt (by omega)
theorem znIc {n : Nat} (h : n < 2147483648) : (nI n).toNatClampNeg = n := nI_clamp (by omega)
theorem zof {x : Int32} (h : 0 ≤ x) : ∃ n : Nat, n < 2147483648 ∧ x = nI n := by
  have h0 := zle.mp h
  have h1 := zhi x
  refine ⟨x.toInt.toNat, ?_, ?_⟩
  · rw [show (0 : Int32).toInt = 0 from rfl] at h0; omega
  · rw [zeq, znI]
    · rw [show (0 : Int32).toInt = 0 from rfl] at h0; omega
    · rw [show (0 : Int32).toInt = 0 from rfl] at h0; omega
theorem znIin {n N : Nat} (h : n < N) (hN : N < 2147483648) : vp_in (nI n) N := vp_in_nI h (by omega)
/-- the last k below n with p, else -1 -/
def zlate (p : Nat → Bool) : Nat → Int32
  | 0 => -1
  | n + 1 => if p n = true then nI n else zlate p n
/-- how many k below n with p -/
def zcnt (p : Nat → Bool) : Nat → Nat
  | 0 => 0
  | n + 1 => if p n = true then zcnt p n + 1 else zcnt p n
/-- how many k below n with p, from the first on without a break -/
def zlead (p : Nat → Bool) : Nat → Nat
  | 0 => 0
  | n + 1 => if zlead p n = n ∧ p n = true then n + 1 else zlead p n
theorem zcnt_le (p : Nat → Bool) : ∀ n, zcnt p n ≤ n
  | 0 => Nat.le_refl _
  | n + 1 => by
    have := zcnt_le p n
    unfold zcnt
    split <;> omega
theorem zlead_le (p : Nat → Bool) : ∀ n, zlead p n ≤ n
  | 0 => Nat.le_refl _
  | n + 1 => by
    have := zlead_le p n
    unfold zlead
    split <;> omega
theorem zlead_p (p : Nat → Bool) : ∀ n k, k < zlead p n → p k = true
  | 0, k, h => absurd h (Nat.not_lt_zero _)
  | n + 1, k, h => by
    unfold zlead at h
    split at h
    · rename_i hc
      rcases Nat.lt_or_ge k n with h2 | h2
      · exact zlead_p p n k (by rw [hc.1]; exact h2)
      · rw [show k = n by omega]; exact hc.2
    · exact zlead_p p n k h
theorem zlead_np (p : Nat → Bool) : ∀ n, zlead p n < n → p (zlead p n) = false
  | 0, h => absurd h (Nat.not_lt_zero _)
  | n + 1, h => by
    unfold zlead at h ⊢
    by_cases hc : zlead p n = n ∧ p n = true
    · rw [if_pos hc] at h; omega
    · rw [if_neg hc] at h ⊢
      rcases Nat.lt_or_ge (zlead p n) n with h2 | h2
      · exact zlead_np p n h2
      · have h3 : zlead p n = n := Nat.le_antisymm (zlead_le p n) h2
        have h4 : ¬ p n = true := fun q => hc ⟨h3, q⟩
        rw [h3]
        simpa using h4
theorem zlead_eq {p : Nat → Bool} {n k : Nat} (hk : k ≤ n) (h1 : ∀ j, j < k → p j = true) (h2 : k < n → p k = false) : zlead p n = k := by
  rcases Nat.lt_trichotomy (zlead p n) k with h | h | h
  · have := zlead_np p n (by omega)
    rw [h1 _ h] at this
    cases this
  · exact h
  · have h3 := zlead_p p n k h
    have h4 := zlead_le p n
    rw [h2 (by omega)] at h3
    cases h3
theorem zlead_congr {p q : Nat → Bool} {n : Nat} (h : ∀ k, k < n → p k = q k) : zlead p n = zlead q n := by
  refine zlead_eq (zlead_le q n) (fun j hj => ?_) (fun hl => ?_)
  · rw [h j (Nat.lt_of_lt_of_le hj (zlead_le q n))]; exact zlead_p q n j hj
  · rw [h _ hl]; exact zlead_np q n hl
theorem zcnt_congr {p q : Nat → Bool} : ∀ {n : Nat}, (∀ k, k < n → p k = q k) → zcnt p n = zcnt q n
  | 0, _ => rfl
  | n + 1, h => by
    unfold zcnt
    rw [h n (Nat.lt_succ_self n), zcnt_congr (fun k hk => h k (Nat.lt_succ_of_lt hk))]
theorem zlate_congr {p q : Nat → Bool} : ∀ {n : Nat}, (∀ k, k < n → p k = q k) → zlate p n = zlate q n
  | 0, _ => rfl
  | n + 1, h => by
    unfold zlate
    rw [h n (Nat.lt_succ_self n), zlate_congr (fun k hk => h k (Nat.lt_succ_of_lt hk))]
theorem zlate_succ (p : Nat → Bool) (n : Nat) : zlate p (n + 1) = if p n = true then nI n else zlate p n := rfl
theorem zcnt_succ (p : Nat → Bool) (n : Nat) : zcnt p (n + 1) = if p n = true then zcnt p n + 1 else zcnt p n := rfl
