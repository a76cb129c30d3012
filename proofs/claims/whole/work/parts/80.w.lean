/-! how many bits are set: bytes side by side -/
theorem and256 {a b c d : Nat} (ha : a < 256) (hc : c < 256) : (a + 256 * b) &&& (c + 256 * d) = (a &&& c) + 256 * (b &&& d) := by
  have e1 : ((a + 256 * b) &&& (c + 256 * d)) % 2 ^ 8 = a &&& c := by
    rw [Nat.and_mod_two_pow, show (a + 256 * b) % 2 ^ 8 = a by omega, show (c + 256 * d) % 2 ^ 8 = c by omega]
  have e2 : ((a + 256 * b) &&& (c + 256 * d)) / 2 ^ 8 = b &&& d := by
    rw [Nat.and_div_two_pow, show (a + 256 * b) / 2 ^ 8 = b by omega, show (c + 256 * d) / 2 ^ 8 = d by omega]
  omega
def pm (m : Nat) : Nat → Nat
  | 0 => 0
  | n + 1 => m + 256 * pm m n
def p8 (b : Nat) : Nat := zcnt (fun i => b.testBit i) 8
def pP : Nat → Nat → Nat
  | 0, _ => 0
  | n + 1, x => p8 (x % 256) + 256 * pP n (x / 256)
def pt (x m : Nat) : Nat := x - ((x / 2) &&& m)
def pu (x m : Nat) : Nat := (x &&& m) + ((x / 4) &&& m)
def pv (x m : Nat) : Nat := (x + x / 16) &&& m
theorem by1 : ∀ (a : Fin 128) (r : Fin 2), (a.1 + 128 * r.1) &&& 85 = a.1 &&& 85 := by decide +kernel
theorem by2 : ∀ (a : Fin 64) (r : Fin 4), (a.1 + 64 * r.1) &&& 51 = a.1 &&& 51 := by decide +kernel
theorem by3 : ∀ b : Fin 256, pt b.1 85 < 256 ∧ (b.1 / 2 &&& 85) ≤ b.1 ∧ pu (pt b.1 85) 51 ≤ 68 ∧ pu (pt b.1 85) 51 % 16 ≤ 4 ∧ ∀ r : Fin 5, (pu (pt b.1 85) 51 + pu (pt b.1 85) 51 / 16 + 16 * r.1) &&& 15 = p8 b.1 := by decide +kernel
theorem pt_step {b r M : Nat} (hb : b < 256) (hM : (r / 2 &&& M) ≤ r) : pt (b + 256 * r) (85 + 256 * M) = pt b 85 + 256 * pt r M ∧ ((b + 256 * r) / 2 &&& (85 + 256 * M)) ≤ b + 256 * r := by
  have e : (b + 256 * r) / 2 = (b / 2 + 128 * (r % 2)) + 256 * (r / 2) := by omega
  have e1 := by1 ⟨b / 2, by omega⟩ ⟨r % 2, by omega⟩
  have e1 : (b / 2 + 128 * (r % 2)) &&& 85 = b / 2 &&& 85 := e1
  have l := (by3 ⟨b, hb⟩).2.1
  have l : (b / 2 &&& 85) ≤ b := l
  unfold pt
  rw [e, and256 (by omega) (by omega), e1]
  omega
theorem pu_step {b r M : Nat} (hb : b < 256) : pu (b + 256 * r) (51 + 256 * M) = pu b 51 + 256 * pu r M := by
  have e : (b + 256 * r) / 4 = (b / 4 + 64 * (r % 4)) + 256 * (r / 4) := by omega
  have e1 := by2 ⟨b / 4, by omega⟩ ⟨r % 4, by omega⟩
  have e1 : (b / 4 + 64 * (r % 4)) &&& 51 = b / 4 &&& 51 := e1
  unfold pu
  rw [e, and256 hb (by omega), and256 (by omega) (by omega), e1]
  omega
theorem pP_all : ∀ n x, x < 256 ^ n → (x / 2 &&& pm 85 n) ≤ x ∧ pu (pt x (pm 85 n)) (pm 51 n) % 16 ≤ 4 ∧ pv (pu (pt x (pm 85 n)) (pm 51 n)) (pm 15 n) = pP n x := by
  intro n
  induction n with
  | zero =>
    intro x hx
    have : x = 0 := by
      rw [Nat.pow_zero] at hx
      omega
    rw [this]
    decide
  | succ n ih =>
    intro x hx
    obtain ⟨i1, i2, i3⟩ := ih (x / 256) (by
      rw [Nat.pow_succ] at hx
      omega)
    obtain ⟨c1, c2, c3, c4, c5⟩ := by3 ⟨x % 256, by omega⟩
    have c1 : pt (x % 256) 85 < 256 := c1
    have c3 : pu (pt (x % 256) 85) 51 ≤ 68 := c3
    have c4 : pu (pt (x % 256) 85) 51 % 16 ≤ 4 := c4
    have ex : x = x % 256 + 256 * (x / 256) := by omega
    have m1 : ∀ m, pm m (n + 1) = m + 256 * pm m n := fun m => rfl
    obtain ⟨s1, s2⟩ := pt_step (b := x % 256) (r := x / 256) (M := pm 85 n) (by omega) i1
    have s3 := pu_step (b := pt (x % 256) 85) (r := pt (x / 256) (pm 85 n)) (M := pm 51 n) c1
    rw [← ex] at s1 s2
    rw [m1, m1, m1, s1, s3]
    refine ⟨s2, by omega, ?_⟩
    generalize hz : pu (pt (x % 256) 85) 51 = z at *
    generalize hy : pu (pt (x / 256) (pm 85 n)) (pm 51 n) = y at *
    have c5 := c5 ⟨y % 16, by omega⟩
    have c5 : (z + z / 16 + 16 * (y % 16)) &&& 15 = p8 (x % 256) := c5
    show ((z + 256 * y) + (z + 256 * y) / 16) &&& (15 + 256 * pm 15 n) = p8 (x % 256) + 256 * pP n (x / 256)
    rw [show (z + 256 * y) + (z + 256 * y) / 16 = (z + z / 16 + 16 * (y % 16)) + 256 * (y + y / 16) by omega, and256 (by omega) (by omega), c5, ← i3]
    rfl
theorem p8_le (b : Nat) : p8 b ≤ 8 := zcnt_le _ 8
theorem zcnt_shift (p : Nat → Bool) (a : Nat) : ∀ k, zcnt p (a + k) = zcnt p a + zcnt (fun i => p (a + i)) k := by
  intro k
  induction k with
  | zero => rfl
  | succ k ih =>
    show zcnt p (a + k + 1) = _
    rw [zcnt_succ, zcnt_succ, ih]
    split <;> rfl
theorem p8_split (x k : Nat) : zcnt (fun i => x.testBit i) (8 + k) = p8 (x % 256) + zcnt (fun i => (x / 256).testBit i) k := by
  rw [zcnt_shift]
  congr 1
  · refine zcnt_congr (fun i hi => ?_)
    rw [show (256 : Nat) = 2 ^ 8 from rfl, Nat.testBit_mod_two_pow, decide_eq_true hi, Bool.true_and]
  · refine zcnt_congr (fun i _ => ?_)
    rw [show (256 : Nat) = 2 ^ 8 from rfl, Nat.testBit_div_two_pow, Nat.add_comm]
theorem divB {X B : Nat} (L H : Nat) (h : X = L + B * H) (hl : L < B) : X / B = H := by
  rw [h, Nat.add_mul_div_left _ _ (by omega), Nat.div_eq_of_lt hl, Nat.zero_add]
theorem modB {X B : Nat} (L H : Nat) (h : X = L + B * H) (hl : L < B) : X % B = L := by
  rw [h, Nat.add_mul_mod_self_left, Nat.mod_eq_of_lt hl]
