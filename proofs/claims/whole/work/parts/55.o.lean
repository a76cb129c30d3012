theorem zmulb {x y : Int32} {A B : Nat} (hx1 : -(A : Int) ≤ x.toInt) (hx2 : x.toInt ≤ A) (hy1 : -(B : Int) ≤ y.toInt) (hy2 : y.toInt ≤ B) (hab : A * B < 2147483648) : (x * y).toInt = x.toInt * y.toInt ∧ -((A * B : Nat) : Int) ≤ x.toInt * y.toInt ∧ x.toInt * y.toInt ≤ ((A * B : Nat) : Int) := by
  have h1 : x.toInt.natAbs ≤ A := by omega
  have h2 : y.toInt.natAbs ≤ B := by omega
  have h3 := Nat.mul_le_mul h1 h2
  rw [← Int.natAbs_mul] at h3
  generalize hz : x.toInt * y.toInt = z at *
  refine ⟨?_, by omega, by omega⟩
  rw [← hz]
  refine zmul ?_ ?_ <;> rw [hz] <;> omega
theorem zneg {x : Int32} (h : -2147483648 < x.toInt) : (-x).toInt = -x.toInt := by
  have e : -x = 0 - x := by lia
  have h2 := zhi x
  rw [e, zsub] <;> rw [show (0 : Int32).toInt = 0 from rfl] <;> omega
theorem falls_nat {g a b r k : Nat} (hg : 0 < g) (ha : 0 < a) : r * (g * b) < g * a * k ↔ r * b / a + 1 ≤ k := by
  rw [show r * (g * b) = g * (r * b) from Nat.mul_left_comm r g b, Nat.mul_assoc, Nat.mul_lt_mul_left hg, Nat.mul_comm a k, ← Nat.div_lt_iff_lt_mul ha]
  exact Nat.lt_iff_add_one_le
def zfp (F a b v : Int) (k : Nat) : Prop := v * b < F * b + a * k ∨ F * b + a * k < -(v * b)
theorem m_falls58 {G : Gp} {Q : zPost} {S : zSh} {J : zFI} {L : zFL} {v1 v2 v3 : Int32} {y k0 : Nat} (hS : zStd S) (hy : J 84 86 = nI y) (hy2 : y ≤ 999) (f1 : -99 ≤ (J 84 88).toInt) (f2 : (J 84 88).toInt ≤ 99) (f3 : -99 ≤ (J 84 87).toInt) (f4 : (J 84 87).toInt ≤ 99)
    (b1 : 0 ≤ v3.toInt) (b2 : v3.toInt ≤ 999) (w1 : 0 ≤ v2.toInt) (w2 : v2.toInt ≤ 999) (h1 : ∀ k, k < k0 → ¬ zfp (J 84 88).toInt ((J 84 88).toInt - (J 84 87).toInt) v3.toInt v2.toInt k) (h2 : 10000 ≤ y + k0 ∨ zfp (J 84 88).toInt ((J 84 88).toInt - (J 84 87).toInt) v3.toInt v2.toInt k0)
    (h : Q (some (.int (if y + k0 ≤ 9999 then nI (y + k0) else -1))) S J L) : ∀ d k, k + d = k0 → y + k ≤ 10000 → ZW G mX12_falls fX12_falls lX12_falls 58 [zo G 84, .int v1, .int v2, .int v3, .int (nI (y + k)), .null] [] S J L 0 0 Q := by
  have es : (J 84 88 - J 84 87).toInt = (J 84 88).toInt - (J 84 87).toInt := zsub (by omega) (by omega)
  have key : ∀ k, y + k < 10000 → (v2 * v3 < ((J 84 88) * v3) + (((J 84 88) - (J 84 87)) * (nI (y + k) - (J 84 86))) ∨ ¬ (-v2) * v3 ≤ ((J 84 88) * v3) + (((J 84 88) - (J 84 87)) * (nI (y + k) - (J 84 86))) ↔ zfp (J 84 88).toInt ((J 84 88).toInt - (J 84 87).toInt) v3.toInt v2.toInt k) := fun k hk => by
    have ek : (nI (y + k) - J 84 86) = nI k := by rw [hy, pk_sub (by omega), Nat.add_sub_cancel_left]
    have zk := znI (n := k) (by omega)
    obtain ⟨p1, p2, p3⟩ := zmulb (x := v2) (y := v3) (A := 999) (B := 999) (by omega) (by omega) (by omega) (by omega) (by omega)
    obtain ⟨q1, q2, q3⟩ := zmulb (x := J 84 88) (y := v3) (A := 99) (B := 999) (by omega) (by omega) (by omega) (by omega) (by omega)
    obtain ⟨r1, r2, r3⟩ := zmulb (x := J 84 88 - J 84 87) (y := nI k) (A := 198) (B := 10000) (by omega) (by omega) (by omega) (by omega) (by omega)
    have nv := zneg (x := v2) (by omega)
    obtain ⟨s1, s2, s3⟩ := zmulb (x := -v2) (y := v3) (A := 999) (B := 999) (by omega) (by omega) (by omega) (by omega) (by omega)
    rw [es, zk] at r1 r2 r3
    rw [nv, Int.neg_mul] at s1 s2 s3
    rw [ek]
    unfold zfp
    generalize v2.toInt * v3.toInt = A at *
    generalize (J 84 88).toInt * v3.toInt = B at *
    generalize ((J 84 88).toInt - (J 84 87).toInt) * (k : Int) = C at *
    have e := zadd (x := J 84 88 * v3) (y := (J 84 88 - J 84 87) * nI k) (by omega) (by omega)
    rw [zlt, zle, e, p1, q1, r1, s1]
    omega
  intro d
  induction d with
  | zero =>
    intro k hk hyk
    have : k = k0 := by omega
    subst this
    refine vX12_falls_58 hS ⟨fun c => ?_, fun c => ?_⟩
    · have c := zle.mp c
      rw [znI (by omega), show (10000 : Int32).toInt = 10000 from rfl] at c
      rw [if_neg (by omega)] at h
      exact h
    · have c : ¬ 10000 ≤ y + k := fun q => c (by rw [zle, znI (by omega), show (10000 : Int32).toInt = 10000 from rfl]; omega)
      rw [if_pos (by omega)] at h
      have hp := (key k (by omega)).mpr (h2.resolve_left c)
      exact ⟨fun _ => h, fun e1 => ⟨fun e2 => absurd e2 (hp.resolve_left e1), fun _ => h⟩⟩
  | succ d ih =>
    intro k hk hyk
    refine vX12_falls_58 hS ⟨fun c => ?_, fun c => ?_⟩
    · have c := zle.mp c
      rw [znI (by omega), show (10000 : Int32).toInt = 10000 from rfl] at c
      rw [if_neg (by omega)] at h
      exact h
    · have c : ¬ 10000 ≤ y + k := fun q => c (by rw [zle, znI (by omega), show (10000 : Int32).toInt = 10000 from rfl]; omega)
      have hp := fun q => h1 k (by omega) ((key k (by omega)).mp q)
      refine ⟨fun e1 => absurd (Or.inl e1) hp, fun e1 => ⟨fun e2 => ?_, fun e2 => absurd (Or.inr e2) hp⟩⟩
      rw [nI_1]
      exact ih (k + 1) (by omega) (by omega)
/-- what falls answers, by the last far, the rate's two parts, the bound and the last year -/
theorem falls_all {F a b v : Int} {y : Nat} (hb : 0 < b) (hv : 0 ≤ v) (hb2 : b ≤ 999) (hv2 : v ≤ 999) (hF1 : -99 ≤ F) (hF2 : F ≤ 99) (ha1 : -198 ≤ a) (ha2 : a ≤ 198) (hy : y ≤ 999) (g : Nat) (hg : g = Nat.gcd a.natAbs b.toNat) :
    (v < F.natAbs → zfp F a b v 0) ∧ ((F.natAbs : Int) ≤ v → a = 0 → ∀ k, ¬ zfp F a b v k) ∧ ((F.natAbs : Int) ≤ v → 0 < a → ∀ k, zfp F a b v k ↔ (v - F).toNat * (b.toNat / g) / (a.natAbs / g) + 1 ≤ k) ∧ ((F.natAbs : Int) ≤ v → a < 0 → ∀ k, zfp F a b v k ↔ (v + F).toNat * (b.toNat / g) / (a.natAbs / g) + 1 ≤ k) := by
  have hg1 : g ∣ a.natAbs := by rw [hg]; exact Nat.gcd_dvd_left _ _
  have hg2 : g ∣ b.toNat := by rw [hg]; exact Nat.gcd_dvd_right _ _
  have hg0 : 0 < g := by rw [hg]; exact Nat.gcd_pos_of_pos_right _ (by omega)
  have e1 : g * (a.natAbs / g) = a.natAbs := Nat.mul_div_cancel' hg1
  have e2 : g * (b.toNat / g) = b.toNat := Nat.mul_div_cancel' hg2
  have hbn : (b.toNat : Int) = b := by omega
  refine ⟨fun h => ?_, fun h h0 k => ?_, fun h h0 k => ?_, fun h h0 k => ?_⟩
  · unfold zfp
    rw [show ((0 : Nat) : Int) = 0 from rfl, Int.mul_zero, Int.add_zero]
    by_cases c : 0 ≤ F
    · exact Or.inl (Int.mul_lt_mul_of_pos_right (by omega) hb)
    · refine Or.inr ?_
      rw [← Int.neg_mul]
      exact Int.mul_lt_mul_of_pos_right (by omega) hb
  · unfold zfp
    subst h0
    rw [Int.zero_mul, Int.add_zero]
    have p1 : F * b ≤ v * b := Int.mul_le_mul_of_nonneg_right (by omega) (by omega)
    have p2 : -v * b ≤ F * b := Int.mul_le_mul_of_nonneg_right (by omega) (by omega)
    rw [Int.neg_mul] at p2
    omega
  · have ha : 0 < a.natAbs / g := Nat.div_pos (Nat.le_of_dvd (by omega) hg1) hg0
    rw [← falls_nat (g := g) hg0 ha, e1, e2]
    unfold zfp
    have p2 : -v * b ≤ F * b := Int.mul_le_mul_of_nonneg_right (by omega) (by omega)
    rw [Int.neg_mul] at p2
    have p3 : 0 ≤ a * (k : Int) := Int.mul_nonneg (by omega) (by omega)
    have p4 : (((v - F).toNat * b.toNat : Nat) : Int) = v * b - F * b := by
      rw [Int.natCast_mul, hbn, show ((v - F).toNat : Int) = v - F by omega, Int.sub_mul]
    have p5 : ((a.natAbs * k : Nat) : Int) = a * k := by
      rw [Int.natCast_mul, show (a.natAbs : Int) = a by omega]
    generalize (v - F).toNat * b.toNat = X at *
    generalize a.natAbs * k = Y at *
    generalize a * (k : Int) = Z at *
    generalize v * b = U at *
    generalize F * b = W at *
    omega
  · have ha : 0 < a.natAbs / g := Nat.div_pos (Nat.le_of_dvd (by omega) hg1) hg0
    rw [← falls_nat (g := g) hg0 ha, e1, e2]
    unfold zfp
    have p2 : F * b ≤ v * b := Int.mul_le_mul_of_nonneg_right (by omega) (by omega)
    have p3 : 0 ≤ -a * (k : Int) := Int.mul_nonneg (by omega) (by omega)
    rw [Int.neg_mul] at p3
    have p4 : (((v + F).toNat * b.toNat : Nat) : Int) = v * b + F * b := by
      rw [Int.natCast_mul, hbn, show ((v + F).toNat : Int) = v + F by omega, Int.add_mul]
    have p5 : ((a.natAbs * k : Nat) : Int) = -(a * k) := by
      rw [Int.natCast_mul, show (a.natAbs : Int) = -a by omega, Int.neg_mul]
    generalize (v + F).toNat * b.toNat = X at *
    generalize a.natAbs * k = Y at *
    generalize a * (k : Int) = Z at *
    generalize v * b = U at *
    generalize F * b = W at *
    omega
theorem zdivs {a : Int32} {g : Nat} (hg : 0 < g) (hg2 : g < 2147483648) (hd : g ∣ a.toInt.natAbs) : (a / nI g).toInt.natAbs = a.toInt.natAbs / g ∧ (0 < a.toInt → 0 < (a / nI g).toInt) ∧ (a.toInt < 0 → (a / nI g).toInt < 0) ∧ (a.toInt = 0 → (a / nI g).toInt = 0) := by
  have e : (a / nI g).toInt = a.toInt.tdiv g := by
    rw [Int32.toInt_div_of_ne_right _ _ (fun q => by
      have := congrArg Int32.toInt q
      rw [znI hg2, show (-1 : Int32).toInt = -1 from rfl] at this
      omega), znI hg2]
  have n : (a / nI g).toInt.natAbs = a.toInt.natAbs / g := by
    rw [e, Int.natAbs_tdiv]
    rfl
  have z : a.toInt ≠ 0 → 0 < a.toInt.natAbs / g := fun q => Nat.div_pos (Nat.le_of_dvd (by omega) hd) hg
  refine ⟨n, fun h => ?_, fun h => ?_, fun h => ?_⟩
  · have := Int.tdiv_nonneg (a := a.toInt) (b := (g : Int)) (by omega) (by omega)
    rw [← e] at this
    have := z (by omega)
    omega
  · have := Int.tdiv_nonneg (a := -a.toInt) (b := (g : Int)) (by omega) (by omega)
    rw [Int.neg_tdiv, ← e] at this
    have := z (by omega)
    omega
  · rw [e, h, Int.zero_tdiv]
/-- what falls answers -/
def zfall (F a b v : Int) (y g : Nat) : Int32 :=
  if v < F.natAbs then nI y else if a = 0 then -1 else if y + ((if 0 < a then (v - F).toNat else (v + F).toNat) * (b.toNat / g) / (a.natAbs / g) + 1) ≤ 9999 then nI (y + ((if 0 < a then (v - F).toNat else (v + F).toNat) * (b.toNat / g) / (a.natAbs / g) + 1)) else -1
theorem c_fallYear {G : Gp} {Q : zPost} {S : zSh} {J : zFI} {L : zFL} {v1 a b : Int32} {l y g : Nat} (hS : zStd S) (h5 : 2 ≤ J 77 5) (h7 : J 77 7 = nI l) (hl : l < 60) (h8 : J 77 8 = a / nI g) (h9 : J 77 9 = b / nI g) (hy : J 79 l = nI y) (hy2 : y ≤ 999) (hF1 : -99 ≤ (J 80 l).toInt) (hF2 : (J 80 l).toInt ≤ 99)
    (ha1 : -198 ≤ a.toInt) (ha2 : a.toInt ≤ 198) (hb : 0 < b.toInt) (hb2 : b.toInt ≤ 999) (hg : g = Nat.gcd a.toInt.natAbs b.toInt.toNat) (w1 : 0 ≤ v1.toInt) (w2 : v1.toInt ≤ 999)
    (h : Q (some (.int (zfall (J 80 l).toInt a.toInt b.toInt v1.toInt y g))) S J L) : ZC G mX5_fallYear fX5_fallYear lX5_fallYear [zo G 77, .int v1] S J L 0 0 Q := by
  have hg1 : g ∣ a.toInt.natAbs := by rw [hg]; exact Nat.gcd_dvd_left _ _
  have hg2 : g ∣ b.toInt.natAbs := by
    have := Nat.gcd_dvd_right a.toInt.natAbs b.toInt.toNat
    rw [← hg, show b.toInt.toNat = b.toInt.natAbs by omega] at this
    exact this
  have hg0 : 0 < g := by rw [hg]; exact Nat.gcd_pos_of_pos_right _ (by omega)
  have hgle : g ≤ b.toInt.natAbs := Nat.le_of_dvd (by omega) hg2
  obtain ⟨a5, a6, a7, a8⟩ := zdivs (a := a) hg0 (by omega) hg1
  obtain ⟨b5, b6, b7, b8⟩ := zdivs (a := b) hg0 (by omega) hg2
  rw [← h8] at a5 a6 a7 a8
  rw [← h9] at b5 b6 b7 b8
  have hb9 := b6 hb
  have hbb : b.toInt.natAbs / g ≤ 999 := Nat.le_trans (Nat.div_le_self _ _) (by omega)
  have haa : a.toInt.natAbs / g ≤ 198 := Nat.le_trans (Nat.div_le_self _ _) (by omega)
  have eb : J 77 9 = nI (b.toInt.toNat / g) := by rw [zeq, znI (by rw [show b.toInt.toNat = b.toInt.natAbs by omega]; omega), show b.toInt.toNat = b.toInt.natAbs by omega]; omega
  have hl7 : (J 77 7).toNatClampNeg = l := by rw [h7, znIc (by omega)]
  have fa := zabs_nI (a := J 80 l) (by omega)
  have aa := zabs_nI (a := J 77 8) (by omega)
  have calc1 : ∀ r : Nat, r ≤ 1098 → J 77 8 ≠ 0 → ((nI y + (nI r * J 77 9) / nI (J 77 8).toInt.natAbs) + 1) = nI (y + (r * (b.toInt.toNat / g) / (a.toInt.natAbs / g) + 1)) ∧ (9999 < ((nI y + (nI r * J 77 9) / nI (J 77 8).toInt.natAbs) + 1) ↔ ¬ y + (r * (b.toInt.toNat / g) / (a.toInt.natAbs / g) + 1) ≤ 9999) := fun r hr h0 => by
    have hz : 0 < a.toInt.natAbs / g := by
      rw [← a5]
      rcases Nat.eq_zero_or_pos (J 77 8).toInt.natAbs with q | q
      · exfalso
        refine h0 ?_
        rw [zeq, show (0 : Int32).toInt = 0 from rfl]
        omega
      · exact q
    have hb10 : b.toInt.toNat / g ≤ 999 := by rw [show b.toInt.toNat = b.toInt.natAbs by omega]; exact hbb
    have hm : r * (b.toInt.toNat / g) ≤ 1098 * 999 := Nat.mul_le_mul hr hb10
    have hd : r * (b.toInt.toNat / g) / (a.toInt.natAbs / g) ≤ r * (b.toInt.toNat / g) := Nat.div_le_self _ _
    have e : ((nI y + (nI r * J 77 9) / nI (J 77 8).toInt.natAbs) + 1) = nI (y + (r * (b.toInt.toNat / g) / (a.toInt.natAbs / g) + 1)) := by
      rw [eb, a5, pk_mul, pk_div (by omega) hz (by omega), nI_add, nI_1]
      rfl
    refine ⟨e, ?_⟩
    rw [e, zlt, znI (by omega), show (9999 : Int32).toInt = 9999 from rfl]
    omega
  refine ZC.of' (vX5_fallYear_0 hS ⟨fun q => absurd h5 (Int32.not_le.mpr q), fun _ => ⟨fun q => ?_, fun _ => ⟨fun _ => ⟨?_, fun c => ⟨fun d => ⟨fun e => ⟨?_, ?_⟩, fun e => ⟨?_, ?_⟩⟩, fun d => ?_⟩, fun c => ?_⟩, fun q => ?_⟩⟩⟩) rfl (Nat.le_of_ble_eq_true rfl) rfl
  · rw [h7] at q
    exact absurd q (nI_pos (by omega))
  · rw [h7]
    exact znIin hl (by decide)
  · rw [aa]
    refine nI_ne0 ?_ (by omega)
    have d : ¬ (J 77 8).toInt = 0 := fun q => d (zeq.mpr (by rw [q]; rfl))
    omega
  · rw [hl7, fa] at c
    rw [hl7, aa, hy]
    have c := zle.mp c
    rw [znI (by omega)] at c
    have d2 : ¬ (J 77 8).toInt = 0 := fun q => d (zeq.mpr (by rw [q]; rfl))
    have e2 := zle.mp e
    rw [show (0 : Int32).toInt = 0 from rfl] at e2
    have an : a.toInt < 0 := by omega
    have er : (v1 + J 80 l) = nI (v1.toInt + (J 80 l).toInt).toNat := by
      rw [zeq, zadd (by omega) (by omega), znI (by omega)]
      omega
    rw [er]
    obtain ⟨k1, k2⟩ := calc1 (v1.toInt + (J 80 l).toInt).toNat (by omega) d
    unfold zfall at h
    rw [if_neg (by omega), if_neg (by omega), if_neg (show ¬ 0 < a.toInt by omega)] at h
    refine ⟨fun q => ?_, fun q => ?_⟩
    · rw [if_neg (k2.mp q)] at h
      exact h
    · rw [if_pos (Classical.not_not.mp (fun w => q (k2.mpr w)))] at h
      rw [k1]
      exact h
  · rw [aa]
    refine nI_ne0 ?_ (by omega)
    have d : ¬ (J 77 8).toInt = 0 := fun q => d (zeq.mpr (by rw [q]; rfl))
    omega
  · rw [hl7, fa] at c
    rw [hl7, aa, hy]
    have c := zle.mp c
    rw [znI (by omega)] at c
    have d2 : ¬ (J 77 8).toInt = 0 := fun q => d (zeq.mpr (by rw [q]; rfl))
    have e2 : ¬ (J 77 8).toInt ≤ 0 := fun q => e (zle.mpr q)
    have an : 0 < a.toInt := by omega
    have er : (v1 - J 80 l) = nI (v1.toInt - (J 80 l).toInt).toNat := by
      rw [zeq, zsub (by omega) (by omega), znI (by omega)]
      omega
    rw [er]
    obtain ⟨k1, k2⟩ := calc1 (v1.toInt - (J 80 l).toInt).toNat (by omega) d
    unfold zfall at h
    rw [if_neg (by omega), if_neg (by omega), if_pos (show 0 < a.toInt by omega)] at h
    refine ⟨fun q => ?_, fun q => ?_⟩
    · rw [if_neg (k2.mp q)] at h
      exact h
    · rw [if_pos (Classical.not_not.mp (fun w => q (k2.mpr w)))] at h
      rw [k1]
      exact h
  · rw [hl7, fa] at c
    have c := zle.mp c
    rw [znI (by omega)] at c
    have d2 : (J 77 8).toInt = 0 := by rw [d]; rfl
    unfold zfall at h
    rw [if_neg (by omega), if_pos (by omega)] at h
    exact h
  · rw [hl7, fa] at c
    have c : ¬ ((J 80 l).toInt.natAbs : Int) ≤ v1.toInt := fun q => c (by rw [zle, znI (by omega)]; exact q)
    unfold zfall at h
    rw [if_pos (by omega)] at h
    rw [hl7, hy]
    exact h
  · rw [h7] at q
    exact absurd (show nI l < 60 from nI_lt (b := 60) hl (by omega)) q
theorem op_falls {G : Gp} {S : zSh} {I : zFI} {L : zFL} {n jn mn tl ln on : Nat} {v1 v2 : Int32} (h : iAll S I n jn mn tl ln on) : zOpI G mX11_falls fX11_falls lX11_falls mX12_falls fX12_falls lX12_falls [.int v1, .int v2] S I L 0 0 (fun S' I' L' => S' = S ∧ iAll S I' n jn mn tl ln on ∧ zSameJ I L I' L' jn ∧ I' 0 16 = I 0 16) := by
  have hA := h
  have hT := hA.told (L := L) 0
  obtain ⟨hS, hNow, hTim, hJnt, hMrk, hShn, hTap, hFlt, hCus, hRng, hLea, hOut, hWrd⟩ := h
  obtain ⟨t1, t2, t3, t4, t5⟩ := id hTim
  obtain ⟨l1, l2, l3, l4⟩ := id hLea
  have sl := zsn_le I n
  have hv : ¬ v1 < 0 → ¬ (u2 I 84 0 0) 84 3 ≤ v1 → vp_in v1 16 := fun a b => by
    have b : ¬ I 84 3 ≤ v1 := b
    refine zvin (m := 16) rfl (Int32.not_lt.mp a) ?_
    rw [t3, Int32.not_le, zlt, znI (by omega)] at b
    rw [zlt, show (16 : Int32).toInt = 16 from rfl]
    omega
  have out : ¬ (0 ≤ v2 ∧ v2 ≤ 999) → ZC G mX12_falls fX12_falls lX12_falls [zo G 84, .int v1, .int v2] S I L 0 0 (fun v' S'' I'' L'' => v' = some (.int (-1)) ∧ (fun S' I' L' => S' = S ∧ iAll S I' n jn mn tl ln on ∧ zSameJ I L I' L' jn ∧ I' 0 16 = I 0 16) S'' I'' L'') := fun q => by
    have c0 := (isIn_0 v2 0 999).mpr q
    refine ZC.of' (vX12_falls_0 hS ⟨hv, fun _ => ⟨rfl, rfl, hT⟩, fun _ => ⟨fun w => absurd c0 w, fun _ => ⟨rfl, rfl, hT⟩⟩⟩) rfl (Nat.le_of_ble_eq_true rfl) rfl
  refine ZC.of' (vX11_falls_0 hS (c_isTimber hS hTim (fun t u1 u2' => ⟨_, rfl, rfl, fun q => absurd q (by decide), fun _ => ⟨fun c1 => ?_, fun c1 => ⟨fun c2 => ?_, fun c2 => ?_⟩⟩⟩) (fun c0 => ⟨_, rfl, rfl, fun _ => ?_, fun q => absurd rfl q⟩))) rfl (Nat.le_of_ble_eq_true rfl) rfl
  · exact ⟨_, rfl, out (fun q => Int32.not_le.mpr c1 q.1)⟩
  · subst u2'
    refine c_measure hS l1 l2 (lea_y hLea) (fun I1 h1 h2 h5 h6 h7 h8 => ⟨rfl, rfl, ?_⟩)
    have w := hA.w77 (L := L) h1 h2
    have w2 := w.1.told (L := L) 0
    have c0 : ¬ p_X12_isTimber (u2 I1 84 0 0) (nI t) = 0 := fun q => by
      have m := (mTim_0 w2.1.2.1 w2.1.2.2.1).mp q
      refine m ⟨nI_pos' (by omega), ?_⟩
      have e : zsn (u2 I1 84 0 0) n = zsn I n := by
        unfold zsn p_X11_lastDaySeen
        rw [show (u2 I1 84 0 0) 13 = I 13 from h1 13 (by decide), show (u2 I1 84 0 0) 0 = I 0 from h1 0 (by decide)]
      rw [e]
      exact nI_lt u1 (by omega)
    have cin : ¬ p_X12_isIn v2 0 999 = 0 := fun q => (isIn_0 _ _ _).mp q ⟨Int32.not_lt.mp c1, c2⟩
    have v0 := zle.mp (Int32.not_lt.mp c1)
    have v9 := zle.mp c2
    rw [show (0 : Int32).toInt = 0 from rfl] at v0
    rw [show (999 : Int32).toInt = 999 from rfl] at v9
    have model : ∀ x : Int32, (∀ I2 : zFI, iAll S I2 n jn mn tl ln on ∧ zSameJ I L I2 L jn ∧ I2 0 16 = I 0 16 → I2 84 84 = nI (zcnt (zgd I (nI t) (p_X11_lastDaySeen I) ln) ln) →
      (zcnt (zgd I (nI t) (p_X11_lastDaySeen I) ln) ln ≠ 0 → I2 84 85 = I 79 (zlf I (zgd I (nI t) (p_X11_lastDaySeen I) ln) ln) ∧ I2 84 86 = I 79 (zll I (zgd I (nI t) (p_X11_lastDaySeen I) ln) ln) ∧ I2 84 87 = I 80 (zlf I (zgd I (nI t) (p_X11_lastDaySeen I) ln) ln) ∧ I2 84 88 = I 80 (zll I (zgd I (nI t) (p_X11_lastDaySeen I) ln) ln)) →
      (2 ≤ I2 84 84 → ZW G mX12_falls fX12_falls lX12_falls 58 [zo G 84, .int (nI t), .int v2, .int (I2 84 86 - I2 84 85), .int (I2 84 86), .null] [] S I2 L 0 0 (fun v' S'' I'' L'' => v' = some (.int x) ∧ (fun S' I' L' => S' = S ∧ iAll S I' n jn mn tl ln on ∧ zSameJ I L I' L' jn ∧ I' 0 16 = I 0 16) S'' I'' L'')) ∧ (¬ 2 ≤ I2 84 84 → x = -1)) → ZC G mX12_falls fX12_falls lX12_falls [zo G 84, .int (nI t), .int v2] S I1 L 0 0 (fun v' S'' I'' L'' => v' = some (.int x) ∧ (fun S' I' L' => S' = S ∧ iAll S I' n jn mn tl ln on ∧ zSameJ I L I' L' jn ∧ I' 0 16 = I 0 16) S'' I'' L'') := fun x hx => by
      refine ZC.of' (vX12_falls_0 hS ⟨fun _ _ => znIin (by omega) (by decide), fun q => absurd q c0, fun _ => ⟨fun _ => m_leansAt hA h1 h2 (fun I2 T g1 g2 => ⟨rfl, rfl, ?_⟩), fun q => absurd q cin⟩⟩) rfl (Nat.le_of_ble_eq_true rfl) rfl
      obtain ⟨y1, y2⟩ := hx I2 T g1 g2
      refine ⟨y1, fun q => ⟨by rw [y2 q], rfl, T⟩⟩
    generalize hg : zgd I (nI t) (p_X11_lastDaySeen I) ln = g at *
    have cl := zcnt_le g ln
    by_cases hc2 : 2 ≤ zcnt g ln
    · have hr := lea_r (t := nI t) (d := p_X11_lastDaySeen I) hLea
      rw [hg] at hr
      obtain ⟨f, l, rf, rl, fl, ll, x1, x2, x3, x4, x5, x6, x7, x8, x9, x10, x11, x12, x13⟩ := hr (by omega)
      clear hr
      have e7 := h7 (by omega)
      obtain ⟨e8, e9⟩ := h8 hc2 _ _ rfl rfl
      rw [rf, rl] at e8 e9
      rw [rl] at e7
      have e79 : I1 79 = I 79 := h1 79 (by decide)
      have e80 : I1 80 = I 80 := h1 80 (by decide)
      have y0 := x7 hc2
      have ey : I 79 l = nI (I 79 l).toInt.toNat := znat (by rw [zle, show (0 : Int32).toInt = 0 from rfl]; omega)
      refine c_fallYear hS (y := (I 79 l).toInt.toNat) (by rw [h5]; exact nI_le (a := 2) hc2 (by omega)) e7 (by omega) e8 e9 (by rw [e79]; exact ey) (by omega) (by rw [e80]; omega) (by rw [e80]; omega) x3 x4 y0 x6 rfl v0 v9 ⟨_, rfl, rfl, _, rfl, ?_⟩
      rw [e80]
      refine model _ (fun I2 T g1 g2 => ⟨fun _ => ?_, fun q => absurd (by rw [g1]; exact nI_le (a := 2) hc2 (by omega)) q⟩)
      obtain ⟨g5, g6, g7, g8⟩ := g2 (by omega)
      rw [rf] at g5 g7
      rw [rl] at g6 g8
      have yy := g6.trans ey
      obtain ⟨z1, z2, z3, z4⟩ := falls_all (F := (I 80 l).toInt) (a := (I 80 l - I 80 f).toInt) (b := (I 79 l - I 79 f).toInt) (v := v2.toInt) (y := (I 79 l).toInt.toNat) y0 v0 x6 v9 (by omega) (by omega) x3 x4 (by omega) _ rfl
      have go : ∀ k0, (∀ k, k < k0 → ¬ zfp (I 80 l).toInt (I 80 l - I 80 f).toInt (I 79 l - I 79 f).toInt v2.toInt k) → (10000 ≤ (I 79 l).toInt.toNat + k0 ∨ zfp (I 80 l).toInt (I 80 l - I 80 f).toInt (I 79 l - I 79 f).toInt v2.toInt k0) → (if (I 79 l).toInt.toNat + k0 ≤ 9999 then nI ((I 79 l).toInt.toNat + k0) else -1) = zfall (I 80 l).toInt (I 80 l - I 80 f).toInt (I 79 l - I 79 f).toInt v2.toInt (I 79 l).toInt.toNat (Nat.gcd (I 80 l - I 80 f).toInt.natAbs (I 79 l - I 79 f).toInt.toNat) → ZW G mX12_falls fX12_falls lX12_falls 58 [zo G 84, .int (nI t), .int v2, .int (I2 84 86 - I2 84 85), .int (I2 84 86), .null] [] S I2 L 0 0 (fun v' S'' I'' L'' => v' = some (.int (zfall (I 80 l).toInt (I 80 l - I 80 f).toInt (I 79 l - I 79 f).toInt v2.toInt (I 79 l).toInt.toNat (Nat.gcd (I 80 l - I 80 f).toInt.natAbs (I 79 l - I 79 f).toInt.toNat))) ∧ (fun S' I' L' => S' = S ∧ iAll S I' n jn mn tl ln on ∧ zSameJ I L I' L' jn ∧ I' 0 16 = I 0 16) S'' I'' L'') := fun k0 p1 p2 p3 => by
        have hb3 : I2 84 86 - I2 84 85 = I 79 l - I 79 f := by rw [g5, g6]
        have m := m_falls58 (G := G) (L := L) (Q := (fun v' S'' I'' L'' => v' = some (.int (zfall (I 80 l).toInt (I 80 l - I 80 f).toInt (I 79 l - I 79 f).toInt v2.toInt (I 79 l).toInt.toNat (Nat.gcd (I 80 l - I 80 f).toInt.natAbs (I 79 l - I 79 f).toInt.toNat))) ∧ (fun S' I' L' => S' = S ∧ iAll S I' n jn mn tl ln on ∧ zSameJ I L I' L' jn ∧ I' 0 16 = I 0 16) S'' I'' L'')) (v1 := nI t) (v2 := v2) (v3 := I2 84 86 - I2 84 85) (k0 := k0) hS yy (by omega) (by rw [g8]; omega) (by rw [g8]; omega) (by rw [g7]; omega) (by rw [g7]; omega) (by rw [hb3]; omega) (by rw [hb3]; omega) v0 v9 (by rw [g7, g8, hb3, ← x1]; exact p1) (by rw [g7, g8, hb3, ← x1]; exact p2) (by rw [p3]; exact ⟨rfl, rfl, T⟩) k0 0 (by omega) (by omega)
        rw [Nat.add_zero, ← yy] at m
        exact m
      by_cases c3 : v2.toInt < (I 80 l).toInt.natAbs
      · refine go 0 (fun k hk => absurd hk (Nat.not_lt_zero _)) (Or.inr (z1 c3)) ?_
        unfold zfall
        rw [if_pos c3, if_pos (by omega), Nat.add_zero]
      · rcases Int.lt_trichotomy (I 80 l - I 80 f).toInt 0 with c4 | c4 | c4
        · have z4 := z4 (by omega) c4
          refine go _ (fun k hk q => absurd ((z4 k).mp q) (Nat.not_le.mpr hk)) (Or.inr ((z4 _).mpr (Nat.le_refl _))) ?_
          unfold zfall
          rw [if_neg c3, if_neg (show ¬ (I 80 l - I 80 f).toInt = 0 by omega), if_neg (show ¬ 0 < (I 80 l - I 80 f).toInt by omega)]
        · have z2 := z2 (by omega) c4
          refine go 10000 (fun k _ => z2 k) (Or.inl (by omega)) ?_
          unfold zfall
          rw [if_neg c3, if_pos c4, if_neg (by omega)]
        · have z3 := z3 (by omega) c4
          refine go _ (fun k hk q => absurd ((z3 k).mp q) (Nat.not_le.mpr hk)) (Or.inr ((z3 _).mpr (Nat.le_refl _))) ?_
          unfold zfall
          rw [if_neg c3, if_neg (show ¬ (I 80 l - I 80 f).toInt = 0 by omega), if_pos c4]
    · have lt2 : I1 77 5 < 2 := by rw [h5]; exact nI_lt (b := 2) (by omega) (by omega)
      refine ZC.of' (vX5_fallYear_0 hS ⟨fun _ => ⟨_, rfl, rfl, _, rfl, model _ (fun I2 T g1 g2 => ⟨fun q => ?_, fun _ => rfl⟩)⟩, fun q => absurd lt2 q⟩) rfl (Nat.le_of_ble_eq_true rfl) rfl
      rw [g1] at q
      exact absurd q (nI_ge (b := 2) (by omega) (by omega))
  · exact ⟨_, rfl, out (fun q => c2 q.2)⟩
  · exact ⟨_, rfl, ZC.of' (vX12_falls_0 hS ⟨hv, fun _ => ⟨rfl, rfl, hT⟩, fun q => absurd ((mTim_0 hT.1.2.1 hT.1.2.2.1).mpr c0) q⟩) rfl (Nat.le_of_ble_eq_true rfl) rfl⟩
