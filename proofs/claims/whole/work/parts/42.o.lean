theorem zbit (x : Int32) : x &&& 1 = 0 ∨ x &&& 1 = 1 := by
  have h : (x &&& 1).toBitVec.toNat = x.toBitVec.toNat % 2 := by
    show (x.toBitVec &&& 1#32).toNat = _
    rw [BitVec.toNat_and]
    exact Nat.and_one_is_mod _
  rcases Nat.mod_two_eq_zero_or_one x.toBitVec.toNat with q | q
  · left
    apply Int32.toBitVec_inj.mp
    apply BitVec.eq_of_toNat_eq
    rw [h, q]
    rfl
  · right
    apply Int32.toBitVec_inj.mp
    apply BitVec.eq_of_toNat_eq
    rw [h, q]
    rfl
theorem iBit01 (x : Int32) (k : Nat) : iBit x k = 0 ∨ iBit x k = 1 := zbit _
theorem isCu_0 {v : Int32} : p_X11_isCustom v = 0 ↔ ¬ (v = 0 ∨ v = 1) := by
  unfold p_X11_isCustom
  split
  · rename_i h
    exact ⟨fun q => absurd q (by decide), fun q => absurd (Or.inl h) q⟩
  · split
    · rename_i h
      exact ⟨fun q => absurd q (by decide), fun q => absurd (Or.inr h) q⟩
    · rename_i h1 h2
      exact ⟨fun _ q => q.elim h1 h2, fun _ => rfl⟩
theorem isIn_01 {v : Int32} : p_X12_isIn v 0 1 = 0 ↔ ¬ (v = 0 ∨ v = 1) := by
  rw [isIn_0]
  constructor
  · intro h q
    rcases q with rfl | rfl
    · exact h (by decide)
    · exact h (by decide)
  · intro h q
    exact h (by lia)
theorem zdm4 (b : Int32) (hb : b = 10 ∨ b = 30) : ∀ k : Fin 16, (b + nI k.1 - b) / 4 = nI (k.1 / 4) ∧ (b + nI k.1 - b) - (b + nI k.1 - b) / 4 * 4 = nI (k.1 % 4) := by
  rcases hb with rfl | rfl <;> decide +kernel
theorem cu_small {I : zFI} {r c k : Nat} (h : iCu1 I r c) (hk : k < 9) : p_X1_value I r (nI k) = I 105 (50 * c + k) := by
  obtain ⟨h1, -, -, hb, -⟩ := h
  rw [h1 k hk]
  rcases (by omega : k = 0 ∨ k = 1 ∨ k = 2 ∨ k = 3 ∨ k = 4 ∨ k = 5 ∨ k = 6 ∨ k = 7 ∨ k = 8) with rfl | rfl | rfl | rfl | rfl | rfl | rfl | rfl | rfl
  · rfl
  · show (if I r 1 = 0 then (0 : Int32) else 1) = I r 1
    rcases hb with e | e <;> rw [e] <;> rfl
  all_goals rfl
theorem cu_kind {I : zFI} {r : Nat} {v : Int32} (h : ¬ (0 ≤ v ∧ v ≤ 8)) : p_X1_value I r v = p_X1_kindValue I r v := by
  unfold p_X1_value
  rw [if_neg (by lia), if_neg (by lia), if_neg (by lia), if_neg (by lia), if_neg (by lia), if_neg (by lia), if_neg (by lia), if_neg (by lia), if_neg (by lia)]
theorem cu_into {I : zFI} {r c k : Nat} (h : iCu1 I r c) (hk : k < 16) : p_X1_kindValue I r (10 + nI k) = I 105 (50 * c + 10 + k) := by
  obtain ⟨-, -, -, -, -, -, -, -, -, -, -, -, -, -, -, -, -, -, h1, -⟩ := h
  rw [h1 k hk]
  have hz := znI (n := k) (by omega)
  have e10 : (10 + nI k : Int32).toInt = 10 + k := by rw [zadd] <;> rw [hz, show (10 : Int32).toInt = 10 from rfl] <;> omega
  obtain ⟨d1, d2⟩ := zdm4 10 (Or.inl rfl) ⟨k, hk⟩
  have d1 : (10 + nI k - 10) / 4 = nI (k / 4) := d1
  unfold p_X1_kindValue
  rw [if_neg (by rw [zlt, e10, show (10 : Int32).toInt = 10 from rfl]; omega), if_neg (by rw [zle, e10, show (26 : Int32).toInt = 26 from rfl]; omega), d1]
  have d2 : 10 + nI k - 10 - nI (k / 4) * 4 = nI (k % 4) := by rw [← d1]; exact d2
  rw [d2]
  unfold p_X1_goesInto
  rw [show (4 : Int32) = nI 4 from rfl, pk_mul, nI_add, show 4 * (k / 4) + k % 4 = k by omega]
  show (if (if iBit (I r 9) k = 1 then (1 : Int32) else 0) = 0 then (0 : Int32) else 1) = iBit (I r 9) k
  rcases iBit01 (I r 9) k with e | e <;> rw [e] <;> rfl
theorem cu_none {I : zFI} {r : Nat} {v : Int32} (h1 : ¬ (10 ≤ v ∧ v ≤ 25)) (h2 : ¬ (30 ≤ v ∧ v ≤ 45)) : p_X1_kindValue I r v = -1 := by
  unfold p_X1_kindValue
  by_cases a : v < 10
  · rw [if_pos a, if_pos (by lia)]
  · rw [if_neg a, if_pos (by lia)]
    by_cases b : v < 30
    · rw [if_pos b]
    · rw [if_neg b, if_pos (by lia)]
theorem cu_ahead {I : zFI} {r k : Nat} (hk : k < 16) : p_X1_kindValue I r (30 + nI k) = if p_X1_isAhead I r (nI (k / 4)) (nI (k % 4)) = 0 then 0 else 1 := by
  have hz := znI (n := k) (by omega)
  have e10 : (30 + nI k : Int32).toInt = 30 + k := by rw [zadd] <;> rw [hz, show (30 : Int32).toInt = 30 from rfl] <;> omega
  obtain ⟨d1, d2⟩ := zdm4 30 (Or.inr rfl) ⟨k, hk⟩
  have d1 : (30 + nI k - 30) / 4 = nI (k / 4) := d1
  have d2 : 30 + nI k - 30 - nI (k / 4) * 4 = nI (k % 4) := by rw [← d1]; exact d2
  unfold p_X1_kindValue
  rw [if_neg (by rw [zlt, e10, show (10 : Int32).toInt = 10 from rfl]; omega), if_pos (by rw [zle, e10, show (26 : Int32).toInt = 26 from rfl]; omega), if_neg (by rw [zlt, e10, show (30 : Int32).toInt = 30 from rfl]; omega), if_neg (by rw [zle, e10, show (46 : Int32).toInt = 46 from rfl]; omega), d1, d2]
theorem zix {c k d : Nat} : (50 * nI c + nI d : Int32) + nI k = nI (50 * c + d + k) := by
  rw [show (50 : Int32) = nI 50 from rfl, pk_mul, nI_add, nI_add]
theorem ah_eq {I J : zFI} {r c i j : Nat} (h : iCu1 I r c) (hi : i < 4) (hj : j < 4) (hc : c ≤ 1) (hJ : J 105 = I 105) : p_X12_isAhead J (nI c) (nI i) (nI j) = p_X1_isAhead I r (nI i) (nI j) := by
  obtain ⟨-, -, -, -, -, -, -, -, -, -, -, -, -, -, -, -, -, -, -, h1⟩ := h
  unfold p_X12_isAhead p_X1_isAhead
  rw [hJ, show (50 : Int32) = nI 50 from rfl, show (30 : Int32) = nI 30 from rfl, show (4 : Int32) = nI 4 from rfl]
  simp only [pk_mul, nI_add]
  rw [znIc (by omega), znIc (by omega), show 50 * c + 30 + 4 * i + j = 50 * c + 30 + (4 * i + j) by omega, show 50 * c + 30 + 4 * j + i = 50 * c + 30 + (4 * j + i) by omega, h1 _ (by omega), h1 _ (by omega)]
  rfl
theorem op_customs {G : Gp} {S : zSh} {I : zFI} {L : zFL} {n jn mn tl ln on : Nat} {v1 v2 : Int32} (h : iAll S I n jn mn tl ln on) : zOpI G mX11_customs fX11_customs lX11_customs mX12_customs fX12_customs lX12_customs [.int v1, .int v2] S I L 0 0 (fun S' I' L' => S' = S ∧ iAll S I' n jn mn tl ln on ∧ zSameJ I L I' L' jn ∧ I' 0 16 = I 0 16) := by
  have hT := h.told (L := L) 0
  obtain ⟨hS, hNow, hTim, hJnt, hMrk, hShn, hTap, hFlt, hCus, hRng, hLea, hOut, hWrd⟩ := h
  refine ZC.of' (vX11_customs_0 hS ⟨fun c0 => ?_, fun c0 => ?_⟩) rfl (Nat.le_of_ble_eq_true rfl) rfl
  · rw [isCu_0] at c0
    exact ⟨_, rfl, ZC.of' (vX12_customs_0 hS ⟨fun q => absurd (isIn_01.mpr c0) q, fun _ => ⟨rfl, rfl, hT⟩⟩) rfl (Nat.le_of_ble_eq_true rfl) rfl⟩
  · rw [isCu_0, Classical.not_not] at c0
    refine ⟨c0, _, rfl, ?_⟩
    have c0' : ¬ p_X12_isIn v1 0 1 = 0 := fun q => isIn_01.mp q c0
    obtain ⟨c, hc, hv, hcu⟩ : ∃ c : Nat, c ≤ 1 ∧ v1 = nI c ∧ iCu1 I (zrl S v1) c := by
      rcases c0 with rfl | rfl
      · exact ⟨0, by omega, rfl, hCus.1⟩
      · exact ⟨1, by omega, rfl, hCus.2⟩
    have hcu' := hcu
    generalize zrl S v1 = r at hcu hcu'
    subst hv
    refine ZC.of' (vX12_customs_0 hS ⟨fun _ => ⟨fun c1 => ?_, fun c1 => ⟨fun c2 => ⟨fun c3 => ?_, fun c3 => ?_⟩, fun c2 => ?_⟩⟩, fun q => absurd q c0'⟩) rfl (Nat.le_of_ble_eq_true rfl) rfl
    · rw [isIn_0, Classical.not_not] at c1
      obtain ⟨k, k1, k2, k3⟩ := zi_le (n := 8) c1.1 c1.2 (by decide)
      subst k2
      have e : (50 : Int32) * nI c + nI k = nI (50 * c + k) := by rw [show (50 : Int32) = nI 50 from rfl, pk_mul, nI_add]
      rw [e, znIc (by omega), cu_small hcu (by omega)]
      exact ⟨znIin (by omega) (by decide), rfl, rfl, hT⟩
    · rw [isIn_0] at c1 c2 c3
      rw [cu_kind c1, cu_none c2 c3]
      exact ⟨rfl, rfl, hT⟩
    · rw [isIn_0] at c1 c2
      rw [isIn_0, Classical.not_not] at c3
      obtain ⟨k, hk, rfl⟩ : ∃ k : Nat, k < 16 ∧ v2 = 30 + nI k := by
        obtain ⟨k, k1, k2, k3⟩ := zi_le (v := v2 - 30) (n := 15) (by lia) (by have := c3.2; show v2 - 30 ≤ 15; lia) (by decide)
        exact ⟨k, by omega, by rw [← k2]; lia⟩
      obtain ⟨d1, d2⟩ := zdm4 30 (Or.inr rfl) ⟨k, hk⟩
      have d1 : (30 + nI k - 30) / 4 = nI (k / 4) := d1
      have d2 : 30 + nI k - 30 - nI (k / 4) * 4 = nI (k % 4) := by rw [← d1]; exact d2
      have ah : p_X12_isAhead (u2 I 84 0 0) (nI c) (nI (k / 4)) (nI (k % 4)) = p_X1_isAhead I r (nI (k / 4)) (nI (k % 4)) := ah_eq hcu (by omega) (by omega) hc rfl
      rw [d1, d2, ah, cu_kind c1, cu_ahead hk]
      have e1 : ∀ i j : Nat, (50 : Int32) * nI c + 30 + 4 * nI i + nI j = nI (50 * c + 30 + 4 * i + j) := fun i j => by
        rw [show (50 : Int32) = nI 50 from rfl, show (30 : Int32) = nI 30 from rfl, show (4 : Int32) = nI 4 from rfl]
        simp only [pk_mul, nI_add]
      rw [e1, e1]
      refine ⟨znIin (by omega) (by decide), fun _ => znIin (by omega) (by decide), fun q => ?_, fun q => ?_⟩
      · rw [if_pos q]
        exact ⟨rfl, rfl, hT⟩
      · rw [if_neg q]
        exact ⟨rfl, rfl, hT⟩
    · rw [isIn_0] at c1
      rw [isIn_0, Classical.not_not] at c2
      obtain ⟨k, hk, rfl⟩ : ∃ k : Nat, k < 16 ∧ v2 = 10 + nI k := by
        obtain ⟨k, k1, k2, k3⟩ := zi_le (v := v2 - 10) (n := 15) (by lia) (by have := c2.2; show v2 - 10 ≤ 15; lia) (by decide)
        exact ⟨k, by omega, by rw [← k2]; lia⟩
      have e : (50 : Int32) * nI c + (10 + nI k) = nI (50 * c + 10 + k) := by
        rw [show (50 : Int32) = nI 50 from rfl, show (10 : Int32) = nI 10 from rfl, pk_mul, nI_add, nI_add, Nat.add_assoc]
      rw [e, znIc (by omega), cu_kind c1, cu_into hcu hk]
      exact ⟨znIin (by omega) (by decide), rfl, rfl, hT⟩
