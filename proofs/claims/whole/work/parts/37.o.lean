theorem bAt {I : zFI} {tl i : Nat} (h1 : I 1 1 = nI tl) (h2 : tl ≤ 800) (hi : i < tl) : p_X9_byteAt I (nI i) = I 2 i := by
  unfold p_X9_byteAt
  rw [h1, if_neg (by rw [Int32.not_lt]; exact nI_pos' (by omega)), if_neg (nI_ge hi (by omega)), if_neg (show ¬ (800 : Int32) ≤ nI i from nI_ge (b := 800) (by omega) (by omega)), znIc (by omega)]
theorem isSg6 (x : Int32) : p_X6_isSign x = 0 ↔ ¬ iSgn x := by
  unfold p_X6_isSign iSgn
  grind
theorem isSg12 (x : Int32) : p_X12_isSign x = 0 ↔ ¬ iSgn x := by
  unfold p_X12_isSign iSgn
  grind
def zSd (I : zFI) (row tl : Nat) : Nat := if 0 < tl ∧ I row (tl - 1) = 39 then 1 else 0
theorem zSd_le (I : zFI) (row tl : Nat) : zSd I row tl ≤ 1 ∧ zSd I row tl ≤ tl := by
  unfold zSd
  split <;> omega
theorem c_clear {G : Gp} {Q : zPost} {S : zSh} {I : zFI} {L : zFL} (hS : zStd S) (h : Q none S (u2 I 1 1 0) L) : ZC G mX9_clear fX9_clear lX9_clear [zo G 1] S I L 0 0 Q := ZC.of' (vX9_clear_0 hS h) rfl (Nat.le_of_ble_eq_true rfl) rfl
set_option maxHeartbeats 1000000 in
theorem c_tell {G : Gp} {Q : zPost} {S : zSh} {I : zFI} {L : zFL} {v1 v2 : Int32} {mn tl : Nat} (hS : zStd S) (m1 : I 19 0 = nI mn) (m2 : mn ≤ 200) (t1 : I 1 1 = nI tl) (t2 : tl ≤ 800)
    (hf : ¬ (mn < 200 ∧ tl - zSd I 2 tl ≤ 6 ∧ ∀ i, i < tl - zSd I 2 tl → iSgn (I 2 i)) → ∀ I', (∀ b, b ≠ 24 → I' b = I b) → (∀ i, i < 6 * mn → I' 24 i = I 24 i) → Q (some (.int (-1))) S I' L)
    (hs : mn < 200 → tl - zSd I 2 tl ≤ 6 → (∀ i, i < tl - zSd I 2 tl → iSgn (I 2 i)) → ∀ I', (∀ b, b ≠ 24 → I' b = I b) → (∀ i, i < 6 * mn → I' 24 i = I 24 i) → (∀ i, i < tl - zSd I 2 tl → I' 24 (6 * mn + i) = I 2 i) →
      Q (some (.int (nI (tl - zSd I 2 tl)))) S (u2 (u2 (u2 (u2 (u2 I' 20 mn v1) 21 mn v2) 22 mn (nI (tl - zSd I 2 tl))) 23 mn (nI (zSd I 2 tl))) 19 0 (nI (mn + 1))) L) :
    ZC G mX6_tell fX6_tell lX6_tell [zo G 19, .int v1, .int v2, zo G 1] S I L 0 0 Q := by
  have hd := zSd_le I 2 tl
  generalize hsd : zSd I 2 tl = sd at hd hf hs
  have key : mn < 200 → tl - sd ≤ 6 → ∀ (k i : Nat) (I1 : zFI), i + k = tl - sd → (∀ b, b ≠ 24 → I1 b = I b) → (∀ i, i < 6 * mn → I1 24 i = I 24 i) → (∀ j, j < i → iSgn (I 2 j) ∧ I1 24 (6 * mn + j) = I 2 j) →
      ZW G mX6_tell fX6_tell lX6_tell 60 [zo G 19, .int v1, .int v2, zo G 1, .int (nI sd), .int (nI (tl - sd)), .int (nI i)] [] S I1 L 0 0 Q := by
    intro hm hl k
    induction k with
    | zero =>
      intro i I1 hi g1 g2 g3
      have hi2 : i = tl - sd := by omega
      subst hi2
      refine vX6_tell_60 hS ⟨fun _ => ⟨?_, ?_⟩, fun hc => absurd (Int32.le_refl _) hc⟩
      · rw [g1 19 (by decide), m1]
        exact znIin hm (by decide)
      · rw [g1 19 (by decide), m1, znIc (by omega), nI_1]
        exact hs hm hl (fun j hj => (g3 j hj).1) I1 g1 g2 (fun j hj => (g3 j hj).2)
    | succ k ih =>
      intro i I1 hi g1 g2 g3
      have hb : p_X9_byteAt I1 (nI i) = I 2 i := by
        have e1 : I1 1 1 = nI tl := by rw [g1 1 (by decide)]; exact t1
        rw [bAt e1 t2 (by omega), g1 2 (by decide)]
      have e6 : I1 19 0 * 6 + nI i = nI (6 * mn + i) := by
        rw [g1 19 (by decide), m1, show (6 : Int32) = nI 6 from rfl, pk_mul, nI_add, Nat.mul_comm]
      refine vX6_tell_60 hS ⟨fun hc => ?_, fun _ => ⟨fun hc => ⟨?_, ?_⟩, fun hc => ?_⟩⟩
      · exact absurd hc (nI_ge (by omega) (by omega))
      · rw [e6]
        exact znIin (by omega) (by decide)
      · rw [e6, znIc (by omega), nI_1, hb]
        rw [hb, isSg6, Classical.not_not] at hc
        refine ih (i + 1) _ (by omega) (fun b hb2 => ?_) (fun j hj => ?_) (fun j hj => ?_)
        · rw [← u2_row _ _ _ _ hb2]
          exact g1 b hb2
        · rw [u2_ne _ _ _ _ (by omega)]
          exact g2 j hj
        · by_cases hji : j = i
          · subst hji
            exact ⟨hc, u2_same _ _ _ _⟩
          · rw [u2_ne _ _ _ _ (by omega)]
            exact g3 j (by omega)
      · rw [hb, isSg6] at hc
        exact hf (fun q => hc (q.2.2 i (by omega))) I1 g1 g2
  have hsz : p_X9_size I = nI tl := t1
  have main : ∀ (x : Int32), x = nI sd → ((200 ≤ I 19 0 → Q (some (.int (-1))) S I L) ∧ (¬ 200 ≤ I 19 0 → ((p_X9_size I - x ≤ 6 → ZW G mX6_tell fX6_tell lX6_tell 60 [zo G 19, .int v1, .int v2, zo G 1, .int x, .int (p_X9_size I - x), .int 0] [] S I L 0 0 Q) ∧ (¬ p_X9_size I - x ≤ 6 → Q (some (.int (-1))) S I L)))) := by
    intro x hx
    have e : p_X9_size I - x = nI (tl - sd) := by rw [hsz, hx, pk_sub hd.2]
    rw [e, hx, m1]
    refine ⟨fun hc => ?_, fun hc => ⟨fun hc2 => ?_, fun hc2 => ?_⟩⟩
    · rw [show (200 : Int32) = nI 200 from rfl, nI_leI (by omega) (by omega)] at hc
      exact hf (fun q => by omega) I (fun _ _ => rfl) (fun _ _ => rfl)
    · rw [show (200 : Int32) = nI 200 from rfl, nI_leI (by omega) (by omega)] at hc
      rw [show (6 : Int32) = nI 6 from rfl, nI_leI (by omega) (by omega)] at hc2
      exact key (by omega) hc2 (tl - sd) 0 I (by omega) (fun _ _ => rfl) (fun _ _ => rfl) (fun j hj => absurd hj (Nat.not_lt_zero _))
    · rw [show (6 : Int32) = nI 6 from rfl, nI_leI (by omega) (by omega)] at hc2
      exact hf (fun q => by omega) I (fun _ _ => rfl) (fun _ _ => rfl)
  refine ZC.of' (vX6_tell_0 hS ⟨fun c1 => ?_, fun c1 => ⟨fun c2 => ?_, fun c2 => ?_⟩⟩) rfl (Nat.le_of_ble_eq_true rfl) rfl
  · rw [hsz, show (0 : Int32) = nI 0 from rfl, nI_leI (by omega) (by omega)] at c1
    exact main 0 (by rw [← hsd]; unfold zSd; rw [if_neg (by omega)]; rfl)
  · rw [hsz, show (0 : Int32) = nI 0 from rfl, nI_leI (by omega) (by omega)] at c1
    rw [hsz, show (1 : Int32) = nI 1 from rfl, pk_sub (by omega), bAt t1 t2 (by omega)] at c2
    exact main 0 (by rw [← hsd]; unfold zSd; rw [if_neg (fun q => c2 q.2)]; rfl)
  · rw [hsz, show (0 : Int32) = nI 0 from rfl, nI_leI (by omega) (by omega)] at c1
    rw [hsz, show (1 : Int32) = nI 1 from rfl, pk_sub (by omega), bAt t1 t2 (by omega)] at c2
    exact main 1 (by rw [← hsd]; unfold zSd; rw [if_pos ⟨by omega, c2⟩]; rfl)
theorem zcong {tl : Nat} {I I' : zFI} {r r' : Nat} (h : ∀ k, k < tl → I' r' k = I r k) : zSd I' r' tl = zSd I r tl := by
  unfold zSd
  by_cases h0 : 0 < tl
  · rw [h (tl - 1) (by omega)]
  · rw [if_neg (fun q => h0 q.1), if_neg (fun q => h0 q.1)]
set_option maxHeartbeats 1000000 in
/-- the model's mark -/
theorem m_mark {G : Gp} {Q : zPost} {S : zSh} {I : zFI} {L : zFL} {v1 : Int32} {mn tl jn : Nat} (hS : zStd S) (m1 : I 84 19 = nI mn) (m2 : mn ≤ 200) (t1 : I 84 26 = nI tl) (t2 : tl ≤ 800) (j1 : I 84 13 = nI jn) (j2 : jn ≤ 48)
    (hf : ¬ ((0 ≤ v1 ∧ v1 < nI jn) ∧ mn < 200 ∧ tl - zSd I 104 tl ≤ 6 ∧ ∀ i, i < tl - zSd I 104 tl → iSgn (I 104 i)) → Q (some (.int (-1))) S (u2 (u2 I 84 0 0) 84 26 0) L)
    (hs : (0 ≤ v1 ∧ v1 < nI jn) → mn < 200 → tl - zSd I 104 tl ≤ 6 → (∀ i, i < tl - zSd I 104 tl → iSgn (I 104 i)) → ∀ I', (∀ b, b ≠ 103 → I' b = (u2 (u2 (u2 (u2 (u2 (u2 I 84 0 0) 84 26 0) 99 mn v1) 100 mn (I 84 1)) 101 mn (nI (tl - zSd I 104 tl))) 102 mn (nI (zSd I 104 tl))) b) → (∀ i, i < 6 * mn → I' 103 i = I 103 i) → (∀ i, i < tl - zSd I 104 tl → I' 103 (6 * mn + i) = I 104 i) →
      Q (some (.int (nI (tl - zSd I 104 tl)))) S (u2 I' 84 19 (nI (mn + 1))) L) :
    ZC G mX12_mark fX12_mark lX12_mark [zo G 84, .int v1] S I L 0 0 Q := by
  have hd := zSd_le I 104 tl
  generalize hsd : zSd I 104 tl = sd at hd hf hs
  have key2 : (0 ≤ v1 ∧ v1 < nI jn) → mn < 200 → tl - sd ≤ 6 → (∀ i, i < tl - sd → iSgn (I 104 i)) → ∀ (k i : Nat) (I1 : zFI), i + k = tl - sd → (∀ b, b ≠ 103 → I1 b = (u2 (u2 (u2 (u2 (u2 (u2 I 84 0 0) 84 26 0) 99 mn v1) 100 mn (I 84 1)) 101 mn (nI (tl - sd))) 102 mn (nI sd)) b) → (∀ i, i < 6 * mn → I1 103 i = I 103 i) → (∀ j, j < i → I1 103 (6 * mn + j) = I 104 j) →
      ZW G mX12_mark fX12_mark lX12_mark 156 [zo G 84, .int v1, .int (nI tl), .int (nI sd), .int (nI (tl - sd)), .int (nI i)] [] S I1 L 0 0 Q := by
    intro hj hm hl hok k
    induction k with
    | zero =>
      intro i I1 hi g1 g2 g3
      have hi2 : i = tl - sd := by omega
      subst hi2
      refine vX12_mark_156 hS ⟨fun _ => ?_, fun hc => absurd (Int32.le_refl _) hc⟩
      have e : I1 84 19 = nI mn := by rw [g1 84 (by decide)]; exact m1
      rw [e, nI_1]
      exact hs hj hm hl hok I1 g1 g2 g3
    | succ k ih =>
      intro i I1 hi g1 g2 g3
      have e : I1 84 19 = nI mn := by rw [g1 84 (by decide)]; exact m1
      have e4 : I1 104 = I 104 := by rw [g1 104 (by decide)]; rfl
      have e6 : 6 * I1 84 19 + nI i = nI (6 * mn + i) := by
        rw [e, show (6 : Int32) = nI 6 from rfl, pk_mul, nI_add]
      refine vX12_mark_156 hS ⟨fun hc => ?_, fun _ => ⟨znIin (by omega) (by decide), ?_, ?_⟩⟩
      · exact absurd hc (nI_ge (by omega) (by omega))
      · rw [e6]
        exact znIin (by omega) (by decide)
      · rw [e6, znIc (by omega), nI_1, znIc (by omega), e4]
        refine ih (i + 1) _ (by omega) (fun b hb2 => ?_) (fun j hj => ?_) (fun j hj => ?_)
        · rw [← u2_row _ _ _ _ hb2]
          exact g1 b hb2
        · rw [u2_ne _ _ _ _ (by omega)]
          exact g2 j hj
        · by_cases hji : j = i
          · subst hji
            exact u2_same _ _ _ _
          · rw [u2_ne _ _ _ _ (by omega)]
            exact g3 j (by omega)
  have key1 : (0 ≤ v1 ∧ v1 < nI jn) → mn < 200 → tl - sd ≤ 6 → ∀ (k i : Nat), i + k = tl - sd → (∀ j, j < i → iSgn (I 104 j)) →
      ZW G mX12_mark fX12_mark lX12_mark 80 [zo G 84, .int v1, .int (nI tl), .int (nI sd), .int (nI (tl - sd)), .int (nI i)] [] S (u2 (u2 I 84 0 0) 84 26 0) L 0 0 Q := by
    intro hj hm hl k
    induction k with
    | zero =>
      intro i hi g1
      have hi2 : i = tl - sd := by omega
      subst hi2
      refine vX12_mark_80 hS ⟨fun _ => ⟨?_, ?_⟩, fun hc => absurd (Int32.le_refl _) hc⟩
      · show vp_in (I 84 19) 200
        rw [m1]
        exact znIin hm (by decide)
      · show ZW G mX12_mark fX12_mark lX12_mark 156 _ [] S (u2 (u2 (u2 (u2 (u2 (u2 I 84 0 0) 84 26 0) 99 (I 84 19).toNatClampNeg v1) 100 (I 84 19).toNatClampNeg (I 84 1)) 101 (I 84 19).toNatClampNeg (nI (tl - sd))) 102 (I 84 19).toNatClampNeg (nI sd)) L 0 0 Q
        rw [m1, znIc (by omega)]
        exact key2 hj hm hl g1 (tl - sd) 0 _ (by omega) (fun _ _ => rfl) (fun _ _ => rfl) (fun j hj => absurd hj (Nat.not_lt_zero _))
    | succ k ih =>
      intro i hi g1
      refine vX12_mark_80 hS ⟨fun hc => ?_, fun _ => ⟨znIin (by omega) (by decide), fun hc => ?_, fun hc => ?_⟩⟩
      · exact absurd hc (nI_ge (by omega) (by omega))
      · have hc : ¬ p_X12_isSign (I 104 (nI i).toNatClampNeg) = 0 := hc
        rw [znIc (by omega), isSg12, Classical.not_not] at hc
        rw [nI_1]
        refine ih (i + 1) (by omega) (fun j hj => ?_)
        by_cases hji : j = i
        · subst hji; exact hc
        · exact g1 j (by omega)
      · have hc : p_X12_isSign (I 104 (nI i).toNatClampNeg) = 0 := hc
        rw [znIc (by omega), isSg12] at hc
        exact hf (fun q => hc (q.2.2.2 i (by omega)))
  have mj : p_X12_isIn v1 0 (I 84 13 - 1) = 0 ↔ ¬ (0 ≤ v1 ∧ v1 < nI jn) := by rw [j1]; exact isIn_n (by omega)
  have main : ∀ (x : Int32), x = nI sd → ((p_X12_isIn v1 0 (I 84 13 - 1) = 0 → Q (some (.int (-1))) S (u2 (u2 I 84 0 0) 84 26 0) L) ∧ (¬ p_X12_isIn v1 0 (I 84 13 - 1) = 0 → ((6 < I 84 26 - x → Q (some (.int (-1))) S (u2 (u2 I 84 0 0) 84 26 0) L) ∧ (¬ 6 < I 84 26 - x → ((¬ I 84 19 = 200 → ZW G mX12_mark fX12_mark lX12_mark 80 [zo G 84, .int v1, .int (I 84 26), .int x, .int (I 84 26 - x), .int 0] [] S (u2 (u2 I 84 0 0) 84 26 0) L 0 0 Q) ∧ (I 84 19 = 200 → Q (some (.int (-1))) S (u2 (u2 I 84 0 0) 84 26 0) L)))))) := by
    intro x hx
    have e : I 84 26 - x = nI (tl - sd) := by rw [t1, hx, pk_sub hd.2]
    rw [mj, e, t1, hx, m1, show (200 : Int32) = nI 200 from rfl, show (6 : Int32) = nI 6 from rfl, nI_ltI (by omega) (by omega), nI_eq (by omega) (by omega)]
    refine ⟨fun hc => hf (fun q => hc q.1), fun hc => ⟨fun hc2 => hf (fun q => by omega), fun hc2 => ⟨fun hc3 => ?_, fun hc3 => hf (fun q => by omega)⟩⟩⟩
    exact key1 (Classical.not_not.mp hc) (by omega) (by omega) (tl - sd) 0 (by omega) (fun j hj => absurd hj (Nat.not_lt_zero _))
  refine ZC.of' (vX12_mark_0 hS ⟨fun c1 => ?_, fun c1 => ⟨?_, fun c2 => ?_, fun c2 => ?_⟩⟩) rfl (Nat.le_of_ble_eq_true rfl) rfl
  · rw [t1, show (0 : Int32) = nI 0 from rfl, nI_leI (by omega) (by omega)] at c1
    exact main 0 (by rw [← hsd]; unfold zSd; rw [if_neg (by omega)]; rfl)
  · rw [t1, show (0 : Int32) = nI 0 from rfl, nI_leI (by omega) (by omega)] at c1
    rw [t1, show (1 : Int32) = nI 1 from rfl, pk_sub (by omega)]
    exact znIin (by omega) (by decide)
  · rw [t1, show (0 : Int32) = nI 0 from rfl, nI_leI (by omega) (by omega)] at c1
    rw [t1, show (1 : Int32) = nI 1 from rfl, pk_sub (by omega), znIc (by omega)] at c2
    exact main 0 (by rw [← hsd]; unfold zSd; rw [if_neg (fun q => c2 q.2)]; rfl)
  · rw [t1, show (0 : Int32) = nI 0 from rfl, nI_leI (by omega) (by omega)] at c1
    rw [t1, show (1 : Int32) = nI 1 from rfl, pk_sub (by omega), znIc (by omega)] at c2
    exact main 1 (by rw [← hsd]; unfold zSd; rw [if_pos ⟨by omega, c2⟩]; rfl)
