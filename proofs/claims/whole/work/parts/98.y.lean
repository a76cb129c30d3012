/-! write -/
def zwr (row : Nat → Int32) (l : List Int32) : Prop := ∀ k, k < l.length → row k = l.getD k 0
def zdg (v : Int32) : List Int32 := if v < 10 then [48 + (v - v / 10 * 10)] else [48 + v / 10, 48 + (v - v / 10 * 10)]
theorem zdg_len (v : Int32) : (zdg v).length ≤ 2 := by
  unfold zdg
  split
  · exact Nat.le_succ 1
  · exact Nat.le_refl 2
def zpl (P : Nat → Int32) (fb : Nat → Bool) (x : Nat) : List Int32 := zdg (nI x) ++ ([45] ++ (zdg (P x) ++ (if fb x = true then [33] ++ [59] else [59])))
def zwz (P s : Nat → Int32) (fb : Nat → Bool) : Nat → List Int32
  | 0 => []
  | x + 1 => if ¬ P x = -1 ∧ s x = 0 then zwz P s fb x ++ zpl P fb x else zwz P s fb x
def zpa (P s : Nat → Int32) (x : Nat) : Bool := decide (¬ P x = -1) && decide (s x = 0)
theorem zpl_len (P : Nat → Int32) (fb : Nat → Bool) (x : Nat) : (zpl P fb x).length ≤ 7 := by
  unfold zpl
  have h1 := zdg_len (nI x)
  have h2 := zdg_len (P x)
  have h3 : (if fb x = true then [33] ++ [59] else ([59] : List Int32)).length ≤ 2 := by
    split
    · exact Nat.le_refl 2
    · exact Nat.le_succ 1
  rw [List.length_append, List.length_append, List.length_append]
  have : ([45] : List Int32).length = 1 := rfl
  omega
theorem zwz_y {P s : Nat → Int32} {fb : Nat → Bool} {x : Nat} (h : ¬ P x = -1 ∧ s x = 0) : zwz P s fb (x + 1) = zwz P s fb x ++ zpl P fb x := if_pos h
theorem zwz_n {P s : Nat → Int32} {fb : Nat → Bool} {x : Nat} (h : ¬ (¬ P x = -1 ∧ s x = 0)) : zwz P s fb (x + 1) = zwz P s fb x := if_neg h
theorem zpa_iff {P s : Nat → Int32} {x : Nat} : zpa P s x = true ↔ ¬ P x = -1 ∧ s x = 0 := by
  unfold zpa
  rw [Bool.and_eq_true, decide_eq_true_iff, decide_eq_true_iff]
theorem zwz_len (P s : Nat → Int32) (fb : Nat → Bool) : ∀ x, (zwz P s fb x).length ≤ 7 * zcnt (zpa P s) x := by
  intro x
  induction x with
  | zero => exact Nat.le_refl _
  | succ x ih =>
    rw [zcnt_succ]
    by_cases c : ¬ P x = -1 ∧ s x = 0
    · rw [zwz_y c, if_pos (zpa_iff.mpr c), List.length_append]
      have := zpl_len P fb x
      omega
    · rw [zwz_n c, if_neg (fun q => c (zpa_iff.mp q))]
      exact ih
/-- at most 24 pairs -/
theorem zpa_24 {T P s : Nat → Int32} (hP : zPrt T P) (hs : ∀ x y, x < 48 → y < 48 → ¬ P x = -1 → s x = 0 → P x = nI y → ¬ s y = 0) : zcnt (zpa P s) 48 ≤ 24 := by
  have key : ∀ X, X ≤ 48 → 2 * zcnt (zpa P s) X ≤ zcnt (fun y => @decide (∃ t, t < X ∧ zpa P s t = true ∧ (y = t ∨ P t = nI y)) (Classical.propDecidable _)) 48 := by
    intro X
    induction X with
    | zero => intro _; exact Nat.zero_le _
    | succ X ih =>
      intro hX
      have i1 := ih (by omega)
      rw [zcnt_succ]
      have sub : ∀ k, (fun y => @decide (∃ t, t < X ∧ zpa P s t = true ∧ (y = t ∨ P t = nI y)) (Classical.propDecidable _)) k = true → (fun y => @decide (∃ t, t < X + 1 ∧ zpa P s t = true ∧ (y = t ∨ P t = nI y)) (Classical.propDecidable _)) k = true := fun k q => by
        obtain ⟨t, h1, h2⟩ := (@decide_eq_true_iff _ (Classical.propDecidable _)).mp q
        exact (@decide_eq_true_iff _ (Classical.propDecidable _)).mpr ⟨t, by omega, h2⟩
      by_cases c : zpa P s X = true
      · rw [if_pos c]
        obtain ⟨c1, c2⟩ := zpa_iff.mp c
        obtain ⟨y, a, b, y1, y2, y3, -, -, -, -, -⟩ := hP X (by omega) c1
        have sy := hs X y (by omega) y1 c1 c2 y2
        have old : ∀ k, (k = X ∨ P X = nI k) → (fun y => @decide (∃ t, t < X + 1 ∧ zpa P s t = true ∧ (y = t ∨ P t = nI y)) (Classical.propDecidable _)) k = true := fun k q => (@decide_eq_true_iff _ (Classical.propDecidable _)).mpr ⟨X, by omega, c, q⟩
        have new : ∀ k, (k = X ∨ k = y) → ¬ (fun y => @decide (∃ t, t < X ∧ zpa P s t = true ∧ (y = t ∨ P t = nI y)) (Classical.propDecidable _)) k = true := fun k q z => by
          obtain ⟨t, h1, h2, h3⟩ := (@decide_eq_true_iff _ (Classical.propDecidable _)).mp z
          obtain ⟨t2, t3⟩ := zpa_iff.mp h2
          rcases q with q | q
          · rcases h3 with h3 | h3
            · omega
            · rw [q] at h3
              exact hs t X (by omega) (by omega) t2 t3 h3 c2
          · rcases h3 with h3 | h3
            · rw [← h3, q] at t3
              exact sy t3
            · rw [q] at h3
              obtain ⟨y', a', b', z1, z2, z3, -⟩ := hP t (by omega) t2
              rw [h3] at z2
              have := nI_same (by omega) (by omega) z2
              rw [← this, y3] at z3
              have := nI_same (by omega) (by omega) z3
              omega
        have ne : ¬ y = X := fun q => by
          rw [q] at sy
          exact sy c2
        rcases (by omega : X < y ∨ y < X) with q | q
        · have := zcnt_2 sub q (old X (Or.inl rfl)) (old y (Or.inr y2)) (new X (Or.inl rfl)) (new y (Or.inr rfl)) 48 (by omega)
          omega
        · have := zcnt_2 sub q (old y (Or.inr y2)) (old X (Or.inl rfl)) (new y (Or.inr rfl)) (new X (Or.inl rfl)) 48 (by omega)
          omega
      · rw [if_neg c]
        have := zcnt_sub sub 48
        omega
  have := key 48 (Nat.le_refl _)
  have := zcnt_le (fun y => @decide (∃ t, t < 48 ∧ zpa P s t = true ∧ (y = t ∨ P t = nI y)) (Classical.propDecidable _)) 48
  omega
theorem zwr_add {row row' : Nat → Int32} {l : List Int32} {b : Int32} (h : zwr row l) (e : row' l.length = b) (e' : ∀ k, k ≠ l.length → row' k = row k) : zwr row' (l ++ [b]) := fun k hk => by
  rw [List.length_append, show [b].length = 1 from rfl] at hk
  rcases (by omega : k < l.length ∨ k = l.length) with c | c
  · rw [e' k (by omega), h k c, List.getD_eq_getElem?_getD, List.getD_eq_getElem?_getD, List.getElem?_append_left c]
  · rw [c, e, List.getD_eq_getElem?_getD, List.getElem?_append_right (Nat.le_refl _), Nat.sub_self]
    rfl
/-- what the class wrote -/
def zCo (I0 I : zFI) (l : List Int32) : Prop := (∀ b, b ≠ 0 → b ≠ 82 → I b = I0 b) ∧ (∀ k, k ≠ 12 → I 0 k = I0 0 k) ∧ I 0 12 = nI l.length ∧ zwr (I 82) l
theorem c_put {G : Gp} {Q : zPost} {S : zSh} {I0 I : zFI} {L : zFL} {l : List Int32} {b : Int32} (hS : zStd S) (h : zCo I0 I l) (hl : l.length < 200) (q : ∀ I', zCo I0 I' (l ++ [b]) → Q none S I' L) : ZC G mX11_putByte fX11_putByte lX11_putByte [zo G 0, .int b] S I L 0 0 Q := by
  obtain ⟨h1, h2, h3, h4⟩ := h
  refine ZC.of' (vX11_putByte_0 hS ⟨fun no => ?_, fun _ => ⟨?_, ?_⟩⟩) rfl (Nat.le_of_ble_eq_true rfl) rfl
  · rw [h3] at no
    exact absurd no (nI_ge (b := 200) hl (by omega))
  · rw [h3]
    exact znIin hl (by omega)
  · rw [h3, znIc (by omega), nI_1]
    refine q _ ⟨fun b b0 b1 => ?_, fun k hk => ?_, ?_, zwr_add h4 ?_ (fun k hk => ?_)⟩
    · rw [← u2_row _ _ _ _ b0, ← u2_row _ _ _ _ b1]
      exact h1 b b0 b1
    · rw [u2_ne _ _ _ _ (fun y => hk y.2), u2_ne _ _ _ _ (by omega)]
      exact h2 k hk
    · rw [u2_same, List.length_append]
      rfl
    · rw [u2_ne _ _ _ _ (by omega), u2_same]
    · rw [u2_ne _ _ _ _ (by omega), u2_ne _ _ _ _ (fun y => hk y.2)]
theorem c_putN {G : Gp} {Q : zPost} {S : zSh} {I0 I : zFI} {L : zFL} {l : List Int32} {v : Int32} (hS : zStd S) (h : zCo I0 I l) (hl : l.length + 2 ≤ 200) (q : ∀ I', zCo I0 I' (l ++ zdg v) → Q none S I' L) : ZC G mX11_putNumber fX11_putNumber lX11_putNumber [zo G 0, .int v] S I L 0 0 Q := by
  refine ZC.of' (vX11_putNumber_0 hS ⟨fun c => c_put hS h (by omega) (fun I1 h1 => ⟨rfl, rfl, q I1 ?_⟩), fun c => c_put hS h (by omega) (fun I1 h1 => ⟨rfl, rfl, c_put hS h1 ?_ (fun I2 h2 => ⟨rfl, rfl, q I2 ?_⟩)⟩)⟩) rfl (Nat.le_of_ble_eq_true rfl) rfl
  · unfold zdg
    rw [if_pos c]
    exact h1
  · rw [List.length_append]
    show l.length + 1 < 200
    omega
  · unfold zdg
    rw [if_neg c, show l ++ [48 + v / 10, 48 + (v - v / 10 * 10)] = l ++ [48 + v / 10] ++ [48 + (v - v / 10 * 10)] by rw [List.append_assoc]; rfl]
    exact h2
/-- what the model wrote -/
def zMo (I0 I : zFI) (l : List Int32) : Prop := (∀ b, b ≠ 84 → b ≠ 138 → I b = I0 b) ∧ (∀ k, k ≠ 90 → I 84 k = I0 84 k) ∧ I 84 90 = nI l.length ∧ zwr (I 138) l
theorem m_put {G : Gp} {Q : zPost} {S : zSh} {I0 I : zFI} {L : zFL} {l : List Int32} {b : Int32} (hS : zStd S) (h : zMo I0 I l) (hl : l.length < 200) (q : ∀ I', zMo I0 I' (l ++ [b]) → Q none S I' L) : ZC G mX12_says fX12_says lX12_says [zo G 84, .int b] S I L 0 0 Q := by
  obtain ⟨h1, h2, h3, h4⟩ := h
  refine ZC.of' (vX12_says_0 hS ⟨?_, ?_⟩) rfl (Nat.le_of_ble_eq_true rfl) rfl
  · rw [h3]
    exact znIin (by omega) (by omega)
  · rw [h3, znIc (by omega), nI_1]
    refine q _ ⟨fun b b0 b1 => ?_, fun k hk => ?_, ?_, zwr_add h4 ?_ (fun k hk => ?_)⟩
    · rw [← u2_row _ _ _ _ b0, ← u2_row _ _ _ _ b1]
      exact h1 b b0 b1
    · rw [u2_ne _ _ _ _ (fun y => hk y.2), u2_ne _ _ _ _ (by omega)]
      exact h2 k hk
    · rw [u2_same, List.length_append]
      rfl
    · rw [u2_ne _ _ _ _ (by omega), u2_same]
    · rw [u2_ne _ _ _ _ (by omega), u2_ne _ _ _ _ (fun y => hk y.2)]
theorem lt10_le9 {v : Int32} : v < 10 ↔ v ≤ 9 := by
  rw [zlt, zle, show (10 : Int32).toInt = 10 from rfl, show (9 : Int32).toInt = 9 from rfl]
  omega
theorem m_putN {G : Gp} {Q : zPost} {S : zSh} {I0 I : zFI} {L : zFL} {l : List Int32} {v : Int32} (hS : zStd S) (h : zMo I0 I l) (hl : l.length + 2 ≤ 200) (q : ∀ I', zMo I0 I' (l ++ zdg v) → Q none S I' L) : ZC G mX12_saysNumber fX12_saysNumber lX12_saysNumber [zo G 84, .int v] S I L 0 0 Q := by
  refine ZC.of' (vX12_saysNumber_0 hS ⟨fun c => m_put hS h (by omega) (fun I1 h1 => ⟨rfl, rfl, q I1 ?_⟩), fun c => m_put hS h (by omega) (fun I1 h1 => ⟨rfl, rfl, m_put hS h1 ?_ (fun I2 h2 => ⟨rfl, rfl, q I2 ?_⟩)⟩)⟩) rfl (Nat.le_of_ble_eq_true rfl) rfl
  · unfold zdg
    rw [if_pos (lt10_le9.mpr c)]
    exact h1
  · rw [List.length_append]
    show l.length + 1 < 200
    omega
  · unfold zdg
    rw [if_neg (fun y => c (lt10_le9.mp y)), show l ++ [48 + v / 10, 48 + (v - v / 10 * 10)] = l ++ [48 + v / 10] ++ [48 + (v - v / 10 * 10)] by rw [List.append_assoc]; rfl]
    exact h2
