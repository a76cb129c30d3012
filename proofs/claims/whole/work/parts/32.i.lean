/-- the model's row of words -/
def zWrd : List Int32 := [32, 112, 111, 115, 116, 32, 98, 101, 97, 109, 32, 114, 97, 102, 116, 101, 114, 32, 98, 114, 97, 99, 101, 32, 102, 111, 117, 114, 32, 116, 117, 114, 110, 32, 115, 108, 97, 99, 107, 32, 104, 111, 108, 100, 32, 108, 101, 118, 101, 108, 32, 109, 97, 114, 103, 105, 110, 32, 115, 97, 112, 32, 115, 116, 111, 99, 107, 32, 97, 100, 100, 32, 108, 101, 115, 115, 32, 98, 111, 116, 104, 32, 105, 110, 116, 111, 32, 97, 104, 101, 97, 100, 32, 116, 111, 32]
/-! what the two objects' cells hold between calls, and how they agree -/
def iNow (I : zFI) : Prop := 0 ≤ I 0 14 ∧ I 0 14 ≤ 9999 ∧ -1 ≤ I 0 15 ∧ I 0 15 ≤ I 0 14 ∧ I 84 1 = I 0 14 ∧ I 84 2 = I 0 15
def iTim (I : zFI) (n : Nat) : Prop := I 10 0 = nI n ∧ n ≤ 16 ∧ I 84 3 = nI n ∧ (∀ k, k < n → I 85 k = I 11 k ∧ I 86 k = I 12 k ∧ I 87 k = I 13 k ∧ 0 ≤ I 11 k ∧ I 11 k ≤ 3 ∧ 1 ≤ I 12 k ∧ I 12 k ≤ 99 ∧ 0 ≤ I 13 k ∧ I 13 k ≤ I 0 14) ∧ ∀ i k, i ≤ k → k < n → I 13 i ≤ I 13 k
def iJnt (I : zFI) (n jn : Nat) : Prop := I 10 4 = nI jn ∧ jn ≤ 48 ∧ I 84 13 = nI jn ∧
  (∀ k, k < jn → I 94 k = I 14 k ∧ I 95 k = I 15 k ∧ I 96 k = I 16 k ∧ I 97 k = I 17 k ∧ I 98 k = I 18 k ∧ 0 ≤ I 14 k ∧ I 14 k < nI n ∧ 0 ≤ I 15 k ∧ I 15 k ≤ 99 ∧ (I 16 k = 0 ∨ I 16 k = 1) ∧ 1 ≤ I 17 k ∧ I 17 k ≤ 9 ∧ 0 ≤ I 18 k ∧ I 18 k ≤ I 0 14) ∧
  (∀ i k, i ≤ k → k < jn → I 18 i ≤ I 18 k) ∧ ∀ t, t < 16 → I 88 t = nI (zcnt (fun k => decide (I 14 k = nI t)) jn) ∧ zcnt (fun k => decide (I 14 k = nI t)) jn ≤ 6
def iSgn (x : Int32) : Prop := x = 73 ∨ x = 86 ∨ x = 88 ∨ x = 63
def iMrk (I : zFI) (jn mn : Nat) : Prop := I 19 0 = nI mn ∧ mn ≤ 200 ∧ I 84 19 = nI mn ∧
  ∀ k, k < mn → I 99 k = I 20 k ∧ I 100 k = I 21 k ∧ I 101 k = I 22 k ∧ I 102 k = I 23 k ∧ 0 ≤ I 20 k ∧ I 20 k < nI jn ∧ 0 ≤ I 21 k ∧ I 21 k ≤ I 0 14 ∧ 0 ≤ I 22 k ∧ I 22 k ≤ 6 ∧ (I 23 k = 0 ∨ I 23 k = 1) ∧ ∀ i : Nat, nI i < I 22 k → i < 6 → I 103 (6 * k + i) = I 24 (6 * k + i) ∧ iSgn (I 24 (6 * k + i))
def iShn (I : zFI) (mn : Nat) : Prop := ∀ j, j < 48 → I 25 j = zlate (fun k => decide (I 21 k ≤ p_X11_lastDaySeen I) && decide (I 20 k = nI j)) mn
def iTap (I : zFI) (tl : Nat) : Prop := I 1 1 = nI tl ∧ tl ≤ 800 ∧ I 84 26 = nI tl ∧ ∀ k, k < tl → I 104 k = I 2 k ∧ 0 ≤ I 2 k ∧ I 2 k ≤ 255
def iFlt (I : zFI) : Prop := I 84 36 = I 3 5 ∧ I 84 37 = I 3 6
def iBit (x : Int32) (k : Nat) : Int32 := (x >>> (nI k &&& 31)) &&& 1
def iCu1 (I : zFI) (r c : Nat) : Prop := (∀ k, k < 9 → I 105 (50 * c + k) = I r k) ∧ 1 ≤ I r 0 ∧ I r 0 ≤ 3 ∧ (I r 1 = 0 ∨ I r 1 = 1) ∧ 0 ≤ I r 2 ∧ I r 2 ≤ 3 ∧ 0 ≤ I r 3 ∧ I r 3 ≤ 5 ∧ 0 ≤ I r 4 ∧ I r 4 ≤ 99 ∧ 0 ≤ I r 5 ∧ I r 5 ≤ 9 ∧ 0 ≤ I r 6 ∧ I r 6 ≤ 99 ∧ I r 6 ≤ I r 7 ∧ I r 7 ≤ 99 ∧ 0 ≤ I r 8 ∧ I r 8 ≤ 99 ∧
  (∀ k, k < 16 → I 105 (50 * c + 10 + k) = iBit (I r 9) k) ∧ ∀ k, k < 16 → I 105 (50 * c + 30 + k) = iBit (I r 10) k
def iCus (S : zSh) (I : zFI) : Prop := iCu1 I (zrl S 0) 0 ∧ iCu1 I (zrl S 1) 1
def iRng (I : zFI) (n : Nat) : Prop := (∀ y, y < 200 → (I 132 y = 0 ∨ I 132 y = 1) ∧ (I 132 y = 0 ↔ I 68 y = -1) ∧ (¬ I 68 y = -1 → I 131 y = I 68 y) ∧ -1 ≤ I 68 y ∧ I 68 y ≤ 99) ∧
  ∀ t, t < 16 → I 89 t = I 69 t ∧ 0 ≤ I 69 t ∧ I 69 t ≤ 24 ∧ I 92 t = I 72 t ∧ 0 ≤ I 72 t ∧ I 72 t ≤ 24 ∧ I 93 t = I 73 t ∧ (I 73 t = 0 ∨ I 73 t = 1) ∧
    ∀ i : Nat, nI i < I 69 t → i < 24 → I 90 (24 * t + i) = I 70 (24 * t + i) ∧ I 91 (24 * t + i) = I 71 (24 * t + i) ∧ 0 ≤ I 70 (24 * t + i) ∧ I 70 (24 * t + i) ≤ 99 ∧ 0 ≤ I 71 (24 * t + i) ∧ I 71 (24 * t + i) ≤ I 0 14
def iLea (I : zFI) (n ln : Nat) : Prop := I 77 0 = nI ln ∧ ln ≤ 60 ∧ I 84 79 = nI ln ∧ ∀ k, k < ln → I 134 k = I 78 k ∧ I 135 k = I 79 k ∧ I 136 k = I 80 k ∧ I 137 k = I 81 k ∧ 0 ≤ I 78 k ∧ I 78 k < nI n ∧ 0 ≤ I 79 k ∧ I 79 k ≤ 999 ∧ -99 ≤ I 80 k ∧ I 80 k ≤ 99 ∧ 0 ≤ I 81 k ∧ I 81 k ≤ I 0 14
def iOut (I : zFI) (on : Nat) : Prop := I 0 12 = nI on ∧ on ≤ 200 ∧ I 84 90 = nI on ∧ ∀ k, k < on → I 138 k = I 82 k
/-- the class's texts of the model that never change -/
def iWrd (I : zFI) : Prop := ∀ k, k < 96 → I 106 k = zWrd.getD k 0
def iAll (S : zSh) (I : zFI) (n jn mn tl ln on : Nat) : Prop := zStd S ∧ iNow I ∧ iTim I n ∧ iJnt I n jn ∧ iMrk I jn mn ∧ iShn I mn ∧ iTap I tl ∧ iFlt I ∧ iCus S I ∧ iRng I n ∧ iLea I n ln ∧ iOut I on ∧ iWrd I
/-- what the joins, frames and raisings rest on, and what they hold, is the same -/
def zSameJ (I : zFI) (L : zFL) (I' : zFI) (L' : zFL) (jn : Nat) : Prop := I' 0 15 = I 0 15 ∧ I' 10 4 = I 10 4 ∧ (∀ k, k < jn → I' 14 k = I 14 k ∧ I' 16 k = I 16 k ∧ I' 17 k = I 17 k ∧ I' 18 k = I 18 k ∧ I' 11 (I 14 k).toNatClampNeg = I 11 (I 14 k).toNatClampNeg) ∧ (∀ a, 19 ≤ a → a ≤ 25 → a ≠ 24 → I' a = I a) ∧ (∀ i, i < 6 * (I 19 0).toNatClampNeg → I' 24 i = I 24 i) ∧ I' 8 = I 8 ∧ I' 9 = I 9 ∧ I' 83 = I 83 ∧ (∀ a, (27 ≤ a ∧ a ≤ 66) ∨ 139 ≤ a → I' a = I a) ∧ L' = L ∧ I' 14 = I 14 ∧ I' 16 = I 16 ∧ I' 17 = I 17 ∧ I' 18 = I 18
theorem zSameJ.of_rows {I : zFI} {L : zFL} {I' : zFI} {jn : Nat} (h0 : I' 0 15 = I 0 15) (h : ∀ a, (8 ≤ a ∧ a ≤ 66) ∨ a = 83 ∨ 139 ≤ a → I' a = I a) : zSameJ I L I' L jn := by
  refine ⟨h0, by rw [h 10 (by omega)], fun k _ => ⟨by rw [h 14 (by omega)], by rw [h 16 (by omega)], by rw [h 17 (by omega)], by rw [h 18 (by omega)], by rw [h 11 (by omega)]⟩, fun a h1 h2 _ => h a (by omega), fun i _ => by rw [h 24 (by omega)], h 8 (by omega), h 9 (by omega), h 83 (by omega), fun a ha => h a (by omega), rfl, h 14 (by omega), h 16 (by omega), h 17 (by omega), h 18 (by omega)⟩
/-- a call of both objects: the same answer, and R behind it -/
def zOpI (G : Gp) (m : Mi) (f l : Nat) (m' : Mi) (f' l' : Nat) (As : List Value) (S : zSh) (I : zFI) (L : zFL) (bc bs : Nat) (R : zSh → zFI → zFL → Prop) : Prop :=
  ZC G m f l (zo G 0 :: As) S I L bc bs (fun v S' I' L' => ∃ r : Int32, v = some (.int r) ∧ ZC G m' f' l' (zo G 84 :: As) S' I' L' 0 0 (fun v' S'' I'' L'' => v' = some (.int r) ∧ R S'' I'' L''))
def zOpJ (G : Gp) (m : Mi) (f l : Nat) (m' : Mi) (f' l' : Nat) (As : List Value) (S : zSh) (I : zFI) (L : zFL) (bc bs : Nat) (R : zSh → zFI → zFL → Prop) : Prop :=
  ZC G m f l (zo G 0 :: As) S I L bc bs (fun v S' I' L' => ∃ r : Int64, v = some (.long r) ∧ ZC G m' f' l' (zo G 84 :: As) S' I' L' 0 0 (fun v' S'' I'' L'' => v' = some (.long r) ∧ R S'' I'' L''))
theorem isIn_0 (v a b : Int32) : p_X12_isIn v a b = 0 ↔ ¬ (a ≤ v ∧ v ≤ b) := by
  unfold p_X12_isIn
  split
  · rename_i h
    simp only [true_iff]
    intro q
    exact Int32.not_lt.mpr q.1 h
  · split
    · rename_i h
      simp only [true_iff]
      intro q
      exact Int32.not_lt.mpr q.2 h
    · rename_i h1 h2
      constructor
      · intro h; cases h
      · intro h; exact absurd ⟨Int32.not_lt.mp h1, Int32.not_lt.mp h2⟩ h
theorem iNow.fr {I I' : zFI} (h : iNow I) (h1 : I' 0 14 = I 0 14) (h2 : I' 0 15 = I 0 15) (h3 : I' 84 1 = I 84 1) (h4 : I' 84 2 = I 84 2) : iNow I' := by
  unfold iNow at *
  rw [h1, h2, h3, h4]
  exact h
theorem iTim.fr {I I' : zFI} {n : Nat} (h : iTim I n) (h0 : I 0 14 ≤ I' 0 14) (h1 : I' 10 0 = I 10 0) (h2 : I' 84 3 = I 84 3) (r1 : I' 11 = I 11) (r2 : I' 12 = I 12) (r3 : I' 13 = I 13) (r4 : I' 85 = I 85) (r5 : I' 86 = I 86) (r6 : I' 87 = I 87) : iTim I' n := by
  unfold iTim at *
  rw [h1, h2, r1, r2, r3, r4, r5, r6]
  refine ⟨h.1, h.2.1, h.2.2.1, fun k hk => ?_, h.2.2.2.2⟩
  obtain ⟨a1, a2, a3, a4, a5, a6, a7, a8, a9⟩ := h.2.2.2.1 k hk
  exact ⟨a1, a2, a3, a4, a5, a6, a7, a8, Int32.le_trans a9 h0⟩
theorem iJnt.fr {I I' : zFI} {n n' jn : Nat} (h : iJnt I n jn) (hn : nI n ≤ nI n') (h0 : I 0 14 ≤ I' 0 14) (h1 : I' 10 4 = I 10 4) (h2 : I' 84 13 = I 84 13) (r1 : I' 14 = I 14) (r2 : I' 15 = I 15) (r3 : I' 16 = I 16) (r4 : I' 17 = I 17) (r5 : I' 18 = I 18) (r6 : I' 94 = I 94) (r7 : I' 95 = I 95) (r8 : I' 96 = I 96) (r9 : I' 97 = I 97) (r10 : I' 98 = I 98) (r11 : I' 88 = I 88) : iJnt I' n' jn := by
  unfold iJnt at *
  rw [h1, h2, r1, r2, r3, r4, r5, r6, r7, r8, r9, r10, r11]
  refine ⟨h.1, h.2.1, h.2.2.1, fun k hk => ?_, h.2.2.2.2⟩
  obtain ⟨a1, a2, a3, a4, a5, a6, a7, a8, a9, a10, a11, a12, a13, a14⟩ := h.2.2.2.1 k hk
  exact ⟨a1, a2, a3, a4, a5, a6, Int32.lt_of_lt_of_le a7 hn, a8, a9, a10, a11, a12, a13, Int32.le_trans a14 h0⟩
theorem iMrk.fr {I I' : zFI} {jn jn' mn : Nat} (h : iMrk I jn mn) (hn : nI jn ≤ nI jn') (h0 : I 0 14 ≤ I' 0 14) (h1 : I' 19 0 = I 19 0) (h2 : I' 84 19 = I 84 19) (r1 : I' 20 = I 20) (r2 : I' 21 = I 21) (r3 : I' 22 = I 22) (r4 : I' 23 = I 23) (r5 : I' 24 = I 24) (r6 : I' 99 = I 99) (r7 : I' 100 = I 100) (r8 : I' 101 = I 101) (r9 : I' 102 = I 102) (r10 : I' 103 = I 103) : iMrk I' jn' mn := by
  unfold iMrk at *
  rw [h1, h2, r1, r2, r3, r4, r5, r6, r7, r8, r9, r10]
  refine ⟨h.1, h.2.1, h.2.2.1, fun k hk => ?_⟩
  obtain ⟨a1, a2, a3, a4, a5, a6, a7, a8, a9⟩ := h.2.2.2 k hk
  exact ⟨a1, a2, a3, a4, a5, Int32.lt_of_lt_of_le a6 hn, a7, Int32.le_trans a8 h0, a9⟩
theorem iShn.fr {I I' : zFI} {mn : Nat} (h : iShn I mn) (h1 : p_X11_lastDaySeen I' = p_X11_lastDaySeen I) (r1 : I' 20 = I 20) (r2 : I' 21 = I 21) (r3 : I' 25 = I 25) : iShn I' mn := by
  unfold iShn at *
  rw [h1, r1, r2, r3]
  exact h
theorem iTap.fr {I I' : zFI} {tl : Nat} (h : iTap I tl) (h1 : I' 1 1 = I 1 1) (h2 : I' 84 26 = I 84 26) (r1 : I' 2 = I 2) (r2 : I' 104 = I 104) : iTap I' tl := by
  unfold iTap at *
  rw [h1, h2, r1, r2]
  exact h
theorem iFlt.fr {I I' : zFI} (h : iFlt I) (h1 : I' 84 36 = I 84 36) (h2 : I' 84 37 = I 84 37) (h3 : I' 3 5 = I 3 5) (h4 : I' 3 6 = I 3 6) : iFlt I' := by
  unfold iFlt at *
  rw [h1, h2, h3, h4]
  exact h
theorem iCus.fr {S : zSh} {I I' : zFI} (h : iCus S I) (hS : zStd S) (r1 : I' 8 = I 8) (r2 : I' 9 = I 9) (r3 : I' 83 = I 83) (r4 : I' 105 = I 105) : iCus S I' := by
  have hr : ∀ r, zCu r → I' r = I r := fun r hr => by rcases hr with rfl | rfl | rfl <;> assumption
  obtain ⟨c0, c1, -⟩ := hS.p3
  unfold iCus iCu1 at *
  rw [hr _ c0, hr _ c1, r4]
  exact h
theorem iRng.fr {I I' : zFI} {n n' : Nat} (h : iRng I n) (h0 : I 0 14 ≤ I' 0 14) (r1 : I' 68 = I 68) (r2 : I' 69 = I 69) (r3 : I' 70 = I 70) (r4 : I' 71 = I 71) (r5 : I' 72 = I 72) (r6 : I' 73 = I 73) (r7 : I' 89 = I 89) (r8 : I' 90 = I 90) (r9 : I' 91 = I 91) (r10 : I' 92 = I 92) (r11 : I' 93 = I 93) (r12 : I' 131 = I 131) (r13 : I' 132 = I 132) : iRng I' n' := by
  unfold iRng at *
  rw [r1, r2, r3, r4, r5, r6, r7, r8, r9, r10, r11, r12, r13]
  refine ⟨h.1, fun t ht => ?_⟩
  obtain ⟨a1, a2, a3, a4, a5, a6, a7, a8, a9⟩ := h.2 t ht
  exact ⟨a1, a2, a3, a4, a5, a6, a7, a8, fun i h1 h2 => by
    obtain ⟨b1, b2, b3, b4, b5, b6⟩ := a9 i h1 h2
    exact ⟨b1, b2, b3, b4, b5, Int32.le_trans b6 h0⟩⟩
theorem iLea.fr {I I' : zFI} {n n' ln : Nat} (h : iLea I n ln) (hn : nI n ≤ nI n') (h0 : I 0 14 ≤ I' 0 14) (h1 : I' 77 0 = I 77 0) (h2 : I' 84 79 = I 84 79) (r1 : I' 78 = I 78) (r2 : I' 79 = I 79) (r3 : I' 80 = I 80) (r4 : I' 81 = I 81) (r5 : I' 134 = I 134) (r6 : I' 135 = I 135) (r7 : I' 136 = I 136) (r8 : I' 137 = I 137) : iLea I' n' ln := by
  unfold iLea at *
  rw [h1, h2, r1, r2, r3, r4, r5, r6, r7, r8]
  refine ⟨h.1, h.2.1, h.2.2.1, fun k hk => ?_⟩
  obtain ⟨a1, a2, a3, a4, a5, a6, a7, a8, a9, a10, a11, a12⟩ := h.2.2.2 k hk
  exact ⟨a1, a2, a3, a4, a5, Int32.lt_of_lt_of_le a6 hn, a7, a8, a9, a10, a11, Int32.le_trans a12 h0⟩
theorem iOut.fr {I I' : zFI} {on : Nat} (h : iOut I on) (h1 : I' 0 12 = I 0 12) (h2 : I' 84 90 = I 84 90) (r1 : I' 82 = I 82) (r2 : I' 138 = I 138) : iOut I' on := by
  unfold iOut at *
  rw [h1, h2, r1, r2]
  exact h
theorem iWrd.fr {I I' : zFI} (h : iWrd I) (r1 : I' 106 = I 106) : iWrd I' := by
  unfold iWrd at *
  rw [r1]
  exact h
