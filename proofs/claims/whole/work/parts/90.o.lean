theorem c_begin {G : Gp} {Q : zPost} {S : zSh} {I : zFI} {L : zFL} {j : Nat} (hS : zStd S) (hj : zJn j)
    (h : ∀ I' L', (∀ b, b ≠ j → b ≠ j + 5 → I' b = I b) → (∀ k, k ≠ 4 → k ≠ 12 → k ≠ 13 → I' j k = I j k) → (∀ x, x < 48 → I' (j + 5) x = -1) → I' j 4 = 0 → I' j 12 = 0 → I' j 13 = 0 → (∀ b, b ≠ j → L' b = L b) → L' j 5 = 0 → L' j 6 = 0 → L' j 7 = 0 → L' j 8 = 0 → Q none S I' L') : ZC G mX4_begin fX4_begin lX4_begin [zo G j] S I L 0 0 Q := by
  refine ZC.of' (vX4_begin_0 hS hj (c_fill hS (hS.hasJ hj 5 (kd := (1, 48)) rfl rfl rfl) (by decide) (fun I1 h1 h2 => ⟨rfl, rfl, ?_⟩))) rfl (Nat.le_of_ble_eq_true rfl) rfl
  refine h _ _ (fun b hb hb5 => ?_) (fun k k4 k12 k13 => ?_) (fun x hx => ?_) ?_ ?_ ?_ (fun b hb => ?_) ?_ ?_ ?_ ?_
  · rw [← u2_row _ _ _ _ hb, ← u2_row _ _ _ _ hb, ← u2_row _ _ _ _ hb]
    exact h1 b hb5
  · rw [u2_ne _ _ _ _ (fun q => k13 q.2), u2_ne _ _ _ _ (fun q => k12 q.2), u2_ne _ _ _ _ (fun q => k4 q.2), h1 j (by omega)]
  · rw [u2_ne _ _ _ _ (by omega), u2_ne _ _ _ _ (by omega), u2_ne _ _ _ _ (by omega)]
    exact h2 x hx
  · rw [u2_ne _ _ _ _ (by omega), u2_ne _ _ _ _ (by omega), u2_same]
  · rw [u2_ne _ _ _ _ (by omega), u2_same]
  · rw [u2_same]
  · rw [← u2_row _ _ _ _ hb, ← u2_row _ _ _ _ hb, ← u2_row _ _ _ _ hb, ← u2_row _ _ _ _ hb]
  · rw [u2_ne _ _ _ _ (by omega), u2_ne _ _ _ _ (by omega), u2_ne _ _ _ _ (by omega), u2_same]
  · rw [u2_ne _ _ _ _ (by omega), u2_ne _ _ _ _ (by omega), u2_same]
  · rw [u2_ne _ _ _ _ (by omega), u2_same]
  · rw [u2_same]
theorem ab576 {a b : Nat} (h : a + b ≤ 48) : a * b ≤ 576 := by
  have : ∀ a : Fin 49, a.1 * (48 - a.1) ≤ 576 := by decide
  have h1 := this ⟨a, by omega⟩
  have h1 : a * (48 - a) ≤ 576 := h1
  exact Nat.le_trans (Nat.mul_le_mul_left a (show b ≤ 48 - a by omega)) h1
theorem share_iff {L : zFL} {j t h : Nat} (ht : t < 48) (hh : h < 48) : p_X4_shareNumber L j (nI t) (nI h) = 0 ↔ L (j + 1) t &&& L (j + 1) h = 0 := by
  unfold p_X4_shareNumber
  rw [if_neg (nI_pos (by omega)), if_neg (show ¬ (48 : Int32) ≤ nI t from nI_ge (b := 48) ht (by omega)), if_neg (nI_pos (by omega)), if_neg (show ¬ (48 : Int32) ≤ nI h from nI_ge (b := 48) hh (by omega)), znIc (by omega), znIc (by omega)]
  by_cases c : lg_cmp (L (j + 1) t &&& L (j + 1) h) 0 = 0
  · rw [if_pos c]
    exact ⟨fun _ => (lg_cmp_eq _ _).mp c, fun _ => rfl⟩
  · rw [if_neg c]
    exact ⟨fun q => absurd q (by decide), fun q => absurd ((lg_cmp_eq _ _).mpr q) c⟩
theorem canFit_rows {I J : zFI} {r : Nat} {a b : Int32} (er : J r = I r) (e14 : J 14 = I 14) (e17 : J 17 = I 17) (e11 : J 11 = I 11) (e22 : J 22 = I 22) (e23 : J 23 = I 23) (e25 : J 25 = I 25) : p_X11_canFit J r a b = p_X11_canFit I r a b := by
  unfold p_X11_canFit p_X10_timberOf p_X10_sizeOf p_X10_kindOf p_X1_goesInto p_X6_signsOn p_X6_sideOf p_X11_pick
  rw [er, e14, e17, e11, e22, e23, e25]
/-- rows and numbers but the arcs are the same -/
def jArcF (I J : zFI) (L M : zFL) (j : Nat) : Prop := (∀ b, b ≠ j → b ≠ j + 2 → b ≠ j + 3 → b ≠ j + 4 → J b = I b) ∧ (∀ k, k ≠ 4 → J j k = I j k) ∧ ∀ b k, ¬ (b = j ∧ (k = 5 ∨ k = 6)) → M b k = L b k
theorem c_addFits {G : Gp} {Q : zPost} {S : zSh} {I : zFI} {L : zFL} {n jn sj j r cc : Nat} {c : Int32} {dl : Nat → Prop} (hS : zStd S) (hc : c = 0 ∨ c = 1) (hjd : zjid c = j) (hrd : zrl S c = r) (hTim : iTim I n) (hJnt : iJnt I n jn) (hCu : iCu1 I r cc) (hsj : sj ≤ jn) (hnum : ∀ x, x < sj → L (j + 1) x = zNm I r (I 25 x)) (hdl : ∀ x, x < sj → (I 32 x = -1 ↔ dl x)) (h4 : I j 4 = 0) (h5 : L j 5 = 0) (h6 : L j 6 = 0)
    (h : ∀ I' L' na aT aH, jArcF I I' L L' j → jSt I' L' j na aT aH (zw I) → (∀ t h, jArc na aT aH t h ↔ zF I r sj dl t h) → (∀ i i', i < i' → i' < na → aT i < aT i' ∨ (aT i = aT i' ∧ aH i < aH i')) → Q none S I' L') : ZC G mX11_addFits fX11_addFits lX11_addFits [zo G 0, .int c, .int (nI sj)] S I L 0 0 Q := by
  obtain ⟨j1, j2, j3, j4, j5, j6⟩ := id hJnt
  have hj : zJn j := by rw [← hjd]; exact zjid_or c
  have hr : zCu r := by rw [← hrd]; exact (hS.rl hc).2
  have jr : j = 27 ∨ j = 35 := hj
  have rr : r = 8 ∨ r = 9 ∨ r = 83 := hr
  have hok := zF_ok (dl := dl) hTim hJnt hCu hsj
  have s01 : ∀ x, x < jn → I 16 x = 0 ∨ I 16 x = 1 := fun x hx => (j4 x hx).2.2.2.2.2.2.2.2.2.1
  have split : ∀ x, x ≤ jn → zcnt (fun y => decide (I 16 y = 0)) x + zcnt (fun y => decide (I 16 y = 1)) x = x := by
    intro x
    induction x with
    | zero => intro _; rfl
    | succ x ih =>
      intro hx
      have := ih (by omega)
      rw [zcnt_succ, zcnt_succ]
      rcases s01 x (by omega) with q | q
      · rw [if_pos (by simp [q]), if_neg (by rw [q]; decide)]
        omega
      · rw [if_neg (by rw [q]; decide), if_pos (by simp [q])]
        omega
  have mono : ∀ (p : Nat → Bool) (a b : Nat), a ≤ b → zcnt p a ≤ zcnt p b := by
    intro p a b hab
    induction b with
    | zero => rw [show a = 0 by omega]; exact Nat.le_refl _
    | succ b ih =>
      rcases (by omega : a ≤ b ∨ a = b + 1) with q | q
      · have := ih q
        rw [zcnt_succ]
        split <;> omega
      · rw [q]
        exact Nat.le_refl _
  generalize hT : zcnt (fun y => decide (I 16 y = 0)) sj = nT
  generalize hH : zcnt (fun y => decide (I 16 y = 1)) sj = nH
  have tot : nT * nH ≤ 576 := ab576 (by have := split sj hsj; omega)
  have inv : ∀ J M, jArcF I J L M j → (J 16 = I 16 ∧ J 17 = I 17 ∧ J 32 = I 32 ∧ (∀ a b, p_X11_canFit J r a b = p_X11_canFit I r a b) ∧ M (j + 1) = L (j + 1)) := fun J M z => by
    obtain ⟨z1, z2, z3⟩ := z
    refine ⟨z1 16 (by omega) (by omega) (by omega) (by omega), z1 17 (by omega) (by omega) (by omega) (by omega), z1 32 (by omega) (by omega) (by omega) (by omega), fun a b => canFit_rows (z1 r (by omega) (by omega) (by omega) (by omega)) (z1 14 (by omega) (by omega) (by omega) (by omega)) (z1 17 (by omega) (by omega) (by omega) (by omega)) (z1 11 (by omega) (by omega) (by omega) (by omega)) (z1 22 (by omega) (by omega) (by omega) (by omega)) (z1 23 (by omega) (by omega) (by omega) (by omega)) (z1 25 (by omega) (by omega) (by omega) (by omega)), ?_⟩
    funext k
    exact z3 _ _ (by omega)
  have P : ∀ (J : zFI) (a k : Nat), k < 48 → p_X11_pick J a 48 (nI k) = J a k := fun J a k hk => pick_in hk (by decide)
  -- the arcs so far: those before (t, h)
  have inner : ∀ (d h' t : Nat) (J : zFI) (M : zFL) (na : Nat) (aT aH : Nat → Nat), h' + d = sj → t < sj → pT I sj 0 dl t → jArcF I J L M j → J j 4 = nI na → na ≤ zcnt (fun y => decide (I 16 y = 0)) t * nH + zcnt (fun y => decide (I 16 y = 1)) h' → (∀ i, i < na → J (j + 2) i = nI (aT i) ∧ J (j + 3) i = nI (aH i) ∧ (J (j + 4) i).toInt = zw I (aT i) (aH i)) → (∀ x, x < 48 → (zhas (M j 5) x ↔ jTn (jArc na aT aH) x) ∧ (zhas (M j 6) x ↔ jHl (jArc na aT aH) x)) →
      (∀ a b, jArc na aT aH a b ↔ zF I r sj dl a b ∧ (a < t ∨ (a = t ∧ b < h'))) → (∀ i i', i < i' → i' < na → aT i < aT i' ∨ (aT i = aT i' ∧ aH i < aH i')) →
      (∀ (J : zFI) (M : zFL) (na : Nat) (aT aH : Nat → Nat), jArcF I J L M j → J j 4 = nI na → na ≤ zcnt (fun y => decide (I 16 y = 0)) (t + 1) * nH → (∀ i, i < na → J (j + 2) i = nI (aT i) ∧ J (j + 3) i = nI (aH i) ∧ (J (j + 4) i).toInt = zw I (aT i) (aH i)) → (∀ x, x < 48 → (zhas (M j 5) x ↔ jTn (jArc na aT aH) x) ∧ (zhas (M j 6) x ↔ jHl (jArc na aT aH) x)) →
        (∀ a b, jArc na aT aH a b ↔ zF I r sj dl a b ∧ a < t + 1) → (∀ i i', i < i' → i' < na → aT i < aT i' ∨ (aT i = aT i' ∧ aH i < aH i')) → ZW G mX11_addFits fX11_addFits lX11_addFits 10 [zo G 0, .int c, .int (nI sj), zo G j, .int (nI t + 1), .null] [] S J M 0 0 Q) →
      ZW G mX11_addFits fX11_addFits lX11_addFits 49 [zo G 0, .int c, .int (nI sj), zo G j, .int (nI t), .int (nI h')] [] S J M 0 0 Q := by
    intro d
    induction d with
    | zero =>
      intro h' t J M na aT aH hh ht tt z e4 cnt l1 l2 l3 l4 nxt
      have : sj = h' := by omega
      subst this
      have hv := vX11_addFits_49 (G := G) (S := S) (I := J) (L := M) (Q := Q) (bc := 0) (bs := 0) (v1 := c) (v2 := nI sj) (v4 := nI t) (v5 := nI sj) hS
      rw [hjd] at hv
      refine hv ⟨fun _ => nxt J M na aT aH z e4 ?_ l1 l2 (fun a b => (l3 a b).trans ⟨fun y => ⟨y.1, by omega⟩, fun y => ⟨y.1, ?_⟩⟩) l4, fun hc2 => absurd (Int32.le_refl _) hc2⟩
      · rw [zcnt_succ, if_pos (by simp [tt.2.1]), Nat.add_mul, Nat.one_mul]
        omega
      · have := y.1.2.1.1
        omega
    | succ d ih =>
      intro h' t J M na aT aH hh ht tt z e4 cnt l1 l2 l3 l4 nxt
      obtain ⟨i16, i17, i32, icf, iM⟩ := inv J M z
      have hv := vX11_addFits_49 (G := G) (S := S) (I := J) (L := M) (Q := Q) (bc := 0) (bs := 0) (v1 := c) (v2 := nI sj) (v4 := nI t) (v5 := nI h') hS
      rw [hjd, hrd] at hv
      have skip : ¬ zF I r sj dl t h' → ZW G mX11_addFits fX11_addFits lX11_addFits 49 [zo G 0, .int c, .int (nI sj), zo G j, .int (nI t), .int (nI h' + 1)] [] S J M 0 0 Q := fun no => by
        rw [nI_1]
        refine ih (h' + 1) t J M na aT aH (by omega) ht tt z e4 (Nat.le_trans cnt (by have := mono (fun y => decide (I 16 y = 1)) h' (h' + 1) (by omega); omega)) l1 l2 (fun a b => (l3 a b).trans ⟨fun y => ⟨y.1, by omega⟩, fun y => ⟨y.1, ?_⟩⟩) l4 nxt
        rcases y.2 with w | ⟨w1, w2⟩
        · exact Or.inl w
        · rcases (by omega : b < h' ∨ b = h') with v | v
          · exact Or.inr ⟨w1, v⟩
          · rw [w1, v] at y
            exact absurd y.1 no
      refine hv ⟨fun hc2 => absurd hc2 (nI_ge (by omega) (by omega)), fun _ => ?_⟩
      have sv : p_X10_sortOf J (nI h') = I 16 h' := by unfold p_X10_sortOf; rw [P J 16 h' (by omega), i16]
      have pv : p_X4_partnerOf J 27 (nI h') = I 32 h' := by unfold p_X4_partnerOf; rw [P J (27 + 5) h' (by omega), i32]
      have zt : p_X10_sizeOf J (nI t) = I 17 t := by unfold p_X10_sizeOf; rw [P J 17 t (by omega), i17]
      have zh : p_X10_sizeOf J (nI h') = I 17 h' := by unfold p_X10_sizeOf; rw [P J 17 h' (by omega), i17]
      rw [sv, pv, share_iff (by omega) (by omega), icf, zt, zh, iM, hnum t ht, hnum h' (by omega)]
      refine ⟨fun y => skip (fun w => y w.2.1.2.1), fun y => ⟨fun y2 => skip (fun w => y2 ((hdl h' (by omega)).mpr w.2.1.2.2)), fun y2 => ⟨fun y3 => skip (fun w => w.2.2.1 y3), fun y3 => ⟨hc, fun y4 => skip (fun w => w.2.2.2 y4), fun y4 => ?_⟩⟩⟩⟩
      have fit : zF I r sj dl t h' := ⟨tt, ⟨by omega, y, (hdl h' (by omega)).mp y2⟩, y3, y4⟩
      have ww := zFt_w hTim hJnt hCu (by omega) (by omega) fit.2.2
      have na576 : na < 576 := by
        have m1 := mono (fun y => decide (I 16 y = 0)) (t + 1) sj (by omega)
        have m2 := mono (fun y => decide (I 16 y = 1)) (h' + 1) sj (by omega)
        rw [zcnt_succ, if_pos (by simp [tt.2.1]), hT] at m1
        rw [zcnt_succ, if_pos (by simp [y]), hH] at m2
        have := Nat.mul_le_mul_right nH m1
        rw [Nat.add_mul, Nat.one_mul] at this
        omega
      refine ZC.of' (vX4_addArc_0 hS hj ?_) rfl (Nat.le_of_ble_eq_true rfl) rfl
      rw [e4, znIc (show na < 2147483648 by omega)]
      have q1 : (u2 J (j + 2) na (nI t)) j 4 = nI na := by rw [u2_ne _ _ _ _ (by omega)]; exact e4
      rw [q1, znIc (show na < 2147483648 by omega)]
      have q2 : (u2 (u2 J (j + 2) na (nI t)) (j + 3) na (nI h')) j 4 = nI na := by rw [u2_ne _ _ _ _ (by omega)]; exact q1
      rw [q2, znIc (show na < 2147483648 by omega)]
      have q3 : (u2 (u2 (u2 J (j + 2) na (nI t)) (j + 3) na (nI h')) (j + 4) na (I 17 h' - I 17 t)) j 4 = nI na := by rw [u2_ne _ _ _ _ (by omega)]; exact q2
      rw [q3, nI_1, nI_1]
      have q4 : (u2 M j 5 (M j 5 ||| 1 <<< ((nI t).toInt64 &&& 63))) j 6 = M j 6 := u2_ne _ _ _ _ (by omega)
      rw [q4]
      refine ⟨fun w => absurd w (show ¬ nI 576 ≤ nI na from nI_ge na576 (by omega)), fun _ => ⟨fun w => absurd w (nI_pos (by omega)), fun _ => ⟨fun w => absurd w (show ¬ nI 48 ≤ nI t from nI_ge (by omega) (by omega)), fun _ => ⟨fun w => absurd w (nI_pos (by omega)), fun _ => ⟨fun _ => ⟨znIin (by omega) (by decide), znIin (by omega) (by decide), znIin (by omega) (by decide), rfl, rfl, ?_⟩, fun w => absurd (show nI h' < nI 48 from nI_lt (by omega) (by omega)) w⟩⟩⟩⟩⟩
      have arc : ∀ a b, jArc (na + 1) (fun i => if i = na then t else aT i) (fun i => if i = na then h' else aH i) a b ↔ jArc na aT aH a b ∨ (a = t ∧ b = h') := fun a b => by
        constructor
        · rintro ⟨i, i1, i2, i3⟩
          by_cases w : i = na
          · have i2 : (if i = na then t else aT i) = a := i2
            have i3 : (if i = na then h' else aH i) = b := i3
            rw [if_pos w] at i2 i3
            exact Or.inr ⟨i2.symm, i3.symm⟩
          · have i2 : (if i = na then t else aT i) = a := i2
            have i3 : (if i = na then h' else aH i) = b := i3
            rw [if_neg w] at i2 i3
            exact Or.inl ⟨i, by omega, i2, i3⟩
        · rintro (⟨i, i1, i2, i3⟩ | ⟨w1, w2⟩)
          · refine ⟨i, by omega, ?_, ?_⟩
            · show (if i = na then t else aT i) = a
              rw [if_neg (by omega)]
              exact i2
            · show (if i = na then h' else aH i) = b
              rw [if_neg (by omega)]
              exact i3
          · refine ⟨na, by omega, ?_, ?_⟩
            · show (if na = na then t else aT na) = a
              rw [if_pos rfl, w1]
            · show (if na = na then h' else aH na) = b
              rw [if_pos rfl, w2]
      refine ih (h' + 1) t _ _ (na + 1) (fun i => if i = na then t else aT i) (fun i => if i = na then h' else aH i) (by omega) ht tt ⟨fun b b0 b2 b3 b4 => ?_, fun k k4 => ?_, fun b k hbk => ?_⟩ (u2_same _ _ _ _) ?_ (fun i hi => ?_) (fun x hx => ?_) (fun a b => ?_) (fun i i' hi hi' => ?_) nxt
      · rw [← u2_row _ _ _ _ b0, ← u2_row _ _ _ _ b4, ← u2_row _ _ _ _ b3, ← u2_row _ _ _ _ b2]
        exact z.1 b b0 b2 b3 b4
      · rw [u2_ne _ _ _ _ (fun w => k4 w.2), u2_ne _ _ _ _ (by omega), u2_ne _ _ _ _ (by omega), u2_ne _ _ _ _ (by omega)]
        exact z.2.1 k k4
      · rw [u2_ne _ _ _ _ (fun w => hbk ⟨w.1, Or.inr w.2⟩), u2_ne _ _ _ _ (fun w => hbk ⟨w.1, Or.inl w.2⟩)]
        exact z.2.2 b k hbk
      · rw [zcnt_succ (fun y => decide (I 16 y = 1)), if_pos (by simp [y])]
        omega
      · by_cases w : i = na
        · rw [w, u2_ne _ _ _ _ (by omega), u2_ne _ _ _ _ (by omega), u2_ne _ _ _ _ (by omega), u2_same, u2_ne _ _ _ _ (by omega), u2_ne _ _ _ _ (by omega), u2_same, u2_ne _ _ _ _ (by omega), u2_same]
          show nI t = nI (if na = na then t else aT na) ∧ nI h' = nI (if na = na then h' else aH na) ∧ (I 17 h' - I 17 t).toInt = zw I (if na = na then t else aT na) (if na = na then h' else aH na)
          rw [if_pos rfl, if_pos rfl]
          exact ⟨rfl, rfl, ww.2.2⟩
        · rw [u2_ne _ _ _ _ (by omega), u2_ne _ _ _ _ (by omega), u2_ne _ _ _ _ (by omega), u2_ne _ _ _ _ (fun v => w v.2), u2_ne _ _ _ _ (by omega), u2_ne _ _ _ _ (by omega), u2_ne _ _ _ _ (fun v => w v.2), u2_ne _ _ _ _ (by omega), u2_ne _ _ _ _ (by omega), u2_ne _ _ _ _ (fun v => w v.2), u2_ne _ _ _ _ (by omega), u2_ne _ _ _ _ (by omega)]
          show J (j + 2) i = nI (if i = na then t else aT i) ∧ J (j + 3) i = nI (if i = na then h' else aH i) ∧ (J (j + 4) i).toInt = zw I (if i = na then t else aT i) (if i = na then h' else aH i)
          rw [if_neg w, if_neg w]
          exact l1 i (by omega)
      · obtain ⟨w1, w2⟩ := l2 x hx
        rw [u2_ne _ _ _ _ (by omega), u2_same, u2_same]
        constructor
        · refine (zhas_or (m := t) (by omega) (by omega)).trans ?_
          rw [w1]
          constructor
          · rintro (⟨b, hb⟩ | v)
            · exact ⟨b, (arc x b).mpr (Or.inl hb)⟩
            · exact ⟨h', (arc x h').mpr (Or.inr ⟨v, rfl⟩)⟩
          · rintro ⟨b, hb⟩
            rcases (arc x b).mp hb with v | v
            · exact Or.inl ⟨b, v⟩
            · exact Or.inr v.1
        · refine (zhas_or (m := h') (by omega) (by omega)).trans ?_
          rw [w2]
          constructor
          · rintro (⟨b, hb⟩ | v)
            · exact ⟨b, (arc b x).mpr (Or.inl hb)⟩
            · exact ⟨t, (arc t x).mpr (Or.inr ⟨rfl, v⟩)⟩
          · rintro ⟨b, hb⟩
            rcases (arc b x).mp hb with v | v
            · exact Or.inl ⟨b, v⟩
            · exact Or.inr v.2
      · rw [arc, l3 a b]
        constructor
        · rintro (v | ⟨v1, v2⟩)
          · exact ⟨v.1, by omega⟩
          · rw [v1, v2]
            exact ⟨fit, by omega⟩
        · rintro ⟨v1, v2⟩
          rcases (by omega : (a < t ∨ (a = t ∧ b < h')) ∨ (a = t ∧ b = h')) with v | v
          · exact Or.inl ⟨v1, v⟩
          · exact Or.inr v
      · show (if i = na then t else aT i) < (if i' = na then t else aT i') ∨ ((if i = na then t else aT i) = (if i' = na then t else aT i') ∧ (if i = na then h' else aH i) < (if i' = na then h' else aH i'))
        rw [if_neg (show ¬ i = na by omega), if_neg (show ¬ i = na by omega)]
        by_cases w : i' = na
        · rw [if_pos w, if_pos w]
          have := ((l3 (aT i) (aH i)).mp ⟨i, by omega, rfl, rfl⟩).2
          omega
        · rw [if_neg w, if_neg w]
          exact l4 i i' hi (by omega)
  have outer : ∀ (d t : Nat) (J : zFI) (M : zFL) (na : Nat) (aT aH : Nat → Nat), t + d = sj → jArcF I J L M j → J j 4 = nI na → na ≤ zcnt (fun y => decide (I 16 y = 0)) t * nH → (∀ i, i < na → J (j + 2) i = nI (aT i) ∧ J (j + 3) i = nI (aH i) ∧ (J (j + 4) i).toInt = zw I (aT i) (aH i)) → (∀ x, x < 48 → (zhas (M j 5) x ↔ jTn (jArc na aT aH) x) ∧ (zhas (M j 6) x ↔ jHl (jArc na aT aH) x)) →
      (∀ a b, jArc na aT aH a b ↔ zF I r sj dl a b ∧ a < t) → (∀ i i', i < i' → i' < na → aT i < aT i' ∨ (aT i = aT i' ∧ aH i < aH i')) → ZW G mX11_addFits fX11_addFits lX11_addFits 10 [zo G 0, .int c, .int (nI sj), zo G j, .int (nI t), .null] [] S J M 0 0 Q := by
    intro d
    induction d with
    | zero =>
      intro t J M na aT aH hh z e4 cnt l1 l2 l3 l4
      have : sj = t := by omega
      subst this
      have hv := vX11_addFits_10 (G := G) (S := S) (I := J) (L := M) (Q := Q) (bc := 0) (bs := 0) (v1 := c) (v2 := nI sj) (v4 := nI sj) hS
      rw [hjd] at hv
      have all : ∀ a b, jArc na aT aH a b ↔ zF I r sj dl a b := fun a b => (l3 a b).trans ⟨fun y => y.1, fun y => ⟨y, y.1.1⟩⟩
      refine hv ⟨fun _ => h J M na aT aH z ⟨e4, ?_, l1, l2, ?_⟩ all l4, fun hc2 => absurd (Int32.le_refl _) hc2⟩
      · rw [hT] at cnt
        omega
      · exact jOk_sub hok (fun a b y => (all a b).mp y)
    | succ d ih =>
      intro t J M na aT aH hh z e4 cnt l1 l2 l3 l4
      obtain ⟨i16, i17, i32, icf, iM⟩ := inv J M z
      have hv := vX11_addFits_10 (G := G) (S := S) (I := J) (L := M) (Q := Q) (bc := 0) (bs := 0) (v1 := c) (v2 := nI sj) (v4 := nI t) hS
      rw [hjd] at hv
      have skip : ¬ pT I sj 0 dl t → ZW G mX11_addFits fX11_addFits lX11_addFits 10 [zo G 0, .int c, .int (nI sj), zo G j, .int (nI t + 1), .null] [] S J M 0 0 Q := fun no => by
        rw [nI_1]
        refine ih (t + 1) J M na aT aH (by omega) z e4 (Nat.le_trans cnt (Nat.mul_le_mul_right _ (mono _ _ _ (by omega)))) l1 l2 (fun a b => (l3 a b).trans ⟨fun y => ⟨y.1, by omega⟩, fun y => ⟨y.1, ?_⟩⟩) l4
        rcases (by omega : a < t ∨ a = t) with v | v
        · exact v
        · rw [v] at y
          exact absurd y.1.1 no
      have sv : p_X10_sortOf J (nI t) = I 16 t := by unfold p_X10_sortOf; rw [P J 16 t (by omega), i16]
      have pv : p_X4_partnerOf J 27 (nI t) = I 32 t := by unfold p_X4_partnerOf; rw [P J (27 + 5) t (by omega), i32]
      rw [sv, pv] at hv
      refine hv ⟨fun hc2 => absurd hc2 (nI_ge (by omega) (by omega)), fun _ => ⟨fun y => skip (fun w => y w.2.1), fun y => ⟨fun y2 => ?_, fun y2 => skip (fun w => y2 ((hdl t (by omega)).mpr w.2.2))⟩⟩⟩
      have tt : pT I sj 0 dl t := ⟨by omega, y, (hdl t (by omega)).mp y2⟩
      refine inner sj 0 t J M na aT aH (by omega) (by omega) tt z e4 cnt l1 l2 (fun a b => (l3 a b).trans ⟨fun y => ⟨y.1, by omega⟩, fun y => ⟨y.1, by omega⟩⟩) l4 (fun J' M' na' aT' aH' b1 b2 b3 b4 b5 b6 b7 => ?_)
      rw [nI_1]
      exact ih (t + 1) J' M' na' aT' aH' (by omega) b1 b2 b3 b4 b5 b6 b7
  have hv := vX11_addFits_0 (G := G) (S := S) (I := I) (L := L) (Q := Q) (bc := 0) (bs := 0) (v1 := c) (v2 := nI sj) hS
  rw [hjd] at hv
  refine ZC.of' (hv ⟨hc, outer sj 0 I L 0 (fun _ => 0) (fun _ => 0) (by omega) ⟨fun _ _ _ _ _ => rfl, fun _ _ => rfl, fun _ _ _ => rfl⟩ (by rw [h4]; rfl) (by omega) (fun i hi => absurd hi (Nat.not_lt_zero _)) (fun x hx => ?_) (fun a b => ⟨?_, fun y => absurd y.2 (Nat.not_lt_zero _)⟩) (fun i i' _ hi => absurd hi (Nat.not_lt_zero _))⟩) rfl (Nat.le_of_ble_eq_true rfl) rfl
  · rw [h5, h6]
    constructor
    · refine ⟨fun y => absurd y (zhas_0 x), ?_⟩
      rintro ⟨b, i, i1, -⟩
      exact absurd i1 (Nat.not_lt_zero _)
    · refine ⟨fun y => absurd y (zhas_0 x), ?_⟩
      rintro ⟨b, i, i1, -⟩
      exact absurd i1 (Nat.not_lt_zero _)
  · rintro ⟨i, i1, -⟩
    exact absurd i1 (Nat.not_lt_zero _)
