/-- the class's tape -/
def zTp (I : zFI) (T : Nat → Int32) (tl : Nat) : Prop := I 1 1 = nI tl ∧ zTx T tl ∧ ∀ k, k < tl → I 2 k = T k
theorem by_at {I : zFI} {T : Nat → Int32} {tl k : Nat} (h : zTp I T tl) (hk : k < 2147483648) : p_X9_byteAt I (nI k) = T k := by
  obtain ⟨h1, ⟨h2, h3, h4⟩, h5⟩ := h
  unfold p_X9_byteAt
  rw [if_neg (nI_pos hk), h1]
  by_cases c : k < tl
  · rw [if_neg (nI_ge c (by omega)), if_neg (show ¬ (800 : Int32) ≤ nI k from nI_ge (b := 800) (by omega) (by omega)), znIc hk, h5 k c]
  · rw [if_pos (nI_le (by omega) (by omega)), h4 k (by omega)]
theorem c_isWord {G : Gp} {Q : zPost} {S : zSh} {I : zFI} {L : zFL} {T : Nat → Int32} {tl w a b : Nat} (hS : zStd S) (hw : w < 18) (h : zTp I T tl) (hb : b ≤ tl) (ha : a ≤ tl) (q : ∀ x : Int32, (x = 0 ∨ x = 1) → (x = 1 ↔ ∀ i, i < 6 → zKc (zQs w) i = zGot T a b i) → Q (some (.int x)) S I L) : ZC G mX2_isWord fX2_isWord lX2_isWord [.int (nI w), zo G 1, .int (nI a), .int (nI b)] S I L 0 0 Q := by
  have t800 : tl ≤ 800 := h.2.1.1
  have l107 : zLn_ 0 = 107 := rfl
  have want : ∀ v : Fin 18, ∀ i : Fin 6, (if v.1 * 6 + i.1 < 107 then zCh 0 (v.1 * 6 + i.1) else 32) = zKc (zQs v.1) i.1 := by decide +kernel
  have main : ∀ (d i : Nat), i + d = 6 → (∀ j, j < i → zKc (zQs w) j = zGot T a b j) → ZW G mX2_isWord fX2_isWord lX2_isWord 3 [.int (nI w), zo G 1, .int (nI a), .int (nI b), .int (nI i), .null, .null, .null] [] S I L 0 0 Q := by
    intro d
    induction d with
    | zero =>
      intro i hi hj
      rw [show i = 6 by omega] at hj ⊢
      refine zr_iload dX2_isWord_3 rfl ?_
      refine zr_bipush (v := 6) dX2_isWord_5 (by decide) ?_
      refine zr_icge (tgt := 81) dX2_isWord_7 (by decide) (fun _ => ?_) (fun hb => absurd (Int32.le_refl _) hb)
      refine zr_iconst (v := 1) dX2_isWord_81 (by decide) ?_
      exact zr_ireturn dX2_isWord_82 rfl rfl (q 1 (Or.inr rfl) ⟨fun _ => hj, fun _ => rfl⟩)
    | succ d ih =>
      intro i hi hj
      have e : nI w * 6 + nI i = nI (w * 6 + i) := by
        rw [show (6 : Int32) = nI 6 from rfl, pk_mul, nI_add]
      have ea : nI a + nI i = nI (a + i) := nI_add _ _
      have wt := want ⟨w, hw⟩ ⟨i, by omega⟩
      have wt : (if w * 6 + i < 107 then zCh 0 (w * 6 + i) else 32) = zKc (zQs w) i := wt
      refine zr_iload dX2_isWord_3 rfl ?_
      refine zr_bipush (v := 6) dX2_isWord_5 (by decide) ?_
      refine zr_icge (tgt := 81) dX2_isWord_7 (by decide) (fun hb => absurd hb (nI_ge (b := 6) (by omega) (by omega))) (fun _ => ?_)
      refine zr_iload_n dX2_isWord_10 rfl rfl ?_
      refine zr_bipush (v := 6) dX2_isWord_11 (by decide) ?_
      refine zr_imul dX2_isWord_13 ?_
      refine zr_iload dX2_isWord_14 rfl ?_
      refine zr_iadd dX2_isWord_16 ?_
      rw [e]
      refine zr_istore (vs' := [.int (nI w), zo G 1, .int (nI a), .int (nI b), .int (nI i), .int (nI (w * 6 + i)), .null, .null]) dX2_isWord_17 (Nat.le_of_ble_eq_true rfl) rfl ?_
      refine zr_iload dX2_isWord_19 rfl ?_
      refine zr_ldc0 dX2_isWord_21 rfl ?_
      refine zr_callK (i := 0) (As := []) (rest := [.int (nI (w * 6 + i))]) (fr' := fJ0_length_8abf5) (lo' := lJ0_length_8abf5) (bc' := 0) (bs' := 0) (bcr := 0) (bsr := 0) dX2_isWord_23 zs_X2_165 zi_J0_length_8abf5 rfl (by omega) rfl rfl (Nat.le_of_ble_eq_true rfl) (Nat.le_of_ble_eq_true rfl) (Nat.le_of_ble_eq_true rfl) (Nat.le_refl _) (Nat.le_refl _) ?_
      refine c_strlen (by omega) ?_
      show ZW G mX2_isWord fX2_isWord lX2_isWord 26 [.int (nI w), zo G 1, .int (nI a), .int (nI b), .int (nI i), .int (nI (w * 6 + i)), .null, .null] [.int (nI (zLn_ 0)), .int (nI (w * 6 + i))] S I L 0 0 Q
      rw [l107]
      -- behind 'wanted'
      have k2 : ZW G mX2_isWord fX2_isWord lX2_isWord 41 [.int (nI w), zo G 1, .int (nI a), .int (nI b), .int (nI i), .int (nI (w * 6 + i)), .null, .null] [.int (zKc (zQs w) i)] S I L 0 0 Q := by
        refine zr_istore (vs' := [.int (nI w), zo G 1, .int (nI a), .int (nI b), .int (nI i), .int (nI (w * 6 + i)), .int (zKc (zQs w) i), .null]) dX2_isWord_41 (Nat.le_of_ble_eq_true rfl) rfl ?_
        refine zr_iload_n dX2_isWord_43 rfl rfl ?_
        refine zr_iload dX2_isWord_44 rfl ?_
        refine zr_iadd dX2_isWord_46 ?_
        rw [ea]
        refine zr_iload_n dX2_isWord_47 rfl rfl ?_
        have k3 : ZW G mX2_isWord fX2_isWord lX2_isWord 64 [.int (nI w), zo G 1, .int (nI a), .int (nI b), .int (nI i), .int (nI (w * 6 + i)), .int (zKc (zQs w) i), .null] [.int (zGot T a b i)] S I L 0 0 Q := by
          refine zr_istore (vs' := [.int (nI w), zo G 1, .int (nI a), .int (nI b), .int (nI i), .int (nI (w * 6 + i)), .int (zKc (zQs w) i), .int (zGot T a b i)]) dX2_isWord_64 (Nat.le_of_ble_eq_true rfl) rfl ?_
          refine zr_iload dX2_isWord_66 rfl ?_
          refine zr_iload dX2_isWord_68 rfl ?_
          refine zr_iceq (tgt := 75) dX2_isWord_70 (by decide) (fun e => ?_) (fun ne => ?_)
          · refine zr_iinc (v := nI (i + 1)) dX2_isWord_75 rfl (nI_1 i) (Nat.le_of_ble_eq_true rfl) rfl ?_
            refine zr_goto (tgt := 3) dX2_isWord_78 (by decide) ?_
            refine zr_mask [true, true, true, true, true, false, false, false] rfl ?_
            refine ih (i + 1) (by omega) (fun j hj' => ?_)
            rcases (by omega : j < i ∨ j = i) with c | c
            · exact hj j c
            · rw [c]; exact e
          · refine zr_iconst (v := 0) dX2_isWord_73 (by decide) ?_
            exact zr_ireturn dX2_isWord_74 rfl rfl (q 0 (Or.inl rfl) ⟨fun y => absurd y (by decide), fun y => absurd (y i (by omega)) ne⟩)
        refine zr_icge (tgt := 62) dX2_isWord_48 (by decide) (fun hb => ?_) (fun hb => ?_)
        · rw [zle, znI (by omega), znI (by omega)] at hb
          refine zr_bipush (v := 32) dX2_isWord_62 (by decide) ?_
          have g : zGot T a b i = 32 := if_neg (by omega)
          rw [g] at k3
          exact k3
        · rw [zle, znI (by omega), znI (by omega)] at hb
          refine zr_aload_n dX2_isWord_51 rfl rfl ?_
          refine zr_iload_n dX2_isWord_52 rfl rfl ?_
          refine zr_iload dX2_isWord_53 rfl ?_
          refine zr_iadd dX2_isWord_55 ?_
          rw [ea]
          refine zr_callV (As := [.int (nI (a + i))]) (fr' := fX9_byteAt) (lo' := lX9_byteAt) (bc' := 0) (bs' := 0) (bcr := 0) (bsr := 0) dX2_isWord_56 zs_X2_131 zi_X9_byteAt zcl_9 (hS.has (a := 1) rfl rfl) rfl rfl (Nat.le_of_ble_eq_true rfl) (Nat.le_of_ble_eq_true rfl) (Nat.le_of_ble_eq_true rfl) (Nat.le_refl _) (Nat.le_refl _) ?_
          refine sp_X9_byteAt hS ?_
          show ZW G mX2_isWord fX2_isWord lX2_isWord 59 [.int (nI w), zo G 1, .int (nI a), .int (nI b), .int (nI i), .int (nI (w * 6 + i)), .int (zKc (zQs w) i), .null] [.int (p_X9_byteAt I (nI (a + i)))] S I L 0 0 Q
          rw [by_at h (by omega)]
          refine zr_goto (tgt := 64) dX2_isWord_59 (by decide) ?_
          have g : zGot T a b i = T (a + i) := if_pos (by omega)
          rw [g] at k3
          exact k3
      refine zr_icge (tgt := 39) dX2_isWord_26 (by decide) (fun hb => ?_) (fun hb => ?_)
      · have hb : nI 107 ≤ nI (w * 6 + i) := hb
        rw [zle, znI (by omega), znI (by omega)] at hb
        rw [if_neg (by omega)] at wt
        refine zr_bipush (v := 32) dX2_isWord_39 (by decide) ?_
        rw [← wt] at k2
        exact k2
      · have hb : ¬ nI 107 ≤ nI (w * 6 + i) := hb
        rw [zle, znI (by omega), znI (by omega)] at hb
        rw [if_pos (by omega)] at wt
        refine zr_ldc0 dX2_isWord_29 rfl ?_
        refine zr_iload dX2_isWord_31 rfl ?_
        refine zr_callK (i := 0) (As := [.int (nI (w * 6 + i))]) (rest := []) (fr' := fJ0_charAt_5068e) (lo' := lJ0_charAt_5068e) (bc' := 0) (bs' := 0) (bcr := 0) (bsr := 0) dX2_isWord_33 zs_X2_170 zi_J0_charAt_5068e rfl (by omega) rfl rfl (Nat.le_of_ble_eq_true rfl) (Nat.le_of_ble_eq_true rfl) (Nat.le_of_ble_eq_true rfl) (Nat.le_refl _) (Nat.le_refl _) ?_
        refine c_charAt (by omega) (by rw [l107]; omega) ?_
        show ZW G mX2_isWord fX2_isWord lX2_isWord 36 [.int (nI w), zo G 1, .int (nI a), .int (nI b), .int (nI i), .int (nI (w * 6 + i)), .null, .null] [.int (zCh 0 (w * 6 + i))] S I L 0 0 Q
        refine zr_goto (tgt := 41) dX2_isWord_36 (by decide) ?_
        rw [wt]
        exact k2
  refine ZC.of' (vs := [.int (nI w), zo G 1, .int (nI a), .int (nI b), .null, .null, .null, .null]) ?_ rfl (Nat.le_of_ble_eq_true rfl) rfl
  refine zr_iconst (v := 0) dX2_isWord_0 (by decide) ?_
  refine zr_istore (vs' := [.int (nI w), zo G 1, .int (nI a), .int (nI b), .int (nI 0), .null, .null, .null]) dX2_isWord_1 (Nat.le_of_ble_eq_true rfl) rfl ?_
  exact main 6 0 (by omega) (fun j hj => absurd hj (Nat.not_lt_zero _))
theorem c_wordNumber {G : Gp} {Q : zPost} {S : zSh} {I : zFI} {L : zFL} {T : Nat → Int32} {tl a b : Nat} (hS : zStd S) (h : zTp I T tl) (hab : a ≤ b) (hb : b ≤ tl) (q : ∀ x : Int32, (x = -1 ∧ zWd T a b = -1) ∨ (∃ k, k < 18 ∧ zWd T a b = nI k ∧ x = nI (zPs k)) → Q (some (.int x)) S I L) : ZC G mX2_wordNumber fX2_wordNumber lX2_wordNumber [zo G 1, .int (nI a), .int (nI b)] S I L 0 0 Q := by
  have t800 : tl ≤ 800 := h.2.1.1
  have q18 : ∀ w : Fin 18, zQs w.1 < 18 ∧ zPs (zQs w.1) = w.1 := by decide +kernel
  have p18 : ∀ k : Fin 18, zPs k.1 < 18 ∧ zQs (zPs k.1) = k.1 := by decide +kernel
  have main : ∀ (d w : Nat), w + d = 18 → b ≤ a + 6 → (∀ v, v < w → ¬ zmw T a b (zQs v)) → ZW G mX2_wordNumber fX2_wordNumber lX2_wordNumber 12 [zo G 1, .int (nI a), .int (nI b), .int (nI w)] [] S I L 0 0 Q := by
    intro d
    induction d with
    | zero =>
      intro w hw h6 no
      rw [show w = 18 by omega] at no ⊢
      refine vX2_wordNumber_12 hS ⟨fun _ => q (-1) (Or.inl ⟨rfl, zWd_no (fun k hk m => no (zPs k) (p18 ⟨k, hk⟩).1 ?_)⟩), fun no => absurd (Int32.le_refl _) no⟩
      rw [(p18 ⟨k, hk⟩).2]
      exact m
    | succ d ih =>
      intro w hw h6 no
      refine vX2_wordNumber_12 hS ⟨fun hb => absurd hb (nI_ge (b := 18) (by omega) (by omega)), fun _ => c_isWord hS (by omega) h hb (by omega) (fun x x01 hx => ⟨x, rfl, rfl, fun x0 => ?_, fun x1 => ?_⟩)⟩
      · rw [nI_1]
        refine ih (w + 1) (by omega) h6 (fun v hv m => ?_)
        rcases (by omega : v < w ∨ v = w) with c | c
        · exact no v c m
        · rw [c] at m
          have := hx.mpr m.2
          rw [x0] at this
          exact absurd this (by decide)
      · have m : zmw T a b (zQs w) := ⟨h6, hx.mp (x01.resolve_left x1)⟩
        have := q18 ⟨w, by omega⟩
        exact q _ (Or.inr ⟨zQs w, this.1, zWd_eq this.1 m, by rw [this.2]⟩)
  have e : (nI b - nI a).toInt = (b : Int) - (a : Int) := by
    rw [zsub (by rw [znI (by omega), znI (by omega)]; omega) (by rw [znI (by omega), znI (by omega)]; omega), znI (by omega), znI (by omega)]
  refine ZC.of' (vX2_wordNumber_0 hS ⟨fun c => ?_, fun c => ?_⟩) rfl (Nat.le_of_ble_eq_true rfl) rfl
  · rw [zle, e, show (6 : Int32).toInt = 6 from rfl] at c
    exact main 18 0 (by omega) (by omega) (fun v hv => absurd hv (Nat.not_lt_zero _))
  · rw [zle, e, show (6 : Int32).toInt = 6 from rfl] at c
    refine q (-1) (Or.inl ⟨rfl, zWd_no (fun k hk m => ?_)⟩)
    have := m.1
    omega
theorem c_endL {G : Gp} {Q : zPost} {S : zSh} {I : zFI} {L : zFL} {T : Nat → Int32} {tl a : Nat} (hS : zStd S) (h : zTp I T tl) (ha : a ≤ tl) (hl : zLe T a) (q : Q (some (.int (nI (zE (zLe T) a)))) S I L) : ZC G mX2_endOfLetters fX2_endOfLetters lX2_endOfLetters [zo G 1, .int (nI a)] S I L 0 0 Q := by
  have t800 : tl ≤ 800 := h.2.1.1
  obtain ⟨b1, b2, b3, b4⟩ := zE_bound h.2.1 (fun k => le_no (T := T) (k := k)) ha
  have main : ∀ (d i : Nat), i + d = zE (zLe T) a → a ≤ i → ZW G mX2_endOfLetters fX2_endOfLetters lX2_endOfLetters 4 [zo G 1, .int (nI a), .int (nI i)] [] S I L 0 0 Q := by
    intro d
    induction d with
    | zero =>
      intro i hi ai
      rw [show i = zE (zLe T) a by omega]
      refine vX2_endOfLetters_4 hS ⟨fun _ => q, fun _ => ⟨fun _ => q, fun y => ?_⟩⟩
      rw [by_at h (by omega)] at y
      exact absurd y b3
    | succ d ih =>
      intro i hi ai
      have li := b4 i ai (by omega)
      refine vX2_endOfLetters_4 hS ⟨fun c => ?_, fun _ => ⟨fun y => ?_, fun _ => ?_⟩⟩
      · have c : I 1 1 ≤ nI i := c
        rw [h.1, zle, znI (by omega), znI (by omega)] at c
        omega
      · rw [by_at h (by omega)] at y
        exact absurd y li
      · rw [nI_1]
        exact ih (i + 1) (by omega) (by omega)
  have lt : a < zE (zLe T) a := Classical.byContradiction (fun y => b3 (by rw [show zE (zLe T) a = a by omega]; exact hl))
  refine ZC.of' (vX2_endOfLetters_0 hS ?_) rfl (Nat.le_of_ble_eq_true rfl) rfl
  rw [nI_1]
  exact main (zE (zLe T) a - (a + 1)) (a + 1) (by omega) (by omega)
theorem c_endD {G : Gp} {Q : zPost} {S : zSh} {I : zFI} {L : zFL} {T : Nat → Int32} {tl a : Nat} (hS : zStd S) (h : zTp I T tl) (ha : a ≤ tl) (hl : zDi T a) (q : Q (some (.int (nI (zE (zDi T) a)))) S I L) : ZC G mX2_endOfDigits fX2_endOfDigits lX2_endOfDigits [zo G 1, .int (nI a)] S I L 0 0 Q := by
  have t800 : tl ≤ 800 := h.2.1.1
  obtain ⟨b1, b2, b3, b4⟩ := zE_bound h.2.1 (fun k => di_no (T := T) (k := k)) ha
  have main : ∀ (d i : Nat), i + d = zE (zDi T) a → a ≤ i → ZW G mX2_endOfDigits fX2_endOfDigits lX2_endOfDigits 4 [zo G 1, .int (nI a), .int (nI i)] [] S I L 0 0 Q := by
    intro d
    induction d with
    | zero =>
      intro i hi ai
      rw [show i = zE (zDi T) a by omega]
      refine vX2_endOfDigits_4 hS ⟨fun _ => q, fun _ => ⟨fun _ => q, fun y => ?_⟩⟩
      rw [by_at h (by omega)] at y
      exact absurd y b3
    | succ d ih =>
      intro i hi ai
      have li := b4 i ai (by omega)
      refine vX2_endOfDigits_4 hS ⟨fun c => ?_, fun _ => ⟨fun y => ?_, fun _ => ?_⟩⟩
      · have c : I 1 1 ≤ nI i := c
        rw [h.1, zle, znI (by omega), znI (by omega)] at c
        omega
      · rw [by_at h (by omega)] at y
        exact absurd y li
      · rw [nI_1]
        exact ih (i + 1) (by omega) (by omega)
  have lt : a < zE (zDi T) a := Classical.byContradiction (fun y => b3 (by rw [show zE (zDi T) a = a by omega]; exact hl))
  refine ZC.of' (vX2_endOfDigits_0 hS ?_) rfl (Nat.le_of_ble_eq_true rfl) rfl
  rw [nI_1]
  exact main (zE (zDi T) a - (a + 1)) (a + 1) (by omega) (by omega)
/-- numberAt: of one digit or two it's the number -/
theorem c_numberAt {G : Gp} {Q : zPost} {S : zSh} {I : zFI} {L : zFL} {T : Nat → Int32} {tl a b : Nat} (hS : zStd S) (h : zTp I T tl) (ha : a < b) (hb : b ≤ tl) (q : ∀ x : Int32, (b ≤ a + 2 → x = if b = a + 1 then T a - 48 else 10 * (T a - 48) + T (a + 1) - 48) → Q (some (.int x)) S I L) : ZC G mX2_numberAt fX2_numberAt lX2_numberAt [zo G 1, .int (nI a), .int (nI b)] S I L 0 0 Q := by
  have t800 : tl ≤ 800 := h.2.1.1
  have e2 : nI a + 2 = nI (a + 2) := nI_add a 2
  refine ZC.of' (vX2_numberAt_0 hS ?_) rfl (Nat.le_of_ble_eq_true rfl) rfl
  refine vX2_numberAt_5 hS ⟨fun c => absurd c (nI_ge ha (by omega)), fun _ => ⟨fun c => ?_, fun _ => ?_⟩⟩
  · rw [e2] at c
    exact absurd c (nI_ge (by omega) (by omega))
  · rw [by_at h (by omega), nI_1]
    refine vX2_numberAt_5 hS ⟨fun c => ?_, fun c => ⟨fun d => ?_, fun _ => ?_⟩⟩
    · rw [zle, znI (by omega), znI (by omega)] at c
      refine q _ (fun _ => ?_)
      rw [if_pos (by omega)]
      lia
    · rw [e2] at d
      exact absurd d (nI_ge (by omega) (by omega))
    · rw [zle, znI (by omega), znI (by omega)] at c
      rw [by_at h (by omega), nI_1]
      have fin : Q (some (.int (10 * (10 * 0 + T a - 48) + T (a + 1) - 48))) S I L := q _ (fun _ => by
        rw [if_neg (by omega)]
        have : (10 * 0 + T a - 48 : Int32) = T a - 48 := by lia
        rw [this])
      refine vX2_numberAt_5 hS ⟨fun _ => fin, fun _ => ⟨fun _ => fin, fun no => ?_⟩⟩
      rw [e2] at no
      exact absurd (Int32.le_refl _) no
