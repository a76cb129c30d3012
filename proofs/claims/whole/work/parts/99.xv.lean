/-! the law's loop -/
theorem and31 (x : Int32) : ∃ k, k < 32 ∧ x &&& 31 = nI k := by
  refine ⟨x.toBitVec.toNat % 32, Nat.mod_lt _ (by omega), ?_⟩
  apply Int32.toBitVec_inj.mp
  apply BitVec.eq_of_toNat_eq
  have e : x.toBitVec.toNat &&& 31 = x.toBitVec.toNat % 32 := Nat.and_two_pow_sub_one_eq_mod _ 5
  show (x.toBitVec &&& (31 : Int32).toBitVec).toNat = (BitVec.ofNat 32 (x.toBitVec.toNat % 32)).toNat
  rw [BitVec.toNat_and, BitVec.toNat_ofNat]
  show x.toBitVec.toNat &&& 31 = _
  rw [e, Nat.mod_eq_of_lt (show x.toBitVec.toNat % 32 < 2 ^ 32 by omega)]
theorem sub6 {Ln i : Nat} (hL : Ln ≤ 3072) (hi : i ≤ 3100) (h : ¬ nI Ln - 6 < nI i) : i + 6 ≤ Ln := by
  by_cases c : 6 ≤ Ln
  · have e : nI Ln - 6 = nI (Ln - 6) := by
      have : nI (Ln - 6) + nI 6 = nI Ln := by rw [nI_add, Nat.sub_add_cancel c]
      rw [← this]
      exact Int32.add_sub_cancel _ _
    rw [e] at h
    have := Classical.byContradiction (fun y : ¬ i ≤ Ln - 6 => h (nI_lt (by omega) (by omega)))
    omega
  · have : Ln = 0 ∨ Ln = 1 ∨ Ln = 2 ∨ Ln = 3 ∨ Ln = 4 ∨ Ln = 5 := by omega
    have lt : nI Ln - 6 < nI 0 := by
      rcases this with e | e | e | e | e | e <;> subst e <;> decide
    exact absurd (Int32.lt_of_lt_of_le lt (nI_le (Nat.zero_le i) (by omega))) h
theorem law_loop {G : Gp} {p : Program} {l : Launch} {e : Env} {s : State} {m : MethodId} {args : Array Value} {below : List Frame} {meth : Method} {c : Code} {Z : State → Prop} {b Ln : Nat} {xs : Nat → Int32} (C : ZCx G (zLaw meth.name) 13 510 p room_1 s m args meth c) (hX : va_X b Ln xs s s.heap) (hb : b < gB G) (hB : gB G = s.heap.size) (hLn : Ln ≤ 3072)
    (fin : ∀ (S : zSh) (I : zFI) (L : zFL) (σ : Nat) (vs : List Value), zBg S σ → ZL G p l e room_1 s m args below meth c Z 1286 vs [] S I L (zN S) σ (zP0 G s S σ)) :
    ∀ (d i : Nat) (S : zSh) (I : zFI) (L : zFL) (σ : Nat), 3100 ≤ d + i → i ≤ Ln → zIn S I L → zBg S σ → ZL G p l e room_1 s m args below meth c Z 18 [.ref b, zo G 0, zo G 84, .int (nI i)] [] S I L (zN S) σ (zP0 G s S σ) := by
  intro d
  induction d with
  | zero =>
    intro i S I L σ h1 h2
    exact absurd h1 (by omega)
  | succ d ih =>
    intro i S I L σ h1 h2 hI g
    refine zl_iload_n C dL_law_18 rfl rfl ?_
    refine zl_aload_n C dL_law_19 rfl rfl ?_
    refine zl_slen C hX hb hB dL_law_20 ?_
    refine zl_bipush (v := 6) C dL_law_21 (by decide) ?_
    refine zl_isub C dL_law_23 ?_
    refine zl_icgt (tgt := 1286) C dL_law_24 (by decide) (fun _ => fin S I L σ _ g) (fun hn => ?_)
    have hi : i + 6 ≤ Ln := sub6 hLn (by omega) hn
    refine zl_aload_n C dL_law_27 rfl rfl ?_
    refine zl_iload_n C dL_law_28 rfl rfl ?_
    refine zl_sld C hX hb hB dL_law_29 (znIin (by omega) (by omega)) ?_
    refine zl_bipush (v := 31) C dL_law_30 (by decide) ?_
    refine zl_iand C dL_law_32 ?_
    obtain ⟨k, hk, ek⟩ := and31 (xs (nI i).toNatClampNeg)
    rw [ek]
    clear ek hn
    have next : ∀ (S' : zSh) (I' : zFI) (L' : zFL) (σ' : Nat), zIn S' I' L' → zBg S' σ' → ZL G p l e room_1 s m args below meth c Z 1280 [.ref b, zo G 0, zo G 84, .int (nI i)] [] S' I' L' (zN S') σ' (zP0 G s S' σ') := by
      intro S' I' L' σ' hI' g'
      refine zl_iinc (v := nI (i + 6)) C dL_law_1280 rfl (nI_add i 6) (Nat.le_of_ble_eq_true rfl) rfl ?_
      refine zl_goto (tgt := 18) C dL_law_1283 (by decide) ?_
      exact ih (i + 6) S' I' L' σ' (by omega) hi hI' g'
    have hh : k = 0 ∨ k = 1 ∨ k = 2 ∨ k = 3 ∨ k = 4 ∨ k = 5 ∨ k = 6 ∨ k = 7 ∨ k = 8 ∨ k = 9 ∨ k = 10 ∨ k = 11 ∨ k = 12 ∨ k = 13 ∨ k = 14 ∨ k = 15 ∨ k = 16 ∨ k = 17 ∨ k = 18 ∨ k = 19 ∨ k = 20 ∨ k = 21 ∨ k = 22 ∨ k = 23 ∨ k = 24 ∨ k = 25 ∨ k = 26 ∨ k = 27 ∨ k = 28 ∨ k = 29 ∨ k = 30 ∨ k = 31 := by omega
    rcases hh with e | e | e | e | e | e | e | e | e | e | e | e | e | e | e | e | e | e | e | e | e | e | e | e | e | e | e | e | e | e | e | e
    · subst e
      exact zl_tabIn (off := 143) (tgt := 176) C dL_law_33 (by decide) (by decide) rfl (by decide) (lc_0 C hX hb hB hi hLn hI g next)
    · subst e
      exact zl_tabIn (off := 166) (tgt := 199) C dL_law_33 (by decide) (by decide) rfl (by decide) (lc_1 C hX hb hB hi hLn hI g next)
    · subst e
      exact zl_tabIn (off := 189) (tgt := 222) C dL_law_33 (by decide) (by decide) rfl (by decide) (lc_2 C hX hb hB hi hLn hI g next)
    · subst e
      exact zl_tabIn (off := 222) (tgt := 255) C dL_law_33 (by decide) (by decide) rfl (by decide) (lc_3 C hX hb hB hi hLn hI g next)
    · subst e
      exact zl_tabIn (off := 275) (tgt := 308) C dL_law_33 (by decide) (by decide) rfl (by decide) (lc_4 C hX hb hB hi hLn hI g next)
    · subst e
      exact zl_tabIn (off := 338) (tgt := 371) C dL_law_33 (by decide) (by decide) rfl (by decide) (lc_5 C hX hb hB hi hLn hI g next)
    · subst e
      exact zl_tabIn (off := 361) (tgt := 394) C dL_law_33 (by decide) (by decide) rfl (by decide) (lc_6 C hX hb hB hi hLn hI g next)
    · subst e
      exact zl_tabIn (off := 384) (tgt := 417) C dL_law_33 (by decide) (by decide) rfl (by decide) (lc_7 C hX hb hB hi hLn hI g next)
    · subst e
      exact zl_tabIn (off := 407) (tgt := 440) C dL_law_33 (by decide) (by decide) rfl (by decide) (lc_8 C hX hb hB hi hLn hI g next)
    · subst e
      exact zl_tabIn (off := 430) (tgt := 463) C dL_law_33 (by decide) (by decide) rfl (by decide) (lc_9 C hX hb hB hi hLn hI g next)
    · subst e
      exact zl_tabIn (off := 453) (tgt := 486) C dL_law_33 (by decide) (by decide) rfl (by decide) (lc_10 C hX hb hB hi hLn hI g next)
    · subst e
      exact zl_tabIn (off := 486) (tgt := 519) C dL_law_33 (by decide) (by decide) rfl (by decide) (lc_11 C hX hb hB hi hLn hI g next)
    · subst e
      exact zl_tabIn (off := 519) (tgt := 552) C dL_law_33 (by decide) (by decide) rfl (by decide) (lc_12 C hX hb hB hi hLn hI g next)
    · subst e
      exact zl_tabIn (off := 552) (tgt := 585) C dL_law_33 (by decide) (by decide) rfl (by decide) (lc_13 C hX hb hB hi hLn hI g next)
    · subst e
      exact zl_tabIn (off := 586) (tgt := 619) C dL_law_33 (by decide) (by decide) rfl (by decide) (lc_14 C hX hb hB hi hLn hI g next)
    · subst e
      exact zl_tabIn (off := 629) (tgt := 662) C dL_law_33 (by decide) (by decide) rfl (by decide) (lc_15 C hX hb hB hi hLn hI g next)
    · subst e
      exact zl_tabIn (off := 662) (tgt := 695) C dL_law_33 (by decide) (by decide) rfl (by decide) (lc_16 C hX hb hB hi hLn hI g next)
    · subst e
      exact zl_tabIn (off := 695) (tgt := 728) C dL_law_33 (by decide) (by decide) rfl (by decide) (lc_17 C hX hb hB hi hLn hI g next)
    · subst e
      exact zl_tabIn (off := 728) (tgt := 761) C dL_law_33 (by decide) (by decide) rfl (by decide) (lc_18 C hX hb hB hi hLn hI g next)
    · subst e
      exact zl_tabIn (off := 761) (tgt := 794) C dL_law_33 (by decide) (by decide) rfl (by decide) (lc_19 C hX hb hB hi hLn hI g next)
    · subst e
      exact zl_tabIn (off := 804) (tgt := 837) C dL_law_33 (by decide) (by decide) rfl (by decide) (lc_20 C hX hb hB hi hLn hI g next)
    · subst e
      exact zl_tabIn (off := 838) (tgt := 871) C dL_law_33 (by decide) (by decide) rfl (by decide) (lc_21 C hX hb hB hi hLn hI g next)
    · subst e
      exact zl_tabIn (off := 881) (tgt := 914) C dL_law_33 (by decide) (by decide) rfl (by decide) (lc_22 C hX hb hB hi hLn hI g next)
    · subst e
      exact zl_tabIn (off := 914) (tgt := 947) C dL_law_33 (by decide) (by decide) rfl (by decide) (lc_23 C hX hb hB hi hLn hI g next)
    · subst e
      exact zl_tabIn (off := 947) (tgt := 980) C dL_law_33 (by decide) (by decide) rfl (by decide) (lc_24 C hX hb hB hi hLn hI g next)
    · subst e
      exact zl_tabIn (off := 1006) (tgt := 1039) C dL_law_33 (by decide) (by decide) rfl (by decide) (lc_25 C hX hb hB hi hLn hI g next)
    · subst e
      exact zl_tabIn (off := 1049) (tgt := 1082) C dL_law_33 (by decide) (by decide) rfl (by decide) (lc_26 C hX hb hB hi hLn hI g next)
    · subst e
      exact zl_tabIn (off := 1092) (tgt := 1125) C dL_law_33 (by decide) (by decide) rfl (by decide) (lc_27 C hX hb hB hi hLn hI g next)
    · subst e
      exact zl_tabIn (off := 1135) (tgt := 1168) C dL_law_33 (by decide) (by decide) rfl (by decide) (lc_28 C hX hb hB hi hLn hI g next)
    · subst e
      exact zl_tabIn (off := 1168) (tgt := 1201) C dL_law_33 (by decide) (by decide) rfl (by decide) (lc_29 C hX hb hB hi hLn hI g next)
    · subst e
      exact zl_tabIn (off := 1201) (tgt := 1234) C dL_law_33 (by decide) (by decide) rfl (by decide) (lc_30 C hX hb hB hi hLn hI g next)
    · subst e
      exact zl_tabIn (off := 1224) (tgt := 1257) C dL_law_33 (by decide) (by decide) rfl (by decide) (lc_31 C hX hb hB hi hLn hI g next)
