set_option maxHeartbeats 2000000 in
theorem vX0_begin_0 {G : Gp} {bc bs : Nat} {Q : zPost} {S : zSh} {I : zFI} {L : zFL}  (hS : zStd S)  (k : Q none S (u2 I 74 0 (0 : Int32)) L) : ZW G mX0_begin fX0_begin lX0_begin 0 [zo G 74] [] S I L bc bs Q := by
  refine zr_aload_n dX0_begin_0 rfl rfl ?_
  refine zr_iconst (v := 0) dX0_begin_1 (by decide) ?_
  refine zr_putI dX0_begin_2 zf_X0_9 rfl (hS.has (a := 74) rfl rfl) rfl rfl ?_
  exact zr_return_ dX0_begin_5 rfl k
set_option maxHeartbeats 2000000 in
theorem vX0_addSpan_0 {G : Gp} {bc bs : Nat} {Q : zPost} {S : zSh} {I : zFI} {L : zFL} {v1 : Int32} {v2 : Int32} (hS : zStd S)  (k : (((16 : Int32) ≤ (I 74 0) → Q none S I L) ∧ (¬ (16 : Int32) ≤ (I 74 0) → vp_in (I 74 0) 16 ∧ Q none S (u2 (u2 (u2 I 75 (I 74 0).toNatClampNeg v1) 76 (I 74 0).toNatClampNeg v2) 74 0 ((I 74 0) + (1 : Int32))) L))) : ZW G mX0_addSpan fX0_addSpan lX0_addSpan 0 [zo G 74, .int v1, .int v2] [] S I L bc bs Q := by
  refine zr_aload_n dX0_addSpan_0 rfl rfl ?_
  refine zr_getIv (x := (I 74 0)) dX0_addSpan_1 zf_X0_9 rfl (hS.has (a := 74) rfl rfl) rfl ?_
  refine zr_bipush (v := 16) dX0_addSpan_4 (by decide) ?_
  refine zr_icge (tgt := 39) dX0_addSpan_6 (by decide) (fun hb => ?_) (fun hb => ?_)
  · have k := k.1 hb
    exact zr_return_ dX0_addSpan_39 rfl k
  · have k := k.2 hb
    refine zr_aload_n dX0_addSpan_9 rfl rfl ?_
    refine zr_getR dX0_addSpan_10 zf_X0_15 rfl (hS.has (a := 74) rfl rfl) (hS.ref (a := 75) rfl) ?_
    refine zr_aload_n dX0_addSpan_13 rfl rfl ?_
    refine zr_getIv (x := (I 74 0)) dX0_addSpan_14 zf_X0_9 rfl (hS.has (a := 74) rfl rfl) rfl ?_
    refine zr_iload_n dX0_addSpan_17 rfl rfl ?_
    obtain ⟨hi1, k⟩ := k
    refine zr_iast dX0_addSpan_18 (hS.has (a := 75) rfl rfl) hi1 ?_
    refine zr_aload_n dX0_addSpan_19 rfl rfl ?_
    refine zr_getR dX0_addSpan_20 zf_X0_19 rfl (hS.has (a := 74) rfl rfl) (hS.ref (a := 76) rfl) ?_
    refine zr_aload_n dX0_addSpan_23 rfl rfl ?_
    refine zr_getIv (x := (I 74 0)) dX0_addSpan_24 zf_X0_9 rfl (hS.has (a := 74) rfl rfl) rfl ?_
    refine zr_iload_n dX0_addSpan_27 rfl rfl ?_
    refine zr_iast dX0_addSpan_28 (hS.has (a := 76) rfl rfl) hi1 ?_
    refine zr_aload_n dX0_addSpan_29 rfl rfl ?_
    refine zr_dup dX0_addSpan_30 rfl ?_
    refine zr_getIv (x := (I 74 0)) dX0_addSpan_31 zf_X0_9 rfl (hS.has (a := 74) rfl rfl) rfl ?_
    refine zr_iconst (v := 1) dX0_addSpan_34 (by decide) ?_
    refine zr_iadd dX0_addSpan_35 ?_
    refine zr_putI dX0_addSpan_36 zf_X0_9 rfl (hS.has (a := 74) rfl rfl) rfl rfl ?_
    exact zr_return_ dX0_addSpan_39 rfl k
set_option maxHeartbeats 2000000 in
theorem vX0_spansIn_0 {G : Gp} {bc bs : Nat} {Q : zPost} {S : zSh} {I : zFI} {L : zFL} {v1 : Int32} (hS : zStd S)  (k : ZW G mX0_spansIn fX0_spansIn lX0_spansIn 4 [zo G 74, .int v1, .int (0 : Int32), .int (0 : Int32)] [] S I L bc bs Q) : ZW G mX0_spansIn fX0_spansIn lX0_spansIn 0 [zo G 74, .int v1, .null, .null] [] S I L bc bs Q := by
  refine zr_iconst (v := 0) dX0_spansIn_0 (by decide) ?_
  refine zr_istore_n dX0_spansIn_1 rfl (Nat.le_of_ble_eq_true rfl) rfl ?_
  refine zr_iconst (v := 0) dX0_spansIn_2 (by decide) ?_
  refine zr_istore_n dX0_spansIn_3 rfl (Nat.le_of_ble_eq_true rfl) rfl ?_
  exact k
set_option maxHeartbeats 2000000 in
theorem vX0_spansIn_4 {G : Gp} {bc bs : Nat} {Q : zPost} {S : zSh} {I : zFI} {L : zFL} {v1 : Int32} {v2 : Int32} {v3 : Int32} (hS : zStd S)  (k : (((I 74 0) ≤ v3 → Q (some (.int v2)) S I L) ∧ (¬ (I 74 0) ≤ v3 → (((16 : Int32) ≤ v3 → Q (some (.int v2)) S I L) ∧ (¬ (16 : Int32) ≤ v3 → vp_in v3 16 ∧ ((v1 < (I 75 v3.toNatClampNeg) → ZW G mX0_spansIn fX0_spansIn lX0_spansIn 4 [zo G 74, .int v1, .int v2, .int (v3 + 1)] [] S I L bc bs Q) ∧ (¬ v1 < (I 75 v3.toNatClampNeg) → (((I 76 v3.toNatClampNeg) < v1 → ZW G mX0_spansIn fX0_spansIn lX0_spansIn 4 [zo G 74, .int v1, .int v2, .int (v3 + 1)] [] S I L bc bs Q) ∧ (¬ (I 76 v3.toNatClampNeg) < v1 → ZW G mX0_spansIn fX0_spansIn lX0_spansIn 4 [zo G 74, .int v1, .int (v2 + 1), .int (v3 + 1)] [] S I L bc bs Q))))))))) : ZW G mX0_spansIn fX0_spansIn lX0_spansIn 4 [zo G 74, .int v1, .int v2, .int v3] [] S I L bc bs Q := by
  refine zr_iload_n dX0_spansIn_4 rfl rfl ?_
  refine zr_aload_n dX0_spansIn_5 rfl rfl ?_
  refine zr_getIv (x := (I 74 0)) dX0_spansIn_6 zf_X0_9 rfl (hS.has (a := 74) rfl rfl) rfl ?_
  refine zr_icge (tgt := 47) dX0_spansIn_9 (by decide) (fun hb => ?_) (fun hb => ?_)
  · have k := k.1 hb
    refine zr_iload_n dX0_spansIn_47 rfl rfl ?_
    exact zr_ireturn dX0_spansIn_48 rfl rfl k
  · have k := k.2 hb
    refine zr_iload_n dX0_spansIn_12 rfl rfl ?_
    refine zr_bipush (v := 16) dX0_spansIn_13 (by decide) ?_
    refine zr_icge (tgt := 47) dX0_spansIn_15 (by decide) (fun hb => ?_) (fun hb => ?_)
    · have k := k.1 hb
      refine zr_iload_n dX0_spansIn_47 rfl rfl ?_
      exact zr_ireturn dX0_spansIn_48 rfl rfl k
    · have k := k.2 hb
      refine zr_aload_n dX0_spansIn_18 rfl rfl ?_
      refine zr_getR dX0_spansIn_19 zf_X0_15 rfl (hS.has (a := 74) rfl rfl) (hS.ref (a := 75) rfl) ?_
      refine zr_iload_n dX0_spansIn_22 rfl rfl ?_
      obtain ⟨hi1, k⟩ := k
      refine zr_ialdv (x := (I 75 v3.toNatClampNeg)) dX0_spansIn_23 (hS.has (a := 75) rfl rfl) hi1 rfl ?_
      refine zr_iload_n dX0_spansIn_24 rfl rfl ?_
      refine zr_icgt (tgt := 41) dX0_spansIn_25 (by decide) (fun hb => ?_) (fun hb => ?_)
      · have k := k.1 hb
        refine zr_iinc (v := (v3 + 1)) dX0_spansIn_41 rfl rfl (Nat.le_of_ble_eq_true rfl) rfl ?_
        refine zr_goto (tgt := 4) dX0_spansIn_44 (by decide) ?_
        exact k
      · have k := k.2 hb
        refine zr_iload_n dX0_spansIn_28 rfl rfl ?_
        refine zr_aload_n dX0_spansIn_29 rfl rfl ?_
        refine zr_getR dX0_spansIn_30 zf_X0_19 rfl (hS.has (a := 74) rfl rfl) (hS.ref (a := 76) rfl) ?_
        refine zr_iload_n dX0_spansIn_33 rfl rfl ?_
        refine zr_ialdv (x := (I 76 v3.toNatClampNeg)) dX0_spansIn_34 (hS.has (a := 76) rfl rfl) hi1 rfl ?_
        refine zr_icgt (tgt := 41) dX0_spansIn_35 (by decide) (fun hb => ?_) (fun hb => ?_)
        · have k := k.1 hb
          refine zr_iinc (v := (v3 + 1)) dX0_spansIn_41 rfl rfl (Nat.le_of_ble_eq_true rfl) rfl ?_
          refine zr_goto (tgt := 4) dX0_spansIn_44 (by decide) ?_
          exact k
        · have k := k.2 hb
          refine zr_iinc (v := (v2 + 1)) dX0_spansIn_38 rfl rfl (Nat.le_of_ble_eq_true rfl) rfl ?_
          refine zr_iinc (v := (v3 + 1)) dX0_spansIn_41 rfl rfl (Nat.le_of_ble_eq_true rfl) rfl ?_
          refine zr_goto (tgt := 4) dX0_spansIn_44 (by decide) ?_
          exact k
set_option maxHeartbeats 2000000 in
theorem vX0_settle_0 {G : Gp} {bc bs : Nat} {Q : zPost} {S : zSh} {I : zFI} {L : zFL}  (hS : zStd S)  (k : ZW G mX0_settle fX0_settle lX0_settle 17 [zo G 74, .int (0 : Int32), .null] [] S (u2 (u2 (u2 I 74 5 (0 : Int32)) 74 3 (-1 : Int32)) 74 4 (-1 : Int32)) L bc bs Q) : ZW G mX0_settle fX0_settle lX0_settle 0 [zo G 74, .null, .null] [] S I L bc bs Q := by
  refine zr_aload_n dX0_settle_0 rfl rfl ?_
  refine zr_iconst (v := 0) dX0_settle_1 (by decide) ?_
  refine zr_putI dX0_settle_2 zf_X0_28 rfl (hS.has (a := 74) rfl rfl) rfl rfl ?_
  refine zr_aload_n dX0_settle_5 rfl rfl ?_
  refine zr_iconst (v := -1) dX0_settle_6 (by decide) ?_
  refine zr_putI dX0_settle_7 zf_X0_22 rfl (hS.has (a := 74) rfl rfl) rfl rfl ?_
  refine zr_aload_n dX0_settle_10 rfl rfl ?_
  refine zr_iconst (v := -1) dX0_settle_11 (by decide) ?_
  refine zr_putI dX0_settle_12 zf_X0_25 rfl (hS.has (a := 74) rfl rfl) rfl rfl ?_
  refine zr_iconst (v := 0) dX0_settle_15 (by decide) ?_
  refine zr_istore_n dX0_settle_16 rfl (Nat.le_of_ble_eq_true rfl) rfl ?_
  exact k
set_option maxHeartbeats 2000000 in
theorem vX0_settle_17 {G : Gp} {bc bs : Nat} {Q : zPost} {S : zSh} {I : zFI} {L : zFL} {v1 : Int32} (hS : zStd S)  (k : (((999 : Int32) < v1 → Q none S I L) ∧ (¬ (999 : Int32) < v1 → ZC G mX0_spansIn fX0_spansIn lX0_spansIn [zo G 74, .int v1] S I L 0 0 (fun w S' I1 L1 => ∃ r1 : Int32, w = some (.int r1) ∧ S = S' ∧ ((r1 ≤ (I1 74 5) → ((¬ r1 = (I1 74 5) → ZW G mX0_settle fX0_settle lX0_settle 17 [zo G 74, .int (v1 + 1), .null] [] S I1 L1 bc bs Q) ∧ (r1 = (I1 74 5) → (((I1 74 5) ≤ 0 → ZW G mX0_settle fX0_settle lX0_settle 17 [zo G 74, .int (v1 + 1), .null] [] S I1 L1 bc bs Q) ∧ (¬ (I1 74 5) ≤ 0 → ((¬ (I1 74 4) = (v1 - (1 : Int32)) → ZW G mX0_settle fX0_settle lX0_settle 17 [zo G 74, .int (v1 + 1), .null] [] S I1 L1 bc bs Q) ∧ ((I1 74 4) = (v1 - (1 : Int32)) → ZW G mX0_settle fX0_settle lX0_settle 17 [zo G 74, .int (v1 + 1), .null] [] S (u2 I1 74 4 v1) L1 bc bs Q))))))) ∧ (¬ r1 ≤ (I1 74 5) → ZW G mX0_settle fX0_settle lX0_settle 17 [zo G 74, .int (v1 + 1), .null] [] S (u2 (u2 (u2 I1 74 5 r1) 74 3 v1) 74 4 v1) L1 bc bs Q)))))) : ZW G mX0_settle fX0_settle lX0_settle 17 [zo G 74, .int v1, .null] [] S I L bc bs Q := by
  refine zr_iload_n dX0_settle_17 rfl rfl ?_
  refine zr_sipush (v := 999) dX0_settle_18 (by decide) ?_
  refine zr_icgt (tgt := 92) dX0_settle_21 (by decide) (fun hb => ?_) (fun hb => ?_)
  · have k := k.1 hb
    exact zr_return_ dX0_settle_92 rfl k
  · have k := k.2 hb
    refine zr_aload_n dX0_settle_24 rfl rfl ?_
    refine zr_iload_n dX0_settle_25 rfl rfl ?_
    refine zr_callV (As := [.int v1]) (fr' := fX0_spansIn) (lo' := lX0_spansIn) (bc' := 0) (bs' := 0) (bcr := bc) (bsr := bs) dX0_settle_26 zs_X0_31 zi_X0_spansIn zcl_0 (hS.has (a := 74) rfl rfl) rfl rfl (Nat.le_of_ble_eq_true rfl) (Nat.le_of_ble_eq_true rfl) (Nat.le_of_ble_eq_true rfl) (Nat.le_refl _) (Nat.le_refl _) ?_
    refine ZC.mono (fun w S' I1 L1 k => ?_) k
    obtain ⟨r1, rfl, rfl, k⟩ := k
    show ZW G mX0_settle fX0_settle lX0_settle 29 [zo G 74, .int v1, .null] [.int r1] S I1 L1 bc bs Q
    refine zr_istore_n dX0_settle_29 rfl (Nat.le_of_ble_eq_true rfl) rfl ?_
    refine zr_iload_n dX0_settle_30 rfl rfl ?_
    refine zr_aload_n dX0_settle_31 rfl rfl ?_
    refine zr_getIv (x := (I1 74 5)) dX0_settle_32 zf_X0_28 rfl (hS.has (a := 74) rfl rfl) rfl ?_
    refine zr_icle (tgt := 56) dX0_settle_35 (by decide) (fun hb => ?_) (fun hb => ?_)
    · have k := k.1 hb
      refine zr_iload_n dX0_settle_56 rfl rfl ?_
      refine zr_aload_n dX0_settle_57 rfl rfl ?_
      refine zr_getIv (x := (I1 74 5)) dX0_settle_58 zf_X0_28 rfl (hS.has (a := 74) rfl rfl) rfl ?_
      refine zr_icne (tgt := 86) dX0_settle_61 (by decide) (fun hb => ?_) (fun hb => ?_)
      · have k := k.1 hb
        refine zr_iinc (v := (v1 + 1)) dX0_settle_86 rfl rfl (Nat.le_of_ble_eq_true rfl) rfl ?_
        refine zr_goto (tgt := 17) dX0_settle_89 (by decide) ?_
        exact zr_mask [true, true, false] rfl k
      · have k := k.2 hb
        refine zr_aload_n dX0_settle_64 rfl rfl ?_
        refine zr_getIv (x := (I1 74 5)) dX0_settle_65 zf_X0_28 rfl (hS.has (a := 74) rfl rfl) rfl ?_
        refine zr_ifle (tgt := 86) dX0_settle_68 (by decide) (fun hb => ?_) (fun hb => ?_)
        · have k := k.1 hb
          refine zr_iinc (v := (v1 + 1)) dX0_settle_86 rfl rfl (Nat.le_of_ble_eq_true rfl) rfl ?_
          refine zr_goto (tgt := 17) dX0_settle_89 (by decide) ?_
          exact zr_mask [true, true, false] rfl k
        · have k := k.2 hb
          refine zr_aload_n dX0_settle_71 rfl rfl ?_
          refine zr_getIv (x := (I1 74 4)) dX0_settle_72 zf_X0_25 rfl (hS.has (a := 74) rfl rfl) rfl ?_
          refine zr_iload_n dX0_settle_75 rfl rfl ?_
          refine zr_iconst (v := 1) dX0_settle_76 (by decide) ?_
          refine zr_isub dX0_settle_77 ?_
          refine zr_icne (tgt := 86) dX0_settle_78 (by decide) (fun hb => ?_) (fun hb => ?_)
          · have k := k.1 hb
            refine zr_iinc (v := (v1 + 1)) dX0_settle_86 rfl rfl (Nat.le_of_ble_eq_true rfl) rfl ?_
            refine zr_goto (tgt := 17) dX0_settle_89 (by decide) ?_
            exact zr_mask [true, true, false] rfl k
          · have k := k.2 hb
            refine zr_aload_n dX0_settle_81 rfl rfl ?_
            refine zr_iload_n dX0_settle_82 rfl rfl ?_
            refine zr_putI dX0_settle_83 zf_X0_25 rfl (hS.has (a := 74) rfl rfl) rfl rfl ?_
            refine zr_iinc (v := (v1 + 1)) dX0_settle_86 rfl rfl (Nat.le_of_ble_eq_true rfl) rfl ?_
            refine zr_goto (tgt := 17) dX0_settle_89 (by decide) ?_
            exact zr_mask [true, true, false] rfl k
    · have k := k.2 hb
      refine zr_aload_n dX0_settle_38 rfl rfl ?_
      refine zr_iload_n dX0_settle_39 rfl rfl ?_
      refine zr_putI dX0_settle_40 zf_X0_28 rfl (hS.has (a := 74) rfl rfl) rfl rfl ?_
      refine zr_aload_n dX0_settle_43 rfl rfl ?_
      refine zr_iload_n dX0_settle_44 rfl rfl ?_
      refine zr_putI dX0_settle_45 zf_X0_22 rfl (hS.has (a := 74) rfl rfl) rfl rfl ?_
      refine zr_aload_n dX0_settle_48 rfl rfl ?_
      refine zr_iload_n dX0_settle_49 rfl rfl ?_
      refine zr_putI dX0_settle_50 zf_X0_25 rfl (hS.has (a := 74) rfl rfl) rfl rfl ?_
      refine zr_goto (tgt := 86) dX0_settle_53 (by decide) ?_
      refine zr_iinc (v := (v1 + 1)) dX0_settle_86 rfl rfl (Nat.le_of_ble_eq_true rfl) rfl ?_
      refine zr_goto (tgt := 17) dX0_settle_89 (by decide) ?_
      exact zr_mask [true, true, false] rfl k
set_option maxHeartbeats 2000000 in
theorem vX0_found_0 {G : Gp} {bc bs : Nat} {Q : zPost} {S : zSh} {I : zFI} {L : zFL} {v1 : Int32} (hS : zStd S)  (k : ((v1 = 0 → Q (some (.int (I 74 3))) S I L) ∧ (v1 = 1 → Q (some (.int (I 74 4))) S I L) ∧ (v1 = 2 → Q (some (.int ((I 74 0) - (I 74 5)))) S I L) ∧ (v1 = 3 → Q (some (.int (I 74 0))) S I L) ∧ (¬ v1 = 0 → ¬ v1 = 1 → ¬ v1 = 2 → ¬ v1 = 3 → Q (some (.int (-1 : Int32))) S I L))) : ZW G mX0_found fX0_found lX0_found 0 [zo G 74, .int v1] [] S I L bc bs Q := by
  refine zr_iload_n dX0_found_0 rfl rfl ?_
  by_cases h0 : v1 = 0
  · have k := k.1 h0
    refine zr_tabIn (off := 31) (tgt := 32) dX0_found_1 (by rw [h0]; decide) (by rw [h0]; decide) (by rw [h0]; rfl) (by decide) ?_
    refine zr_aload_n dX0_found_32 rfl rfl ?_
    refine zr_getIv (x := (I 74 3)) dX0_found_33 zf_X0_22 rfl (hS.has (a := 74) rfl rfl) rfl ?_
    exact zr_ireturn dX0_found_36 rfl rfl k
  · by_cases h1 : v1 = 1
    · have k := k.2.1 h1
      refine zr_tabIn (off := 36) (tgt := 37) dX0_found_1 (by rw [h1]; decide) (by rw [h1]; decide) (by rw [h1]; rfl) (by decide) ?_
      refine zr_aload_n dX0_found_37 rfl rfl ?_
      refine zr_getIv (x := (I 74 4)) dX0_found_38 zf_X0_25 rfl (hS.has (a := 74) rfl rfl) rfl ?_
      exact zr_ireturn dX0_found_41 rfl rfl k
    · by_cases h2 : v1 = 2
      · have k := k.2.2.1 h2
        refine zr_tabIn (off := 41) (tgt := 42) dX0_found_1 (by rw [h2]; decide) (by rw [h2]; decide) (by rw [h2]; rfl) (by decide) ?_
        refine zr_aload_n dX0_found_42 rfl rfl ?_
        refine zr_getIv (x := (I 74 0)) dX0_found_43 zf_X0_9 rfl (hS.has (a := 74) rfl rfl) rfl ?_
        refine zr_aload_n dX0_found_46 rfl rfl ?_
        refine zr_getIv (x := (I 74 5)) dX0_found_47 zf_X0_28 rfl (hS.has (a := 74) rfl rfl) rfl ?_
        refine zr_isub dX0_found_50 ?_
        exact zr_ireturn dX0_found_51 rfl rfl k
      · by_cases h3 : v1 = 3
        · have k := k.2.2.2.1 h3
          refine zr_tabIn (off := 51) (tgt := 52) dX0_found_1 (by rw [h3]; decide) (by rw [h3]; decide) (by rw [h3]; rfl) (by decide) ?_
          refine zr_aload_n dX0_found_52 rfl rfl ?_
          refine zr_getIv (x := (I 74 0)) dX0_found_53 zf_X0_9 rfl (hS.has (a := 74) rfl rfl) rfl ?_
          exact zr_ireturn dX0_found_56 rfl rfl k
        · have k := k.2.2.2.2 h0 h1 h2 h3
          refine zr_tabOut (tgt := 57) dX0_found_1 ?_ (by decide) ?_
          · have e0 := ztab_ne h0; have e1 := ztab_ne h1; have e2 := ztab_ne h2; have e3 := ztab_ne h3; simp only [ztabv_0, ztabv_1, ztabv_2, ztabv_3] at e0 e1 e2 e3; omega
          refine zr_iconst (v := -1) dX0_found_57 (by decide) ?_
          exact zr_ireturn dX0_found_58 rfl rfl k
def p_X0_found (I : zFI) (v1 : Int32) : Int32 := (if v1 = 0 then (I 74 3) else (if v1 = 1 then (I 74 4) else (if v1 = 2 then ((I 74 0) - (I 74 5)) else (if v1 = 3 then (I 74 0) else (-1 : Int32)))))
set_option maxHeartbeats 2000000 in
theorem sp_X0_found {G : Gp} {Q : zPost} {S : zSh} {I : zFI} {L : zFL} {v1 : Int32} (hS : zStd S)  (h : Q (some (.int (p_X0_found I v1))) S I L) : ZC G mX0_found fX0_found lX0_found [zo G 74, .int v1] S I L 0 0 Q := by
  refine ZC.of' (vX0_found_0 hS  ?_) rfl (Nat.le_of_ble_eq_true rfl) rfl
  unfold p_X0_found at h
  refine ⟨?_, ?_, ?_, ?_, ?_⟩
  · intro hz
    rw [if_pos hz] at h
    exact h
  · intro hz
    rw [if_neg (by rw [hz]; decide), if_pos hz] at h
    exact h
  · intro hz
    rw [if_neg (by rw [hz]; decide), if_neg (by rw [hz]; decide), if_pos hz] at h
    exact h
  · intro hz
    rw [if_neg (by rw [hz]; decide), if_neg (by rw [hz]; decide), if_neg (by rw [hz]; decide), if_pos hz] at h
    exact h
  · intro hs1_0 hs1_1 hs1_2 hs1_3
    rw [if_neg hs1_0, if_neg hs1_1, if_neg hs1_2, if_neg hs1_3] at h
    exact h
set_option maxHeartbeats 2000000 in
theorem vX1_reset_0 {G : Gp} {bc bs : Nat} {Q : zPost} {S : zSh} {I : zFI} {L : zFL} {c : Nat} (hS : zStd S) (hc : zCu c) (k : Q none S (u2 (u2 (u2 (u2 (u2 (u2 (u2 (u2 (u2 (u2 (u2 I c 0 (3 : Int32)) c 1 (0 : Int32)) c 2 (1 : Int32)) c 3 (2 : Int32)) c 4 (60 : Int32)) c 5 (1 : Int32)) c 6 (10 : Int32)) c 7 (30 : Int32)) c 8 (2 : Int32)) c 9 (0 : Int32)) c 10 (0 : Int32)) L) : ZW G mX1_reset fX1_reset lX1_reset 0 [zo G c] [] S I L bc bs Q := by
  refine zr_aload_n dX1_reset_0 rfl rfl ?_
  refine zr_iconst (v := 3) dX1_reset_1 (by decide) ?_
  refine zr_putI dX1_reset_2 zf_X1_14 rfl (hS.hasC hc) rfl rfl ?_
  refine zr_aload_n dX1_reset_5 rfl rfl ?_
  refine zr_iconst (v := 0) dX1_reset_6 (by decide) ?_
  refine zr_putI dX1_reset_7 zf_X1_18 rfl (hS.hasC hc) rfl rfl ?_
  refine zr_aload_n dX1_reset_10 rfl rfl ?_
  refine zr_iconst (v := 1) dX1_reset_11 (by decide) ?_
  refine zr_putI dX1_reset_12 zf_X1_22 rfl (hS.hasC hc) rfl rfl ?_
  refine zr_aload_n dX1_reset_15 rfl rfl ?_
  refine zr_iconst (v := 2) dX1_reset_16 (by decide) ?_
  refine zr_putI dX1_reset_17 zf_X1_25 rfl (hS.hasC hc) rfl rfl ?_
  refine zr_aload_n dX1_reset_20 rfl rfl ?_
  refine zr_bipush (v := 60) dX1_reset_21 (by decide) ?_
  refine zr_putI dX1_reset_23 zf_X1_28 rfl (hS.hasC hc) rfl rfl ?_
  refine zr_aload_n dX1_reset_26 rfl rfl ?_
  refine zr_iconst (v := 1) dX1_reset_27 (by decide) ?_
  refine zr_putI dX1_reset_28 zf_X1_31 rfl (hS.hasC hc) rfl rfl ?_
  refine zr_aload_n dX1_reset_31 rfl rfl ?_
  refine zr_bipush (v := 10) dX1_reset_32 (by decide) ?_
  refine zr_putI dX1_reset_34 zf_X1_34 rfl (hS.hasC hc) rfl rfl ?_
  refine zr_aload_n dX1_reset_37 rfl rfl ?_
  refine zr_bipush (v := 30) dX1_reset_38 (by decide) ?_
  refine zr_putI dX1_reset_40 zf_X1_37 rfl (hS.hasC hc) rfl rfl ?_
  refine zr_aload_n dX1_reset_43 rfl rfl ?_
  refine zr_iconst (v := 2) dX1_reset_44 (by decide) ?_
  refine zr_putI dX1_reset_45 zf_X1_40 rfl (hS.hasC hc) rfl rfl ?_
  refine zr_aload_n dX1_reset_48 rfl rfl ?_
  refine zr_iconst (v := 0) dX1_reset_49 (by decide) ?_
  refine zr_putI dX1_reset_50 zf_X1_43 rfl (hS.hasC hc) rfl rfl ?_
  refine zr_aload_n dX1_reset_53 rfl rfl ?_
  refine zr_iconst (v := 0) dX1_reset_54 (by decide) ?_
  refine zr_putI dX1_reset_55 zf_X1_46 rfl (hS.hasC hc) rfl rfl ?_
  exact zr_return_ dX1_reset_58 rfl k
set_option maxHeartbeats 2000000 in
theorem vX1_tellInto_0 {G : Gp} {bc bs : Nat} {Q : zPost} {S : zSh} {I : zFI} {L : zFL} {c : Nat} {v1 : Int32} {v2 : Int32} (hS : zStd S) (hc : zCu c) (k : Q none S (u2 I c 9 ((I c 9) ||| ((1 : Int32) <<< ((((4 : Int32) * v1) + v2) &&& 31)))) L) : ZW G mX1_tellInto fX1_tellInto lX1_tellInto 0 [zo G c, .int v1, .int v2] [] S I L bc bs Q := by
  refine zr_aload_n dX1_tellInto_0 rfl rfl ?_
  refine zr_dup dX1_tellInto_1 rfl ?_
  refine zr_getIv (x := (I c 9)) dX1_tellInto_2 zf_X1_43 rfl (hS.hasC hc) rfl ?_
  refine zr_iconst (v := 1) dX1_tellInto_5 (by decide) ?_
  refine zr_iconst (v := 4) dX1_tellInto_6 (by decide) ?_
  refine zr_iload_n dX1_tellInto_7 rfl rfl ?_
  refine zr_imul dX1_tellInto_8 ?_
  refine zr_iload_n dX1_tellInto_9 rfl rfl ?_
  refine zr_iadd dX1_tellInto_10 ?_
  refine zr_ishl dX1_tellInto_11 ?_
  refine zr_ior dX1_tellInto_12 ?_
  refine zr_putI dX1_tellInto_13 zf_X1_43 rfl (hS.hasC hc) rfl rfl ?_
  exact zr_return_ dX1_tellInto_16 rfl k
set_option maxHeartbeats 2000000 in
theorem vX1_tellAhead_0 {G : Gp} {bc bs : Nat} {Q : zPost} {S : zSh} {I : zFI} {L : zFL} {c : Nat} {v1 : Int32} {v2 : Int32} (hS : zStd S) (hc : zCu c) (k : Q none S (u2 I c 10 ((I c 10) ||| ((1 : Int32) <<< ((((4 : Int32) * v1) + v2) &&& 31)))) L) : ZW G mX1_tellAhead fX1_tellAhead lX1_tellAhead 0 [zo G c, .int v1, .int v2] [] S I L bc bs Q := by
  refine zr_aload_n dX1_tellAhead_0 rfl rfl ?_
  refine zr_dup dX1_tellAhead_1 rfl ?_
  refine zr_getIv (x := (I c 10)) dX1_tellAhead_2 zf_X1_46 rfl (hS.hasC hc) rfl ?_
  refine zr_iconst (v := 1) dX1_tellAhead_5 (by decide) ?_
  refine zr_iconst (v := 4) dX1_tellAhead_6 (by decide) ?_
  refine zr_iload_n dX1_tellAhead_7 rfl rfl ?_
  refine zr_imul dX1_tellAhead_8 ?_
  refine zr_iload_n dX1_tellAhead_9 rfl rfl ?_
  refine zr_iadd dX1_tellAhead_10 ?_
  refine zr_ishl dX1_tellAhead_11 ?_
  refine zr_ior dX1_tellAhead_12 ?_
  refine zr_putI dX1_tellAhead_13 zf_X1_46 rfl (hS.hasC hc) rfl rfl ?_
  exact zr_return_ dX1_tellAhead_16 rfl k
set_option maxHeartbeats 2000000 in
theorem vX1_goesInto_0 {G : Gp} {bc bs : Nat} {Q : zPost} {S : zSh} {I : zFI} {L : zFL} {c : Nat} {v1 : Int32} {v2 : Int32} (hS : zStd S) (hc : zCu c) (k : ((¬ (((I c 9) >>> ((((4 : Int32) * v1) + v2) &&& 31)) &&& (1 : Int32)) = (1 : Int32) → Q (some (.int (0 : Int32))) S I L) ∧ ((((I c 9) >>> ((((4 : Int32) * v1) + v2) &&& 31)) &&& (1 : Int32)) = (1 : Int32) → Q (some (.int (1 : Int32))) S I L))) : ZW G mX1_goesInto fX1_goesInto lX1_goesInto 0 [zo G c, .int v1, .int v2] [] S I L bc bs Q := by
  refine zr_aload_n dX1_goesInto_0 rfl rfl ?_
  refine zr_getIv (x := (I c 9)) dX1_goesInto_1 zf_X1_43 rfl (hS.hasC hc) rfl ?_
  refine zr_iconst (v := 4) dX1_goesInto_4 (by decide) ?_
  refine zr_iload_n dX1_goesInto_5 rfl rfl ?_
  refine zr_imul dX1_goesInto_6 ?_
  refine zr_iload_n dX1_goesInto_7 rfl rfl ?_
  refine zr_iadd dX1_goesInto_8 ?_
  refine zr_ishr dX1_goesInto_9 ?_
  refine zr_iconst (v := 1) dX1_goesInto_10 (by decide) ?_
  refine zr_iand dX1_goesInto_11 ?_
  refine zr_iconst (v := 1) dX1_goesInto_12 (by decide) ?_
  refine zr_icne (tgt := 20) dX1_goesInto_13 (by decide) (fun hb => ?_) (fun hb => ?_)
  · have k := k.1 hb
    refine zr_iconst (v := 0) dX1_goesInto_20 (by decide) ?_
    exact zr_ireturn dX1_goesInto_21 rfl rfl k
  · have k := k.2 hb
    refine zr_iconst (v := 1) dX1_goesInto_16 (by decide) ?_
    refine zr_goto (tgt := 21) dX1_goesInto_17 (by decide) ?_
    exact zr_ireturn dX1_goesInto_21 rfl rfl k
def p_X1_goesInto (I : zFI) (c : Nat) (v1 : Int32) (v2 : Int32) : Int32 := (if (((I c 9) >>> ((((4 : Int32) * v1) + v2) &&& 31)) &&& (1 : Int32)) = (1 : Int32) then (1 : Int32) else (0 : Int32))
set_option maxHeartbeats 2000000 in
theorem sp_X1_goesInto {G : Gp} {Q : zPost} {S : zSh} {I : zFI} {L : zFL} {c : Nat} {v1 : Int32} {v2 : Int32} (hS : zStd S) (hc : zCu c) (h : Q (some (.int (p_X1_goesInto I c v1 v2))) S I L) : ZC G mX1_goesInto fX1_goesInto lX1_goesInto [zo G c, .int v1, .int v2] S I L 0 0 Q := by
  refine ZC.of' (vX1_goesInto_0 hS hc ?_) rfl (Nat.le_of_ble_eq_true rfl) rfl
  unfold p_X1_goesInto at h
  refine ⟨fun hb1 => ?_, fun hb1 => ?_⟩
  · rw [if_neg hb1] at h
    exact h
  · rw [if_pos hb1] at h
    exact h
theorem pb_X1_goesInto (I : zFI) (c : Nat) (v1 : Int32) (v2 : Int32) : p_X1_goesInto I c v1 v2 = 0 ∨ p_X1_goesInto I c v1 v2 = 1 := by
  unfold p_X1_goesInto
  repeat' split
  all_goals first | exact Or.inl rfl | exact Or.inr rfl | assumption
set_option maxHeartbeats 2000000 in
theorem vX1_isAhead_0 {G : Gp} {bc bs : Nat} {Q : zPost} {S : zSh} {I : zFI} {L : zFL} {c : Nat} {v1 : Int32} {v2 : Int32} (hS : zStd S) (hc : zCu c) (k : ((¬ (((I c 10) >>> ((((4 : Int32) * v1) + v2) &&& 31)) &&& (1 : Int32)) = (1 : Int32) → Q (some (.int (0 : Int32))) S I L) ∧ ((((I c 10) >>> ((((4 : Int32) * v1) + v2) &&& 31)) &&& (1 : Int32)) = (1 : Int32) → ((¬ (((I c 10) >>> ((((4 : Int32) * v2) + v1) &&& 31)) &&& (1 : Int32)) = 0 → Q (some (.int (0 : Int32))) S I L) ∧ ((((I c 10) >>> ((((4 : Int32) * v2) + v1) &&& 31)) &&& (1 : Int32)) = 0 → Q (some (.int (1 : Int32))) S I L))))) : ZW G mX1_isAhead fX1_isAhead lX1_isAhead 0 [zo G c, .int v1, .int v2] [] S I L bc bs Q := by
  refine zr_aload_n dX1_isAhead_0 rfl rfl ?_
  refine zr_getIv (x := (I c 10)) dX1_isAhead_1 zf_X1_46 rfl (hS.hasC hc) rfl ?_
  refine zr_iconst (v := 4) dX1_isAhead_4 (by decide) ?_
  refine zr_iload_n dX1_isAhead_5 rfl rfl ?_
  refine zr_imul dX1_isAhead_6 ?_
  refine zr_iload_n dX1_isAhead_7 rfl rfl ?_
  refine zr_iadd dX1_isAhead_8 ?_
  refine zr_ishr dX1_isAhead_9 ?_
  refine zr_iconst (v := 1) dX1_isAhead_10 (by decide) ?_
  refine zr_iand dX1_isAhead_11 ?_
  refine zr_iconst (v := 1) dX1_isAhead_12 (by decide) ?_
  refine zr_icne (tgt := 35) dX1_isAhead_13 (by decide) (fun hb => ?_) (fun hb => ?_)
  · have k := k.1 hb
    refine zr_iconst (v := 0) dX1_isAhead_35 (by decide) ?_
    exact zr_ireturn dX1_isAhead_36 rfl rfl k
  · have k := k.2 hb
    refine zr_aload_n dX1_isAhead_16 rfl rfl ?_
    refine zr_getIv (x := (I c 10)) dX1_isAhead_17 zf_X1_46 rfl (hS.hasC hc) rfl ?_
    refine zr_iconst (v := 4) dX1_isAhead_20 (by decide) ?_
    refine zr_iload_n dX1_isAhead_21 rfl rfl ?_
    refine zr_imul dX1_isAhead_22 ?_
    refine zr_iload_n dX1_isAhead_23 rfl rfl ?_
    refine zr_iadd dX1_isAhead_24 ?_
    refine zr_ishr dX1_isAhead_25 ?_
    refine zr_iconst (v := 1) dX1_isAhead_26 (by decide) ?_
    refine zr_iand dX1_isAhead_27 ?_
    refine zr_ifne (tgt := 35) dX1_isAhead_28 (by decide) (fun hb => ?_) (fun hb => ?_)
    · have k := k.1 hb
      refine zr_iconst (v := 0) dX1_isAhead_35 (by decide) ?_
      exact zr_ireturn dX1_isAhead_36 rfl rfl k
    · have k := k.2 hb
      refine zr_iconst (v := 1) dX1_isAhead_31 (by decide) ?_
      refine zr_goto (tgt := 36) dX1_isAhead_32 (by decide) ?_
      exact zr_ireturn dX1_isAhead_36 rfl rfl k
def p_X1_isAhead (I : zFI) (c : Nat) (v1 : Int32) (v2 : Int32) : Int32 := (if (((I c 10) >>> ((((4 : Int32) * v1) + v2) &&& 31)) &&& (1 : Int32)) = (1 : Int32) then (if (((I c 10) >>> ((((4 : Int32) * v2) + v1) &&& 31)) &&& (1 : Int32)) = 0 then (1 : Int32) else (0 : Int32)) else (0 : Int32))
set_option maxHeartbeats 2000000 in
theorem sp_X1_isAhead {G : Gp} {Q : zPost} {S : zSh} {I : zFI} {L : zFL} {c : Nat} {v1 : Int32} {v2 : Int32} (hS : zStd S) (hc : zCu c) (h : Q (some (.int (p_X1_isAhead I c v1 v2))) S I L) : ZC G mX1_isAhead fX1_isAhead lX1_isAhead [zo G c, .int v1, .int v2] S I L 0 0 Q := by
  refine ZC.of' (vX1_isAhead_0 hS hc ?_) rfl (Nat.le_of_ble_eq_true rfl) rfl
  unfold p_X1_isAhead at h
  refine ⟨fun hb1 => ?_, fun hb1 => ?_⟩
  · rw [if_neg hb1] at h
    exact h
  · rw [if_pos hb1] at h
    refine ⟨fun hb2 => ?_, fun hb2 => ?_⟩
    · rw [if_neg hb2] at h
      exact h
    · rw [if_pos hb2] at h
      exact h
theorem pb_X1_isAhead (I : zFI) (c : Nat) (v1 : Int32) (v2 : Int32) : p_X1_isAhead I c v1 v2 = 0 ∨ p_X1_isAhead I c v1 v2 = 1 := by
  unfold p_X1_isAhead
  repeat' split
  all_goals first | exact Or.inl rfl | exact Or.inr rfl | assumption
set_option maxHeartbeats 2000000 in
theorem vX1_kindValue_0 {G : Gp} {bc bs : Nat} {Q : zPost} {S : zSh} {I : zFI} {L : zFL} {c : Nat} {v1 : Int32} (hS : zStd S) (hc : zCu c) (k : ((v1 < (10 : Int32) → ((v1 < (30 : Int32) → Q (some (.int (-1 : Int32))) S I L) ∧ (¬ v1 < (30 : Int32) → (((46 : Int32) ≤ v1 → Q (some (.int (-1 : Int32))) S I L) ∧ (¬ (46 : Int32) ≤ v1 → (((p_X1_isAhead I c ((v1 - (30 : Int32)) / (4 : Int32)) ((v1 - (30 : Int32)) - (v1 - (30 : Int32)) / (4 : Int32) * (4 : Int32))) = 0 → Q (some (.int (0 : Int32))) S I L) ∧ (¬ (p_X1_isAhead I c ((v1 - (30 : Int32)) / (4 : Int32)) ((v1 - (30 : Int32)) - (v1 - (30 : Int32)) / (4 : Int32) * (4 : Int32))) = 0 → Q (some (.int (1 : Int32))) S I L))))))) ∧ (¬ v1 < (10 : Int32) → (((26 : Int32) ≤ v1 → ((v1 < (30 : Int32) → Q (some (.int (-1 : Int32))) S I L) ∧ (¬ v1 < (30 : Int32) → (((46 : Int32) ≤ v1 → Q (some (.int (-1 : Int32))) S I L) ∧ (¬ (46 : Int32) ≤ v1 → (((p_X1_isAhead I c ((v1 - (30 : Int32)) / (4 : Int32)) ((v1 - (30 : Int32)) - (v1 - (30 : Int32)) / (4 : Int32) * (4 : Int32))) = 0 → Q (some (.int (0 : Int32))) S I L) ∧ (¬ (p_X1_isAhead I c ((v1 - (30 : Int32)) / (4 : Int32)) ((v1 - (30 : Int32)) - (v1 - (30 : Int32)) / (4 : Int32) * (4 : Int32))) = 0 → Q (some (.int (1 : Int32))) S I L))))))) ∧ (¬ (26 : Int32) ≤ v1 → (((p_X1_goesInto I c ((v1 - (10 : Int32)) / (4 : Int32)) ((v1 - (10 : Int32)) - (v1 - (10 : Int32)) / (4 : Int32) * (4 : Int32))) = 0 → Q (some (.int (0 : Int32))) S I L) ∧ (¬ (p_X1_goesInto I c ((v1 - (10 : Int32)) / (4 : Int32)) ((v1 - (10 : Int32)) - (v1 - (10 : Int32)) / (4 : Int32) * (4 : Int32))) = 0 → Q (some (.int (1 : Int32))) S I L))))))) : ZW G mX1_kindValue fX1_kindValue lX1_kindValue 0 [zo G c, .int v1] [] S I L bc bs Q := by
  refine zr_iload_n dX1_kindValue_0 rfl rfl ?_
  refine zr_bipush (v := 10) dX1_kindValue_1 (by decide) ?_
  refine zr_iclt (tgt := 37) dX1_kindValue_3 (by decide) (fun hb => ?_) (fun hb => ?_)
  · have k := k.1 hb
    refine zr_iload_n dX1_kindValue_37 rfl rfl ?_
    refine zr_bipush (v := 30) dX1_kindValue_38 (by decide) ?_
    refine zr_iclt (tgt := 74) dX1_kindValue_40 (by decide) (fun hb => ?_) (fun hb => ?_)
    · have k := k.1 hb
      refine zr_iconst (v := -1) dX1_kindValue_74 (by decide) ?_
      exact zr_ireturn dX1_kindValue_75 rfl rfl k
    · have k := k.2 hb
      refine zr_iload_n dX1_kindValue_43 rfl rfl ?_
      refine zr_bipush (v := 46) dX1_kindValue_44 (by decide) ?_
      refine zr_icge (tgt := 74) dX1_kindValue_46 (by decide) (fun hb => ?_) (fun hb => ?_)
      · have k := k.1 hb
        refine zr_iconst (v := -1) dX1_kindValue_74 (by decide) ?_
        exact zr_ireturn dX1_kindValue_75 rfl rfl k
      · have k := k.2 hb
        refine zr_aload_n dX1_kindValue_49 rfl rfl ?_
        refine zr_iload_n dX1_kindValue_50 rfl rfl ?_
        refine zr_bipush (v := 30) dX1_kindValue_51 (by decide) ?_
        refine zr_isub dX1_kindValue_53 ?_
        refine zr_iconst (v := 4) dX1_kindValue_54 (by decide) ?_
        refine zr_idiv dX1_kindValue_55 (by decide) ?_
        refine zr_iload_n dX1_kindValue_56 rfl rfl ?_
        refine zr_bipush (v := 30) dX1_kindValue_57 (by decide) ?_
        refine zr_isub dX1_kindValue_59 ?_
        refine zr_iconst (v := 4) dX1_kindValue_60 (by decide) ?_
        refine zr_irem dX1_kindValue_61 (by decide) ?_
        refine zr_callV (As := [.int ((v1 - (30 : Int32)) / (4 : Int32)), .int ((v1 - (30 : Int32)) - (v1 - (30 : Int32)) / (4 : Int32) * (4 : Int32))]) (fr' := fX1_isAhead) (lo' := lX1_isAhead) (bc' := 0) (bs' := 0) (bcr := bc) (bsr := bs) dX1_kindValue_62 zs_X1_57 zi_X1_isAhead zcl_1 (hS.hasC hc) rfl rfl (Nat.le_of_ble_eq_true rfl) (Nat.le_of_ble_eq_true rfl) (Nat.le_of_ble_eq_true rfl) (Nat.le_refl _) (Nat.le_refl _) ?_
        refine sp_X1_isAhead hS hc ?_
        show ZW G mX1_kindValue fX1_kindValue lX1_kindValue 65 [zo G c, .int v1] [.int (p_X1_isAhead I c ((v1 - (30 : Int32)) / (4 : Int32)) ((v1 - (30 : Int32)) - (v1 - (30 : Int32)) / (4 : Int32) * (4 : Int32)))] S I L bc bs Q
        refine zr_ifeq (tgt := 72) dX1_kindValue_65 (by decide) (fun hb => ?_) (fun hb => ?_)
        · have k := k.1 hb
          refine zr_iconst (v := 0) dX1_kindValue_72 (by decide) ?_
          exact zr_ireturn dX1_kindValue_73 rfl rfl k
        · have k := k.2 hb
          refine zr_iconst (v := 1) dX1_kindValue_68 (by decide) ?_
          refine zr_goto (tgt := 73) dX1_kindValue_69 (by decide) ?_
          exact zr_ireturn dX1_kindValue_73 rfl rfl k
  · have k := k.2 hb
    refine zr_iload_n dX1_kindValue_6 rfl rfl ?_
    refine zr_bipush (v := 26) dX1_kindValue_7 (by decide) ?_
    refine zr_icge (tgt := 37) dX1_kindValue_9 (by decide) (fun hb => ?_) (fun hb => ?_)
    · have k := k.1 hb
      refine zr_iload_n dX1_kindValue_37 rfl rfl ?_
      refine zr_bipush (v := 30) dX1_kindValue_38 (by decide) ?_
      refine zr_iclt (tgt := 74) dX1_kindValue_40 (by decide) (fun hb => ?_) (fun hb => ?_)
      · have k := k.1 hb
        refine zr_iconst (v := -1) dX1_kindValue_74 (by decide) ?_
        exact zr_ireturn dX1_kindValue_75 rfl rfl k
      · have k := k.2 hb
        refine zr_iload_n dX1_kindValue_43 rfl rfl ?_
        refine zr_bipush (v := 46) dX1_kindValue_44 (by decide) ?_
        refine zr_icge (tgt := 74) dX1_kindValue_46 (by decide) (fun hb => ?_) (fun hb => ?_)
        · have k := k.1 hb
          refine zr_iconst (v := -1) dX1_kindValue_74 (by decide) ?_
          exact zr_ireturn dX1_kindValue_75 rfl rfl k
        · have k := k.2 hb
          refine zr_aload_n dX1_kindValue_49 rfl rfl ?_
          refine zr_iload_n dX1_kindValue_50 rfl rfl ?_
          refine zr_bipush (v := 30) dX1_kindValue_51 (by decide) ?_
          refine zr_isub dX1_kindValue_53 ?_
          refine zr_iconst (v := 4) dX1_kindValue_54 (by decide) ?_
          refine zr_idiv dX1_kindValue_55 (by decide) ?_
          refine zr_iload_n dX1_kindValue_56 rfl rfl ?_
          refine zr_bipush (v := 30) dX1_kindValue_57 (by decide) ?_
          refine zr_isub dX1_kindValue_59 ?_
          refine zr_iconst (v := 4) dX1_kindValue_60 (by decide) ?_
          refine zr_irem dX1_kindValue_61 (by decide) ?_
          refine zr_callV (As := [.int ((v1 - (30 : Int32)) / (4 : Int32)), .int ((v1 - (30 : Int32)) - (v1 - (30 : Int32)) / (4 : Int32) * (4 : Int32))]) (fr' := fX1_isAhead) (lo' := lX1_isAhead) (bc' := 0) (bs' := 0) (bcr := bc) (bsr := bs) dX1_kindValue_62 zs_X1_57 zi_X1_isAhead zcl_1 (hS.hasC hc) rfl rfl (Nat.le_of_ble_eq_true rfl) (Nat.le_of_ble_eq_true rfl) (Nat.le_of_ble_eq_true rfl) (Nat.le_refl _) (Nat.le_refl _) ?_
          refine sp_X1_isAhead hS hc ?_
          show ZW G mX1_kindValue fX1_kindValue lX1_kindValue 65 [zo G c, .int v1] [.int (p_X1_isAhead I c ((v1 - (30 : Int32)) / (4 : Int32)) ((v1 - (30 : Int32)) - (v1 - (30 : Int32)) / (4 : Int32) * (4 : Int32)))] S I L bc bs Q
          refine zr_ifeq (tgt := 72) dX1_kindValue_65 (by decide) (fun hb => ?_) (fun hb => ?_)
          · have k := k.1 hb
            refine zr_iconst (v := 0) dX1_kindValue_72 (by decide) ?_
            exact zr_ireturn dX1_kindValue_73 rfl rfl k
          · have k := k.2 hb
            refine zr_iconst (v := 1) dX1_kindValue_68 (by decide) ?_
            refine zr_goto (tgt := 73) dX1_kindValue_69 (by decide) ?_
            exact zr_ireturn dX1_kindValue_73 rfl rfl k
    · have k := k.2 hb
      refine zr_aload_n dX1_kindValue_12 rfl rfl ?_
      refine zr_iload_n dX1_kindValue_13 rfl rfl ?_
      refine zr_bipush (v := 10) dX1_kindValue_14 (by decide) ?_
      refine zr_isub dX1_kindValue_16 ?_
      refine zr_iconst (v := 4) dX1_kindValue_17 (by decide) ?_
      refine zr_idiv dX1_kindValue_18 (by decide) ?_
      refine zr_iload_n dX1_kindValue_19 rfl rfl ?_
      refine zr_bipush (v := 10) dX1_kindValue_20 (by decide) ?_
      refine zr_isub dX1_kindValue_22 ?_
      refine zr_iconst (v := 4) dX1_kindValue_23 (by decide) ?_
      refine zr_irem dX1_kindValue_24 (by decide) ?_
      refine zr_callV (As := [.int ((v1 - (10 : Int32)) / (4 : Int32)), .int ((v1 - (10 : Int32)) - (v1 - (10 : Int32)) / (4 : Int32) * (4 : Int32))]) (fr' := fX1_goesInto) (lo' := lX1_goesInto) (bc' := 0) (bs' := 0) (bcr := bc) (bsr := bs) dX1_kindValue_25 zs_X1_53 zi_X1_goesInto zcl_1 (hS.hasC hc) rfl rfl (Nat.le_of_ble_eq_true rfl) (Nat.le_of_ble_eq_true rfl) (Nat.le_of_ble_eq_true rfl) (Nat.le_refl _) (Nat.le_refl _) ?_
      refine sp_X1_goesInto hS hc ?_
      show ZW G mX1_kindValue fX1_kindValue lX1_kindValue 28 [zo G c, .int v1] [.int (p_X1_goesInto I c ((v1 - (10 : Int32)) / (4 : Int32)) ((v1 - (10 : Int32)) - (v1 - (10 : Int32)) / (4 : Int32) * (4 : Int32)))] S I L bc bs Q
      refine zr_ifeq (tgt := 35) dX1_kindValue_28 (by decide) (fun hb => ?_) (fun hb => ?_)
      · have k := k.1 hb
        refine zr_iconst (v := 0) dX1_kindValue_35 (by decide) ?_
        exact zr_ireturn dX1_kindValue_36 rfl rfl k
      · have k := k.2 hb
        refine zr_iconst (v := 1) dX1_kindValue_31 (by decide) ?_
        refine zr_goto (tgt := 36) dX1_kindValue_32 (by decide) ?_
        exact zr_ireturn dX1_kindValue_36 rfl rfl k
def p_X1_kindValue (I : zFI) (c : Nat) (v1 : Int32) : Int32 := (if v1 < (10 : Int32) then (if v1 < (30 : Int32) then (-1 : Int32) else (if (46 : Int32) ≤ v1 then (-1 : Int32) else (if (p_X1_isAhead I c ((v1 - (30 : Int32)) / (4 : Int32)) ((v1 - (30 : Int32)) - (v1 - (30 : Int32)) / (4 : Int32) * (4 : Int32))) = 0 then (0 : Int32) else (1 : Int32)))) else (if (26 : Int32) ≤ v1 then (if v1 < (30 : Int32) then (-1 : Int32) else (if (46 : Int32) ≤ v1 then (-1 : Int32) else (if (p_X1_isAhead I c ((v1 - (30 : Int32)) / (4 : Int32)) ((v1 - (30 : Int32)) - (v1 - (30 : Int32)) / (4 : Int32) * (4 : Int32))) = 0 then (0 : Int32) else (1 : Int32)))) else (if (p_X1_goesInto I c ((v1 - (10 : Int32)) / (4 : Int32)) ((v1 - (10 : Int32)) - (v1 - (10 : Int32)) / (4 : Int32) * (4 : Int32))) = 0 then (0 : Int32) else (1 : Int32))))
set_option maxHeartbeats 2000000 in
theorem sp_X1_kindValue {G : Gp} {Q : zPost} {S : zSh} {I : zFI} {L : zFL} {c : Nat} {v1 : Int32} (hS : zStd S) (hc : zCu c) (h : Q (some (.int (p_X1_kindValue I c v1))) S I L) : ZC G mX1_kindValue fX1_kindValue lX1_kindValue [zo G c, .int v1] S I L 0 0 Q := by
  refine ZC.of' (vX1_kindValue_0 hS hc ?_) rfl (Nat.le_of_ble_eq_true rfl) rfl
  unfold p_X1_kindValue at h
  refine ⟨fun hb1 => ?_, fun hb1 => ?_⟩
  · rw [if_pos hb1] at h
    refine ⟨fun hb2 => ?_, fun hb2 => ?_⟩
    · rw [if_pos hb2] at h
      exact h
    · rw [if_neg hb2] at h
      refine ⟨fun hb3 => ?_, fun hb3 => ?_⟩
      · rw [if_pos hb3] at h
        exact h
      · rw [if_neg hb3] at h
        refine ⟨fun hb4 => ?_, fun hb4 => ?_⟩
        · rw [if_pos hb4] at h
          exact h
        · rw [if_neg hb4] at h
          exact h
  · rw [if_neg hb1] at h
    refine ⟨fun hb5 => ?_, fun hb5 => ?_⟩
    · rw [if_pos hb5] at h
      refine ⟨fun hb6 => ?_, fun hb6 => ?_⟩
      · rw [if_pos hb6] at h
        exact h
      · rw [if_neg hb6] at h
        refine ⟨fun hb7 => ?_, fun hb7 => ?_⟩
        · rw [if_pos hb7] at h
          exact h
        · rw [if_neg hb7] at h
          refine ⟨fun hb8 => ?_, fun hb8 => ?_⟩
          · rw [if_pos hb8] at h
            exact h
          · rw [if_neg hb8] at h
            exact h
    · rw [if_neg hb5] at h
      refine ⟨fun hb9 => ?_, fun hb9 => ?_⟩
      · rw [if_pos hb9] at h
        exact h
      · rw [if_neg hb9] at h
        exact h
set_option maxHeartbeats 2000000 in
theorem vX1_value_0 {G : Gp} {bc bs : Nat} {Q : zPost} {S : zSh} {I : zFI} {L : zFL} {c : Nat} {v1 : Int32} (hS : zStd S) (hc : zCu c) (k : ((v1 = 0 → Q (some (.int (I c 0))) S I L) ∧ (v1 = 1 → (((I c 1) = 0 → Q (some (.int (0 : Int32))) S I L) ∧ (¬ (I c 1) = 0 → Q (some (.int (1 : Int32))) S I L))) ∧ (v1 = 2 → Q (some (.int (I c 2))) S I L) ∧ (v1 = 3 → Q (some (.int (I c 3))) S I L) ∧ (v1 = 4 → Q (some (.int (I c 4))) S I L) ∧ (v1 = 5 → Q (some (.int (I c 5))) S I L) ∧ (v1 = 6 → Q (some (.int (I c 6))) S I L) ∧ (v1 = 7 → Q (some (.int (I c 7))) S I L) ∧ (v1 = 8 → Q (some (.int (I c 8))) S I L) ∧ (¬ v1 = 0 → ¬ v1 = 1 → ¬ v1 = 2 → ¬ v1 = 3 → ¬ v1 = 4 → ¬ v1 = 5 → ¬ v1 = 6 → ¬ v1 = 7 → ¬ v1 = 8 → Q (some (.int (p_X1_kindValue I c v1))) S I L))) : ZW G mX1_value fX1_value lX1_value 0 [zo G c, .int v1] [] S I L bc bs Q := by
  refine zr_iload_n dX1_value_0 rfl rfl ?_
  by_cases h0 : v1 = 0
  · have k := k.1 h0
    refine zr_tabIn (off := 51) (tgt := 52) dX1_value_1 (by rw [h0]; decide) (by rw [h0]; decide) (by rw [h0]; rfl) (by decide) ?_
    refine zr_aload_n dX1_value_52 rfl rfl ?_
    refine zr_getIv (x := (I c 0)) dX1_value_53 zf_X1_14 rfl (hS.hasC hc) rfl ?_
    exact zr_ireturn dX1_value_56 rfl rfl k
  · by_cases h1 : v1 = 1
    · have k := k.2.1 h1
      refine zr_tabIn (off := 56) (tgt := 57) dX1_value_1 (by rw [h1]; decide) (by rw [h1]; decide) (by rw [h1]; rfl) (by decide) ?_
      refine zr_aload_n dX1_value_57 rfl rfl ?_
      refine zr_getIv (x := (I c 1)) dX1_value_58 zf_X1_18 rfl (hS.hasC hc) rfl ?_
      refine zr_ifeq (tgt := 68) dX1_value_61 (by decide) (fun hb => ?_) (fun hb => ?_)
      · have k := k.1 hb
        refine zr_iconst (v := 0) dX1_value_68 (by decide) ?_
        exact zr_ireturn dX1_value_69 rfl rfl k
      · have k := k.2 hb
        refine zr_iconst (v := 1) dX1_value_64 (by decide) ?_
        refine zr_goto (tgt := 69) dX1_value_65 (by decide) ?_
        exact zr_ireturn dX1_value_69 rfl rfl k
    · by_cases h2 : v1 = 2
      · have k := k.2.2.1 h2
        refine zr_tabIn (off := 69) (tgt := 70) dX1_value_1 (by rw [h2]; decide) (by rw [h2]; decide) (by rw [h2]; rfl) (by decide) ?_
        refine zr_aload_n dX1_value_70 rfl rfl ?_
        refine zr_getIv (x := (I c 2)) dX1_value_71 zf_X1_22 rfl (hS.hasC hc) rfl ?_
        exact zr_ireturn dX1_value_74 rfl rfl k
      · by_cases h3 : v1 = 3
        · have k := k.2.2.2.1 h3
          refine zr_tabIn (off := 74) (tgt := 75) dX1_value_1 (by rw [h3]; decide) (by rw [h3]; decide) (by rw [h3]; rfl) (by decide) ?_
          refine zr_aload_n dX1_value_75 rfl rfl ?_
          refine zr_getIv (x := (I c 3)) dX1_value_76 zf_X1_25 rfl (hS.hasC hc) rfl ?_
          exact zr_ireturn dX1_value_79 rfl rfl k
        · by_cases h4 : v1 = 4
          · have k := k.2.2.2.2.1 h4
            refine zr_tabIn (off := 79) (tgt := 80) dX1_value_1 (by rw [h4]; decide) (by rw [h4]; decide) (by rw [h4]; rfl) (by decide) ?_
            refine zr_aload_n dX1_value_80 rfl rfl ?_
            refine zr_getIv (x := (I c 4)) dX1_value_81 zf_X1_28 rfl (hS.hasC hc) rfl ?_
            exact zr_ireturn dX1_value_84 rfl rfl k
          · by_cases h5 : v1 = 5
            · have k := k.2.2.2.2.2.1 h5
              refine zr_tabIn (off := 84) (tgt := 85) dX1_value_1 (by rw [h5]; decide) (by rw [h5]; decide) (by rw [h5]; rfl) (by decide) ?_
              refine zr_aload_n dX1_value_85 rfl rfl ?_
              refine zr_getIv (x := (I c 5)) dX1_value_86 zf_X1_31 rfl (hS.hasC hc) rfl ?_
              exact zr_ireturn dX1_value_89 rfl rfl k
            · by_cases h6 : v1 = 6
              · have k := k.2.2.2.2.2.2.1 h6
                refine zr_tabIn (off := 89) (tgt := 90) dX1_value_1 (by rw [h6]; decide) (by rw [h6]; decide) (by rw [h6]; rfl) (by decide) ?_
                refine zr_aload_n dX1_value_90 rfl rfl ?_
                refine zr_getIv (x := (I c 6)) dX1_value_91 zf_X1_34 rfl (hS.hasC hc) rfl ?_
                exact zr_ireturn dX1_value_94 rfl rfl k
              · by_cases h7 : v1 = 7
                · have k := k.2.2.2.2.2.2.2.1 h7
                  refine zr_tabIn (off := 94) (tgt := 95) dX1_value_1 (by rw [h7]; decide) (by rw [h7]; decide) (by rw [h7]; rfl) (by decide) ?_
                  refine zr_aload_n dX1_value_95 rfl rfl ?_
                  refine zr_getIv (x := (I c 7)) dX1_value_96 zf_X1_37 rfl (hS.hasC hc) rfl ?_
                  exact zr_ireturn dX1_value_99 rfl rfl k
                · by_cases h8 : v1 = 8
                  · have k := k.2.2.2.2.2.2.2.2.1 h8
                    refine zr_tabIn (off := 99) (tgt := 100) dX1_value_1 (by rw [h8]; decide) (by rw [h8]; decide) (by rw [h8]; rfl) (by decide) ?_
                    refine zr_aload_n dX1_value_100 rfl rfl ?_
                    refine zr_getIv (x := (I c 8)) dX1_value_101 zf_X1_40 rfl (hS.hasC hc) rfl ?_
                    exact zr_ireturn dX1_value_104 rfl rfl k
                  · have k := k.2.2.2.2.2.2.2.2.2 h0 h1 h2 h3 h4 h5 h6 h7 h8
                    refine zr_tabOut (tgt := 105) dX1_value_1 ?_ (by decide) ?_
                    · have e0 := ztab_ne h0; have e1 := ztab_ne h1; have e2 := ztab_ne h2; have e3 := ztab_ne h3; have e4 := ztab_ne h4; have e5 := ztab_ne h5; have e6 := ztab_ne h6; have e7 := ztab_ne h7; have e8 := ztab_ne h8; simp only [ztabv_0, ztabv_1, ztabv_2, ztabv_3, ztabv_4, ztabv_5, ztabv_6, ztabv_7, ztabv_8] at e0 e1 e2 e3 e4 e5 e6 e7 e8; omega
                    refine zr_aload_n dX1_value_105 rfl rfl ?_
                    refine zr_iload_n dX1_value_106 rfl rfl ?_
                    refine zr_callV (As := [.int v1]) (fr' := fX1_kindValue) (lo' := lX1_kindValue) (bc' := 0) (bs' := 0) (bcr := bc) (bsr := bs) dX1_value_107 zs_X1_49 zi_X1_kindValue zcl_1 (hS.hasC hc) rfl rfl (Nat.le_of_ble_eq_true rfl) (Nat.le_of_ble_eq_true rfl) (Nat.le_of_ble_eq_true rfl) (Nat.le_refl _) (Nat.le_refl _) ?_
                    refine sp_X1_kindValue hS hc ?_
                    show ZW G mX1_value fX1_value lX1_value 110 [zo G c, .int v1] [.int (p_X1_kindValue I c v1)] S I L bc bs Q
                    exact zr_ireturn dX1_value_110 rfl rfl k
def p_X1_value (I : zFI) (c : Nat) (v1 : Int32) : Int32 := (if v1 = 0 then (I c 0) else (if v1 = 1 then (if (I c 1) = 0 then (0 : Int32) else (1 : Int32)) else (if v1 = 2 then (I c 2) else (if v1 = 3 then (I c 3) else (if v1 = 4 then (I c 4) else (if v1 = 5 then (I c 5) else (if v1 = 6 then (I c 6) else (if v1 = 7 then (I c 7) else (if v1 = 8 then (I c 8) else (p_X1_kindValue I c v1))))))))))
set_option maxHeartbeats 2000000 in
theorem sp_X1_value {G : Gp} {Q : zPost} {S : zSh} {I : zFI} {L : zFL} {c : Nat} {v1 : Int32} (hS : zStd S) (hc : zCu c) (h : Q (some (.int (p_X1_value I c v1))) S I L) : ZC G mX1_value fX1_value lX1_value [zo G c, .int v1] S I L 0 0 Q := by
  refine ZC.of' (vX1_value_0 hS hc ?_) rfl (Nat.le_of_ble_eq_true rfl) rfl
  unfold p_X1_value at h
  refine ⟨?_, ?_, ?_, ?_, ?_, ?_, ?_, ?_, ?_, ?_⟩
  · intro hz
    rw [if_pos hz] at h
    exact h
  · intro hz
    rw [if_neg (by rw [hz]; decide), if_pos hz] at h
    refine ⟨fun hb1 => ?_, fun hb1 => ?_⟩
    · rw [if_pos hb1] at h
      exact h
    · rw [if_neg hb1] at h
      exact h
  · intro hz
    rw [if_neg (by rw [hz]; decide), if_neg (by rw [hz]; decide), if_pos hz] at h
    exact h
  · intro hz
    rw [if_neg (by rw [hz]; decide), if_neg (by rw [hz]; decide), if_neg (by rw [hz]; decide), if_pos hz] at h
    exact h
  · intro hz
    rw [if_neg (by rw [hz]; decide), if_neg (by rw [hz]; decide), if_neg (by rw [hz]; decide), if_neg (by rw [hz]; decide), if_pos hz] at h
    exact h
  · intro hz
    rw [if_neg (by rw [hz]; decide), if_neg (by rw [hz]; decide), if_neg (by rw [hz]; decide), if_neg (by rw [hz]; decide), if_neg (by rw [hz]; decide), if_pos hz] at h
    exact h
  · intro hz
    rw [if_neg (by rw [hz]; decide), if_neg (by rw [hz]; decide), if_neg (by rw [hz]; decide), if_neg (by rw [hz]; decide), if_neg (by rw [hz]; decide), if_neg (by rw [hz]; decide), if_pos hz] at h
    exact h
  · intro hz
    rw [if_neg (by rw [hz]; decide), if_neg (by rw [hz]; decide), if_neg (by rw [hz]; decide), if_neg (by rw [hz]; decide), if_neg (by rw [hz]; decide), if_neg (by rw [hz]; decide), if_neg (by rw [hz]; decide), if_pos hz] at h
    exact h
  · intro hz
    rw [if_neg (by rw [hz]; decide), if_neg (by rw [hz]; decide), if_neg (by rw [hz]; decide), if_neg (by rw [hz]; decide), if_neg (by rw [hz]; decide), if_neg (by rw [hz]; decide), if_neg (by rw [hz]; decide), if_neg (by rw [hz]; decide), if_pos hz] at h
    exact h
  · intro hs1_0 hs1_1 hs1_2 hs1_3 hs1_4 hs1_5 hs1_6 hs1_7 hs1_8
    rw [if_neg hs1_0, if_neg hs1_1, if_neg hs1_2, if_neg hs1_3, if_neg hs1_4, if_neg hs1_5, if_neg hs1_6, if_neg hs1_7, if_neg hs1_8] at h
    exact h
set_option maxHeartbeats 2000000 in
theorem vX2_faultKind_0 {G : Gp} {bc bs : Nat} {Q : zPost} {S : zSh} {I : zFI} {L : zFL}  (hS : zStd S)  (k : Q (some (.int (I 3 5))) S I L) : ZW G mX2_faultKind fX2_faultKind lX2_faultKind 0 [zo G 3] [] S I L bc bs Q := by
  refine zr_aload_n dX2_faultKind_0 rfl rfl ?_
  refine zr_getIv (x := (I 3 5)) dX2_faultKind_1 zf_X2_28 rfl (hS.has (a := 3) rfl rfl) rfl ?_
  exact zr_ireturn dX2_faultKind_4 rfl rfl k
def p_X2_faultKind (I : zFI)  : Int32 := (I 3 5)
set_option maxHeartbeats 2000000 in
theorem sp_X2_faultKind {G : Gp} {Q : zPost} {S : zSh} {I : zFI} {L : zFL}  (hS : zStd S)  (h : Q (some (.int (p_X2_faultKind I ))) S I L) : ZC G mX2_faultKind fX2_faultKind lX2_faultKind [zo G 3] S I L 0 0 Q := by
  refine ZC.of' (vX2_faultKind_0 hS  ?_) rfl (Nat.le_of_ble_eq_true rfl) rfl
  unfold p_X2_faultKind at h
  exact h
set_option maxHeartbeats 2000000 in
theorem vX2_faultPlace_0 {G : Gp} {bc bs : Nat} {Q : zPost} {S : zSh} {I : zFI} {L : zFL}  (hS : zStd S)  (k : Q (some (.int (I 3 6))) S I L) : ZW G mX2_faultPlace fX2_faultPlace lX2_faultPlace 0 [zo G 3] [] S I L bc bs Q := by
  refine zr_aload_n dX2_faultPlace_0 rfl rfl ?_
  refine zr_getIv (x := (I 3 6)) dX2_faultPlace_1 zf_X2_31 rfl (hS.has (a := 3) rfl rfl) rfl ?_
  exact zr_ireturn dX2_faultPlace_4 rfl rfl k
def p_X2_faultPlace (I : zFI)  : Int32 := (I 3 6)
set_option maxHeartbeats 2000000 in
theorem sp_X2_faultPlace {G : Gp} {Q : zPost} {S : zSh} {I : zFI} {L : zFL}  (hS : zStd S)  (h : Q (some (.int (p_X2_faultPlace I ))) S I L) : ZC G mX2_faultPlace fX2_faultPlace lX2_faultPlace [zo G 3] S I L 0 0 Q := by
  refine ZC.of' (vX2_faultPlace_0 hS  ?_) rfl (Nat.le_of_ble_eq_true rfl) rfl
  unfold p_X2_faultPlace at h
  exact h
set_option maxHeartbeats 2000000 in
theorem vX9_size_0 {G : Gp} {bc bs : Nat} {Q : zPost} {S : zSh} {I : zFI} {L : zFL}  (hS : zStd S)  (k : Q (some (.int (I 1 1))) S I L) : ZW G mX9_size fX9_size lX9_size 0 [zo G 1] [] S I L bc bs Q := by
  refine zr_aload_n dX9_size_0 rfl rfl ?_
  refine zr_getIv (x := (I 1 1)) dX9_size_1 zf_X9_15 rfl (hS.has (a := 1) rfl rfl) rfl ?_
  exact zr_ireturn dX9_size_4 rfl rfl k
def p_X9_size (I : zFI)  : Int32 := (I 1 1)
set_option maxHeartbeats 2000000 in
theorem sp_X9_size {G : Gp} {Q : zPost} {S : zSh} {I : zFI} {L : zFL}  (hS : zStd S)  (h : Q (some (.int (p_X9_size I ))) S I L) : ZC G mX9_size fX9_size lX9_size [zo G 1] S I L 0 0 Q := by
  refine ZC.of' (vX9_size_0 hS  ?_) rfl (Nat.le_of_ble_eq_true rfl) rfl
  unfold p_X9_size at h
  exact h
set_option maxHeartbeats 2000000 in
theorem vX9_byteAt_0 {G : Gp} {bc bs : Nat} {Q : zPost} {S : zSh} {I : zFI} {L : zFL} {v1 : Int32} (hS : zStd S)  (k : ((v1 < 0 → Q (some (.int (-1 : Int32))) S I L) ∧ (¬ v1 < 0 → (((I 1 1) ≤ v1 → Q (some (.int (-1 : Int32))) S I L) ∧ (¬ (I 1 1) ≤ v1 → (((800 : Int32) ≤ v1 → Q (some (.int (-1 : Int32))) S I L) ∧ (¬ (800 : Int32) ≤ v1 → vp_in v1 800 ∧ Q (some (.int (I 2 v1.toNatClampNeg))) S I L))))))) : ZW G mX9_byteAt fX9_byteAt lX9_byteAt 0 [zo G 1, .int v1] [] S I L bc bs Q := by
  refine zr_iload_n dX9_byteAt_0 rfl rfl ?_
  refine zr_iflt (tgt := 28) dX9_byteAt_1 (by decide) (fun hb => ?_) (fun hb => ?_)
  · have k := k.1 hb
    refine zr_iconst (v := -1) dX9_byteAt_28 (by decide) ?_
    exact zr_ireturn dX9_byteAt_29 rfl rfl k
  · have k := k.2 hb
    refine zr_iload_n dX9_byteAt_4 rfl rfl ?_
    refine zr_aload_n dX9_byteAt_5 rfl rfl ?_
    refine zr_getIv (x := (I 1 1)) dX9_byteAt_6 zf_X9_15 rfl (hS.has (a := 1) rfl rfl) rfl ?_
    refine zr_icge (tgt := 28) dX9_byteAt_9 (by decide) (fun hb => ?_) (fun hb => ?_)
    · have k := k.1 hb
      refine zr_iconst (v := -1) dX9_byteAt_28 (by decide) ?_
      exact zr_ireturn dX9_byteAt_29 rfl rfl k
    · have k := k.2 hb
      refine zr_iload_n dX9_byteAt_12 rfl rfl ?_
      refine zr_sipush (v := 800) dX9_byteAt_13 (by decide) ?_
      refine zr_icge (tgt := 28) dX9_byteAt_16 (by decide) (fun hb => ?_) (fun hb => ?_)
      · have k := k.1 hb
        refine zr_iconst (v := -1) dX9_byteAt_28 (by decide) ?_
        exact zr_ireturn dX9_byteAt_29 rfl rfl k
      · have k := k.2 hb
        refine zr_aload_n dX9_byteAt_19 rfl rfl ?_
        refine zr_getR dX9_byteAt_20 zf_X9_11 rfl (hS.has (a := 1) rfl rfl) (hS.ref (a := 2) rfl) ?_
        refine zr_iload_n dX9_byteAt_23 rfl rfl ?_
        obtain ⟨hi1, k⟩ := k
        refine zr_ialdv (x := (I 2 v1.toNatClampNeg)) dX9_byteAt_24 (hS.has (a := 2) rfl rfl) hi1 rfl ?_
        refine zr_goto (tgt := 29) dX9_byteAt_25 (by decide) ?_
        exact zr_ireturn dX9_byteAt_29 rfl rfl k
def p_X9_byteAt (I : zFI) (v1 : Int32) : Int32 := (if v1 < 0 then (-1 : Int32) else (if (I 1 1) ≤ v1 then (-1 : Int32) else (if (800 : Int32) ≤ v1 then (-1 : Int32) else (I 2 v1.toNatClampNeg))))
set_option maxHeartbeats 2000000 in
theorem sp_X9_byteAt {G : Gp} {Q : zPost} {S : zSh} {I : zFI} {L : zFL} {v1 : Int32} (hS : zStd S)  (h : Q (some (.int (p_X9_byteAt I v1))) S I L) : ZC G mX9_byteAt fX9_byteAt lX9_byteAt [zo G 1, .int v1] S I L 0 0 Q := by
  refine ZC.of' (vX9_byteAt_0 hS  ?_) rfl (Nat.le_of_ble_eq_true rfl) rfl
  unfold p_X9_byteAt at h
  refine ⟨fun hb1 => ?_, fun hb1 => ?_⟩
  · rw [if_pos hb1] at h
    exact h
  · rw [if_neg hb1] at h
    refine ⟨fun hb2 => ?_, fun hb2 => ?_⟩
    · rw [if_pos hb2] at h
      exact h
    · rw [if_neg hb2] at h
      refine ⟨fun hb3 => ?_, fun hb3 => ?_⟩
      · rw [if_pos hb3] at h
        exact h
      · rw [if_neg hb3] at h
        refine ⟨zvin (m := 800) rfl (by first | lia) (by first | lia), ?_⟩
        exact h
set_option maxHeartbeats 2000000 in
theorem vX2_isLetter_0 {G : Gp} {bc bs : Nat} {Q : zPost} {S : zSh} {I : zFI} {L : zFL} {v0 : Int32} (hS : zStd S)  (k : ((v0 < (97 : Int32) → ((v0 < (65 : Int32) → Q (some (.int (0 : Int32))) S I L) ∧ (¬ v0 < (65 : Int32) → (((90 : Int32) < v0 → Q (some (.int (0 : Int32))) S I L) ∧ (¬ (90 : Int32) < v0 → Q (some (.int (1 : Int32))) S I L))))) ∧ (¬ v0 < (97 : Int32) → ((v0 ≤ (122 : Int32) → Q (some (.int (1 : Int32))) S I L) ∧ (¬ v0 ≤ (122 : Int32) → ((v0 < (65 : Int32) → Q (some (.int (0 : Int32))) S I L) ∧ (¬ v0 < (65 : Int32) → (((90 : Int32) < v0 → Q (some (.int (0 : Int32))) S I L) ∧ (¬ (90 : Int32) < v0 → Q (some (.int (1 : Int32))) S I L))))))))) : ZW G mX2_isLetter fX2_isLetter lX2_isLetter 0 [.int v0] [] S I L bc bs Q := by
  refine zr_iload_n dX2_isLetter_0 rfl rfl ?_
  refine zr_bipush (v := 97) dX2_isLetter_1 (by decide) ?_
  refine zr_iclt (tgt := 12) dX2_isLetter_3 (by decide) (fun hb => ?_) (fun hb => ?_)
  · have k := k.1 hb
    refine zr_iload_n dX2_isLetter_12 rfl rfl ?_
    refine zr_bipush (v := 65) dX2_isLetter_13 (by decide) ?_
    refine zr_iclt (tgt := 28) dX2_isLetter_15 (by decide) (fun hb => ?_) (fun hb => ?_)
    · have k := k.1 hb
      refine zr_iconst (v := 0) dX2_isLetter_28 (by decide) ?_
      exact zr_ireturn dX2_isLetter_29 rfl rfl k
    · have k := k.2 hb
      refine zr_iload_n dX2_isLetter_18 rfl rfl ?_
      refine zr_bipush (v := 90) dX2_isLetter_19 (by decide) ?_
      refine zr_icgt (tgt := 28) dX2_isLetter_21 (by decide) (fun hb => ?_) (fun hb => ?_)
      · have k := k.1 hb
        refine zr_iconst (v := 0) dX2_isLetter_28 (by decide) ?_
        exact zr_ireturn dX2_isLetter_29 rfl rfl k
      · have k := k.2 hb
        refine zr_iconst (v := 1) dX2_isLetter_24 (by decide) ?_
        refine zr_goto (tgt := 29) dX2_isLetter_25 (by decide) ?_
        exact zr_ireturn dX2_isLetter_29 rfl rfl k
  · have k := k.2 hb
    refine zr_iload_n dX2_isLetter_6 rfl rfl ?_
    refine zr_bipush (v := 122) dX2_isLetter_7 (by decide) ?_
    refine zr_icle (tgt := 24) dX2_isLetter_9 (by decide) (fun hb => ?_) (fun hb => ?_)
    · have k := k.1 hb
      refine zr_iconst (v := 1) dX2_isLetter_24 (by decide) ?_
      refine zr_goto (tgt := 29) dX2_isLetter_25 (by decide) ?_
      exact zr_ireturn dX2_isLetter_29 rfl rfl k
    · have k := k.2 hb
      refine zr_iload_n dX2_isLetter_12 rfl rfl ?_
      refine zr_bipush (v := 65) dX2_isLetter_13 (by decide) ?_
      refine zr_iclt (tgt := 28) dX2_isLetter_15 (by decide) (fun hb => ?_) (fun hb => ?_)
      · have k := k.1 hb
        refine zr_iconst (v := 0) dX2_isLetter_28 (by decide) ?_
        exact zr_ireturn dX2_isLetter_29 rfl rfl k
      · have k := k.2 hb
        refine zr_iload_n dX2_isLetter_18 rfl rfl ?_
        refine zr_bipush (v := 90) dX2_isLetter_19 (by decide) ?_
        refine zr_icgt (tgt := 28) dX2_isLetter_21 (by decide) (fun hb => ?_) (fun hb => ?_)
        · have k := k.1 hb
          refine zr_iconst (v := 0) dX2_isLetter_28 (by decide) ?_
          exact zr_ireturn dX2_isLetter_29 rfl rfl k
        · have k := k.2 hb
          refine zr_iconst (v := 1) dX2_isLetter_24 (by decide) ?_
          refine zr_goto (tgt := 29) dX2_isLetter_25 (by decide) ?_
          exact zr_ireturn dX2_isLetter_29 rfl rfl k
def p_X2_isLetter  (v0 : Int32) : Int32 := (if v0 < (97 : Int32) then (if v0 < (65 : Int32) then (0 : Int32) else (if (90 : Int32) < v0 then (0 : Int32) else (1 : Int32))) else (if v0 ≤ (122 : Int32) then (1 : Int32) else (if v0 < (65 : Int32) then (0 : Int32) else (if (90 : Int32) < v0 then (0 : Int32) else (1 : Int32)))))
set_option maxHeartbeats 2000000 in
theorem sp_X2_isLetter {G : Gp} {Q : zPost} {S : zSh} {I : zFI} {L : zFL} {v0 : Int32} (hS : zStd S)  (h : Q (some (.int (p_X2_isLetter  v0))) S I L) : ZC G mX2_isLetter fX2_isLetter lX2_isLetter [.int v0] S I L 0 0 Q := by
  refine ZC.of' (vX2_isLetter_0 hS  ?_) rfl (Nat.le_of_ble_eq_true rfl) rfl
  unfold p_X2_isLetter at h
  refine ⟨fun hb1 => ?_, fun hb1 => ?_⟩
  · rw [if_pos hb1] at h
    refine ⟨fun hb2 => ?_, fun hb2 => ?_⟩
    · rw [if_pos hb2] at h
      exact h
    · rw [if_neg hb2] at h
      refine ⟨fun hb3 => ?_, fun hb3 => ?_⟩
      · rw [if_pos hb3] at h
        exact h
      · rw [if_neg hb3] at h
        exact h
  · rw [if_neg hb1] at h
    refine ⟨fun hb4 => ?_, fun hb4 => ?_⟩
    · rw [if_pos hb4] at h
      exact h
    · rw [if_neg hb4] at h
      refine ⟨fun hb5 => ?_, fun hb5 => ?_⟩
      · rw [if_pos hb5] at h
        exact h
      · rw [if_neg hb5] at h
        refine ⟨fun hb6 => ?_, fun hb6 => ?_⟩
        · rw [if_pos hb6] at h
          exact h
        · rw [if_neg hb6] at h
          exact h
theorem pb_X2_isLetter  (v0 : Int32) : p_X2_isLetter  v0 = 0 ∨ p_X2_isLetter  v0 = 1 := by
  unfold p_X2_isLetter
  repeat' split
  all_goals first | exact Or.inl rfl | exact Or.inr rfl | assumption
set_option maxHeartbeats 2000000 in
theorem vX2_isDigit_0 {G : Gp} {bc bs : Nat} {Q : zPost} {S : zSh} {I : zFI} {L : zFL} {v0 : Int32} (hS : zStd S)  (k : ((v0 < (48 : Int32) → Q (some (.int (0 : Int32))) S I L) ∧ (¬ v0 < (48 : Int32) → (((57 : Int32) < v0 → Q (some (.int (0 : Int32))) S I L) ∧ (¬ (57 : Int32) < v0 → Q (some (.int (1 : Int32))) S I L))))) : ZW G mX2_isDigit fX2_isDigit lX2_isDigit 0 [.int v0] [] S I L bc bs Q := by
  refine zr_iload_n dX2_isDigit_0 rfl rfl ?_
  refine zr_bipush (v := 48) dX2_isDigit_1 (by decide) ?_
  refine zr_iclt (tgt := 16) dX2_isDigit_3 (by decide) (fun hb => ?_) (fun hb => ?_)
  · have k := k.1 hb
    refine zr_iconst (v := 0) dX2_isDigit_16 (by decide) ?_
    exact zr_ireturn dX2_isDigit_17 rfl rfl k
  · have k := k.2 hb
    refine zr_iload_n dX2_isDigit_6 rfl rfl ?_
    refine zr_bipush (v := 57) dX2_isDigit_7 (by decide) ?_
    refine zr_icgt (tgt := 16) dX2_isDigit_9 (by decide) (fun hb => ?_) (fun hb => ?_)
    · have k := k.1 hb
      refine zr_iconst (v := 0) dX2_isDigit_16 (by decide) ?_
      exact zr_ireturn dX2_isDigit_17 rfl rfl k
    · have k := k.2 hb
      refine zr_iconst (v := 1) dX2_isDigit_12 (by decide) ?_
      refine zr_goto (tgt := 17) dX2_isDigit_13 (by decide) ?_
      exact zr_ireturn dX2_isDigit_17 rfl rfl k
def p_X2_isDigit  (v0 : Int32) : Int32 := (if v0 < (48 : Int32) then (0 : Int32) else (if (57 : Int32) < v0 then (0 : Int32) else (1 : Int32)))
set_option maxHeartbeats 2000000 in
theorem sp_X2_isDigit {G : Gp} {Q : zPost} {S : zSh} {I : zFI} {L : zFL} {v0 : Int32} (hS : zStd S)  (h : Q (some (.int (p_X2_isDigit  v0))) S I L) : ZC G mX2_isDigit fX2_isDigit lX2_isDigit [.int v0] S I L 0 0 Q := by
  refine ZC.of' (vX2_isDigit_0 hS  ?_) rfl (Nat.le_of_ble_eq_true rfl) rfl
  unfold p_X2_isDigit at h
  refine ⟨fun hb1 => ?_, fun hb1 => ?_⟩
  · rw [if_pos hb1] at h
    exact h
  · rw [if_neg hb1] at h
    refine ⟨fun hb2 => ?_, fun hb2 => ?_⟩
    · rw [if_pos hb2] at h
      exact h
    · rw [if_neg hb2] at h
      exact h
theorem pb_X2_isDigit  (v0 : Int32) : p_X2_isDigit  v0 = 0 ∨ p_X2_isDigit  v0 = 1 := by
  unfold p_X2_isDigit
  repeat' split
  all_goals first | exact Or.inl rfl | exact Or.inr rfl | assumption
set_option maxHeartbeats 2000000 in
theorem vX2_isBlank_0 {G : Gp} {bc bs : Nat} {Q : zPost} {S : zSh} {I : zFI} {L : zFL} {v0 : Int32} (hS : zStd S)  (k : ((v0 = (32 : Int32) → Q (some (.int (1 : Int32))) S I L) ∧ (¬ v0 = (32 : Int32) → ((¬ v0 = (10 : Int32) → Q (some (.int (0 : Int32))) S I L) ∧ (v0 = (10 : Int32) → Q (some (.int (1 : Int32))) S I L))))) : ZW G mX2_isBlank fX2_isBlank lX2_isBlank 0 [.int v0] [] S I L bc bs Q := by
  refine zr_iload_n dX2_isBlank_0 rfl rfl ?_
  refine zr_bipush (v := 32) dX2_isBlank_1 (by decide) ?_
  refine zr_iceq (tgt := 12) dX2_isBlank_3 (by decide) (fun hb => ?_) (fun hb => ?_)
  · have k := k.1 hb
    refine zr_iconst (v := 1) dX2_isBlank_12 (by decide) ?_
    refine zr_goto (tgt := 17) dX2_isBlank_13 (by decide) ?_
    exact zr_ireturn dX2_isBlank_17 rfl rfl k
  · have k := k.2 hb
    refine zr_iload_n dX2_isBlank_6 rfl rfl ?_
    refine zr_bipush (v := 10) dX2_isBlank_7 (by decide) ?_
    refine zr_icne (tgt := 16) dX2_isBlank_9 (by decide) (fun hb => ?_) (fun hb => ?_)
    · have k := k.1 hb
      refine zr_iconst (v := 0) dX2_isBlank_16 (by decide) ?_
      exact zr_ireturn dX2_isBlank_17 rfl rfl k
    · have k := k.2 hb
      refine zr_iconst (v := 1) dX2_isBlank_12 (by decide) ?_
      refine zr_goto (tgt := 17) dX2_isBlank_13 (by decide) ?_
      exact zr_ireturn dX2_isBlank_17 rfl rfl k
def p_X2_isBlank  (v0 : Int32) : Int32 := (if v0 = (32 : Int32) then (1 : Int32) else (if v0 = (10 : Int32) then (1 : Int32) else (0 : Int32)))
set_option maxHeartbeats 2000000 in
theorem sp_X2_isBlank {G : Gp} {Q : zPost} {S : zSh} {I : zFI} {L : zFL} {v0 : Int32} (hS : zStd S)  (h : Q (some (.int (p_X2_isBlank  v0))) S I L) : ZC G mX2_isBlank fX2_isBlank lX2_isBlank [.int v0] S I L 0 0 Q := by
  refine ZC.of' (vX2_isBlank_0 hS  ?_) rfl (Nat.le_of_ble_eq_true rfl) rfl
  unfold p_X2_isBlank at h
  refine ⟨fun hb1 => ?_, fun hb1 => ?_⟩
  · rw [if_pos hb1] at h
    exact h
  · rw [if_neg hb1] at h
    refine ⟨fun hb2 => ?_, fun hb2 => ?_⟩
    · rw [if_neg hb2] at h
      exact h
    · rw [if_pos hb2] at h
      exact h
theorem pb_X2_isBlank  (v0 : Int32) : p_X2_isBlank  v0 = 0 ∨ p_X2_isBlank  v0 = 1 := by
  unfold p_X2_isBlank
  repeat' split
  all_goals first | exact Or.inl rfl | exact Or.inr rfl | assumption
set_option maxHeartbeats 2000000 in
theorem vX2_beginsToken_0 {G : Gp} {bc bs : Nat} {Q : zPost} {S : zSh} {I : zFI} {L : zFL} {v1 : Int32} (hS : zStd S)  (k : (((p_X2_isLetter (p_X9_byteAt I v1)) = 0 → (((p_X2_isDigit (p_X9_byteAt I v1)) = 0 → ((¬ (p_X2_isBlank (p_X9_byteAt I v1)) = 0 → Q (some (.int (0 : Int32))) S I L) ∧ ((p_X2_isBlank (p_X9_byteAt I v1)) = 0 → Q (some (.int (1 : Int32))) S I L))) ∧ (¬ (p_X2_isDigit (p_X9_byteAt I v1)) = 0 → ((¬ (p_X2_isDigit (p_X9_byteAt I (v1 - (1 : Int32)))) = 0 → Q (some (.int (0 : Int32))) S I L) ∧ ((p_X2_isDigit (p_X9_byteAt I (v1 - (1 : Int32)))) = 0 → Q (some (.int (1 : Int32))) S I L))))) ∧ (¬ (p_X2_isLetter (p_X9_byteAt I v1)) = 0 → ((¬ (p_X2_isLetter (p_X9_byteAt I (v1 - (1 : Int32)))) = 0 → Q (some (.int (0 : Int32))) S I L) ∧ ((p_X2_isLetter (p_X9_byteAt I (v1 - (1 : Int32)))) = 0 → Q (some (.int (1 : Int32))) S I L))))) : ZW G mX2_beginsToken fX2_beginsToken lX2_beginsToken 0 [zo G 1, .int v1, .null, .null] [] S I L bc bs Q := by
  refine zr_aload_n dX2_beginsToken_0 rfl rfl ?_
  refine zr_iload_n dX2_beginsToken_1 rfl rfl ?_
  refine zr_callV (As := [.int v1]) (fr' := fX9_byteAt) (lo' := lX9_byteAt) (bc' := 0) (bs' := 0) (bcr := bc) (bsr := bs) dX2_beginsToken_2 zs_X2_131 zi_X9_byteAt zcl_9 (hS.has (a := 1) rfl rfl) rfl rfl (Nat.le_of_ble_eq_true rfl) (Nat.le_of_ble_eq_true rfl) (Nat.le_of_ble_eq_true rfl) (Nat.le_refl _) (Nat.le_refl _) ?_
  refine sp_X9_byteAt hS  ?_
  show ZW G mX2_beginsToken fX2_beginsToken lX2_beginsToken 5 [zo G 1, .int v1, .null, .null] [.int (p_X9_byteAt I v1)] S I L bc bs Q
  refine zr_istore_n dX2_beginsToken_5 rfl (Nat.le_of_ble_eq_true rfl) rfl ?_
  refine zr_aload_n dX2_beginsToken_6 rfl rfl ?_
  refine zr_iload_n dX2_beginsToken_7 rfl rfl ?_
  refine zr_iconst (v := 1) dX2_beginsToken_8 (by decide) ?_
  refine zr_isub dX2_beginsToken_9 ?_
  refine zr_callV (As := [.int (v1 - (1 : Int32))]) (fr' := fX9_byteAt) (lo' := lX9_byteAt) (bc' := 0) (bs' := 0) (bcr := bc) (bsr := bs) dX2_beginsToken_10 zs_X2_131 zi_X9_byteAt zcl_9 (hS.has (a := 1) rfl rfl) rfl rfl (Nat.le_of_ble_eq_true rfl) (Nat.le_of_ble_eq_true rfl) (Nat.le_of_ble_eq_true rfl) (Nat.le_refl _) (Nat.le_refl _) ?_
  refine sp_X9_byteAt hS  ?_
  show ZW G mX2_beginsToken fX2_beginsToken lX2_beginsToken 13 [zo G 1, .int v1, .int (p_X9_byteAt I v1), .null] [.int (p_X9_byteAt I (v1 - (1 : Int32)))] S I L bc bs Q
  refine zr_istore_n dX2_beginsToken_13 rfl (Nat.le_of_ble_eq_true rfl) rfl ?_
  refine zr_iload_n dX2_beginsToken_14 rfl rfl ?_
  refine zr_callS (As := [.int (p_X9_byteAt I v1)]) (fr' := fX2_isLetter) (lo' := lX2_isLetter) (bc' := 0) (bs' := 0) (bcr := bc) (bsr := bs) dX2_beginsToken_15 zs_X2_135 zst_X2_isLetter rfl rfl (Nat.le_of_ble_eq_true rfl) (Nat.le_of_ble_eq_true rfl) (Nat.le_of_ble_eq_true rfl) (Nat.le_refl _) (Nat.le_refl _) ?_
  refine sp_X2_isLetter hS  ?_
  show ZW G mX2_beginsToken fX2_beginsToken lX2_beginsToken 18 [zo G 1, .int v1, .int (p_X9_byteAt I v1), .int (p_X9_byteAt I (v1 - (1 : Int32)))] [.int (p_X2_isLetter (p_X9_byteAt I v1))] S I L bc bs Q
  refine zr_ifeq (tgt := 34) dX2_beginsToken_18 (by decide) (fun hb => ?_) (fun hb => ?_)
  · have k := k.1 hb
    refine zr_iload_n dX2_beginsToken_34 rfl rfl ?_
    refine zr_callS (As := [.int (p_X9_byteAt I v1)]) (fr' := fX2_isDigit) (lo' := lX2_isDigit) (bc' := 0) (bs' := 0) (bcr := bc) (bsr := bs) dX2_beginsToken_35 zs_X2_139 zst_X2_isDigit rfl rfl (Nat.le_of_ble_eq_true rfl) (Nat.le_of_ble_eq_true rfl) (Nat.le_of_ble_eq_true rfl) (Nat.le_refl _) (Nat.le_refl _) ?_
    refine sp_X2_isDigit hS  ?_
    show ZW G mX2_beginsToken fX2_beginsToken lX2_beginsToken 38 [zo G 1, .int v1, .int (p_X9_byteAt I v1), .int (p_X9_byteAt I (v1 - (1 : Int32)))] [.int (p_X2_isDigit (p_X9_byteAt I v1))] S I L bc bs Q
    refine zr_ifeq (tgt := 56) dX2_beginsToken_38 (by decide) (fun hb => ?_) (fun hb => ?_)
    · have k := k.1 hb
      refine zr_iload_n dX2_beginsToken_56 rfl rfl ?_
      refine zr_callS (As := [.int (p_X9_byteAt I v1)]) (fr' := fX2_isBlank) (lo' := lX2_isBlank) (bc' := 0) (bs' := 0) (bcr := bc) (bsr := bs) dX2_beginsToken_57 zs_X2_142 zst_X2_isBlank rfl rfl (Nat.le_of_ble_eq_true rfl) (Nat.le_of_ble_eq_true rfl) (Nat.le_of_ble_eq_true rfl) (Nat.le_refl _) (Nat.le_refl _) ?_
      refine sp_X2_isBlank hS  ?_
      show ZW G mX2_beginsToken fX2_beginsToken lX2_beginsToken 60 [zo G 1, .int v1, .int (p_X9_byteAt I v1), .int (p_X9_byteAt I (v1 - (1 : Int32)))] [.int (p_X2_isBlank (p_X9_byteAt I v1))] S I L bc bs Q
      refine zr_ifne (tgt := 67) dX2_beginsToken_60 (by decide) (fun hb => ?_) (fun hb => ?_)
      · have k := k.1 hb
        refine zr_iconst (v := 0) dX2_beginsToken_67 (by decide) ?_
        exact zr_ireturn dX2_beginsToken_68 rfl rfl k
      · have k := k.2 hb
        refine zr_iconst (v := 1) dX2_beginsToken_63 (by decide) ?_
        refine zr_goto (tgt := 68) dX2_beginsToken_64 (by decide) ?_
        exact zr_ireturn dX2_beginsToken_68 rfl rfl k
    · have k := k.2 hb
      refine zr_iload_n dX2_beginsToken_41 rfl rfl ?_
      refine zr_callS (As := [.int (p_X9_byteAt I (v1 - (1 : Int32)))]) (fr' := fX2_isDigit) (lo' := lX2_isDigit) (bc' := 0) (bs' := 0) (bcr := bc) (bsr := bs) dX2_beginsToken_42 zs_X2_139 zst_X2_isDigit rfl rfl (Nat.le_of_ble_eq_true rfl) (Nat.le_of_ble_eq_true rfl) (Nat.le_of_ble_eq_true rfl) (Nat.le_refl _) (Nat.le_refl _) ?_
      refine sp_X2_isDigit hS  ?_
      show ZW G mX2_beginsToken fX2_beginsToken lX2_beginsToken 45 [zo G 1, .int v1, .int (p_X9_byteAt I v1), .int (p_X9_byteAt I (v1 - (1 : Int32)))] [.int (p_X2_isDigit (p_X9_byteAt I (v1 - (1 : Int32))))] S I L bc bs Q
      refine zr_ifne (tgt := 52) dX2_beginsToken_45 (by decide) (fun hb => ?_) (fun hb => ?_)
      · have k := k.1 hb
        refine zr_iconst (v := 0) dX2_beginsToken_52 (by decide) ?_
        refine zr_goto (tgt := 68) dX2_beginsToken_53 (by decide) ?_
        exact zr_ireturn dX2_beginsToken_68 rfl rfl k
      · have k := k.2 hb
        refine zr_iconst (v := 1) dX2_beginsToken_48 (by decide) ?_
        refine zr_goto (tgt := 68) dX2_beginsToken_49 (by decide) ?_
        exact zr_ireturn dX2_beginsToken_68 rfl rfl k
  · have k := k.2 hb
    refine zr_iload_n dX2_beginsToken_21 rfl rfl ?_
    refine zr_callS (As := [.int (p_X9_byteAt I (v1 - (1 : Int32)))]) (fr' := fX2_isLetter) (lo' := lX2_isLetter) (bc' := 0) (bs' := 0) (bcr := bc) (bsr := bs) dX2_beginsToken_22 zs_X2_135 zst_X2_isLetter rfl rfl (Nat.le_of_ble_eq_true rfl) (Nat.le_of_ble_eq_true rfl) (Nat.le_of_ble_eq_true rfl) (Nat.le_refl _) (Nat.le_refl _) ?_
    refine sp_X2_isLetter hS  ?_
    show ZW G mX2_beginsToken fX2_beginsToken lX2_beginsToken 25 [zo G 1, .int v1, .int (p_X9_byteAt I v1), .int (p_X9_byteAt I (v1 - (1 : Int32)))] [.int (p_X2_isLetter (p_X9_byteAt I (v1 - (1 : Int32))))] S I L bc bs Q
    refine zr_ifne (tgt := 32) dX2_beginsToken_25 (by decide) (fun hb => ?_) (fun hb => ?_)
    · have k := k.1 hb
      refine zr_iconst (v := 0) dX2_beginsToken_32 (by decide) ?_
      exact zr_ireturn dX2_beginsToken_33 rfl rfl k
    · have k := k.2 hb
      refine zr_iconst (v := 1) dX2_beginsToken_28 (by decide) ?_
      refine zr_goto (tgt := 33) dX2_beginsToken_29 (by decide) ?_
      exact zr_ireturn dX2_beginsToken_33 rfl rfl k
def p_X2_beginsToken (I : zFI) (v1 : Int32) : Int32 := (if (p_X2_isLetter (p_X9_byteAt I v1)) = 0 then (if (p_X2_isDigit (p_X9_byteAt I v1)) = 0 then (if (p_X2_isBlank (p_X9_byteAt I v1)) = 0 then (1 : Int32) else (0 : Int32)) else (if (p_X2_isDigit (p_X9_byteAt I (v1 - (1 : Int32)))) = 0 then (1 : Int32) else (0 : Int32))) else (if (p_X2_isLetter (p_X9_byteAt I (v1 - (1 : Int32)))) = 0 then (1 : Int32) else (0 : Int32)))
set_option maxHeartbeats 2000000 in
theorem sp_X2_beginsToken {G : Gp} {Q : zPost} {S : zSh} {I : zFI} {L : zFL} {v1 : Int32} (hS : zStd S)  (h : Q (some (.int (p_X2_beginsToken I v1))) S I L) : ZC G mX2_beginsToken fX2_beginsToken lX2_beginsToken [zo G 1, .int v1] S I L 0 0 Q := by
  refine ZC.of' (vX2_beginsToken_0 hS  ?_) rfl (Nat.le_of_ble_eq_true rfl) rfl
  unfold p_X2_beginsToken at h
  refine ⟨fun hb1 => ?_, fun hb1 => ?_⟩
  · rw [if_pos hb1] at h
    refine ⟨fun hb2 => ?_, fun hb2 => ?_⟩
    · rw [if_pos hb2] at h
      refine ⟨fun hb3 => ?_, fun hb3 => ?_⟩
      · rw [if_neg hb3] at h
        exact h
      · rw [if_pos hb3] at h
        exact h
    · rw [if_neg hb2] at h
      refine ⟨fun hb4 => ?_, fun hb4 => ?_⟩
      · rw [if_neg hb4] at h
        exact h
      · rw [if_pos hb4] at h
        exact h
  · rw [if_neg hb1] at h
    refine ⟨fun hb5 => ?_, fun hb5 => ?_⟩
    · rw [if_neg hb5] at h
      exact h
    · rw [if_pos hb5] at h
      exact h
theorem pb_X2_beginsToken (I : zFI) (v1 : Int32) : p_X2_beginsToken I v1 = 0 ∨ p_X2_beginsToken I v1 = 1 := by
  unfold p_X2_beginsToken
  repeat' split
  all_goals first | exact Or.inl rfl | exact Or.inr rfl | exact pb_X2_isLetter _ | exact pb_X2_isLetter _ | exact pb_X2_isDigit _ | exact pb_X2_isDigit _ | exact pb_X2_isBlank _
set_option maxHeartbeats 2000000 in
theorem vX2_endOfLetters_0 {G : Gp} {bc bs : Nat} {Q : zPost} {S : zSh} {I : zFI} {L : zFL} {v1 : Int32} (hS : zStd S)  (k : ZW G mX2_endOfLetters fX2_endOfLetters lX2_endOfLetters 4 [zo G 1, .int v1, .int (v1 + (1 : Int32))] [] S I L bc bs Q) : ZW G mX2_endOfLetters fX2_endOfLetters lX2_endOfLetters 0 [zo G 1, .int v1, .null] [] S I L bc bs Q := by
  refine zr_iload_n dX2_endOfLetters_0 rfl rfl ?_
  refine zr_iconst (v := 1) dX2_endOfLetters_1 (by decide) ?_
  refine zr_iadd dX2_endOfLetters_2 ?_
  refine zr_istore_n dX2_endOfLetters_3 rfl (Nat.le_of_ble_eq_true rfl) rfl ?_
  exact k
set_option maxHeartbeats 2000000 in
theorem vX2_endOfLetters_4 {G : Gp} {bc bs : Nat} {Q : zPost} {S : zSh} {I : zFI} {L : zFL} {v1 : Int32} {v2 : Int32} (hS : zStd S)  (k : (((p_X9_size I) ≤ v2 → Q (some (.int v2)) S I L) ∧ (¬ (p_X9_size I) ≤ v2 → (((p_X2_isLetter (p_X9_byteAt I v2)) = 0 → Q (some (.int v2)) S I L) ∧ (¬ (p_X2_isLetter (p_X9_byteAt I v2)) = 0 → ZW G mX2_endOfLetters fX2_endOfLetters lX2_endOfLetters 4 [zo G 1, .int v1, .int (v2 + 1)] [] S I L bc bs Q))))) : ZW G mX2_endOfLetters fX2_endOfLetters lX2_endOfLetters 4 [zo G 1, .int v1, .int v2] [] S I L bc bs Q := by
  refine zr_iload_n dX2_endOfLetters_4 rfl rfl ?_
  refine zr_aload_n dX2_endOfLetters_5 rfl rfl ?_
  refine zr_callV (As := []) (fr' := fX9_size) (lo' := lX9_size) (bc' := 0) (bs' := 0) (bcr := bc) (bsr := bs) dX2_endOfLetters_6 zs_X2_114 zi_X9_size zcl_9 (hS.has (a := 1) rfl rfl) rfl rfl (Nat.le_of_ble_eq_true rfl) (Nat.le_of_ble_eq_true rfl) (Nat.le_of_ble_eq_true rfl) (Nat.le_refl _) (Nat.le_refl _) ?_
  refine sp_X9_size hS  ?_
  show ZW G mX2_endOfLetters fX2_endOfLetters lX2_endOfLetters 9 [zo G 1, .int v1, .int v2] [.int (p_X9_size I), .int v2] S I L bc bs Q
  refine zr_icge (tgt := 29) dX2_endOfLetters_9 (by decide) (fun hb => ?_) (fun hb => ?_)
  · have k := k.1 hb
    refine zr_iload_n dX2_endOfLetters_29 rfl rfl ?_
    exact zr_ireturn dX2_endOfLetters_30 rfl rfl k
  · have k := k.2 hb
    refine zr_aload_n dX2_endOfLetters_12 rfl rfl ?_
    refine zr_iload_n dX2_endOfLetters_13 rfl rfl ?_
    refine zr_callV (As := [.int v2]) (fr' := fX9_byteAt) (lo' := lX9_byteAt) (bc' := 0) (bs' := 0) (bcr := bc) (bsr := bs) dX2_endOfLetters_14 zs_X2_131 zi_X9_byteAt zcl_9 (hS.has (a := 1) rfl rfl) rfl rfl (Nat.le_of_ble_eq_true rfl) (Nat.le_of_ble_eq_true rfl) (Nat.le_of_ble_eq_true rfl) (Nat.le_refl _) (Nat.le_refl _) ?_
    refine sp_X9_byteAt hS  ?_
    show ZW G mX2_endOfLetters fX2_endOfLetters lX2_endOfLetters 17 [zo G 1, .int v1, .int v2] [.int (p_X9_byteAt I v2)] S I L bc bs Q
    refine zr_callS (As := [.int (p_X9_byteAt I v2)]) (fr' := fX2_isLetter) (lo' := lX2_isLetter) (bc' := 0) (bs' := 0) (bcr := bc) (bsr := bs) dX2_endOfLetters_17 zs_X2_135 zst_X2_isLetter rfl rfl (Nat.le_of_ble_eq_true rfl) (Nat.le_of_ble_eq_true rfl) (Nat.le_of_ble_eq_true rfl) (Nat.le_refl _) (Nat.le_refl _) ?_
    refine sp_X2_isLetter hS  ?_
    show ZW G mX2_endOfLetters fX2_endOfLetters lX2_endOfLetters 20 [zo G 1, .int v1, .int v2] [.int (p_X2_isLetter (p_X9_byteAt I v2))] S I L bc bs Q
    refine zr_ifeq (tgt := 29) dX2_endOfLetters_20 (by decide) (fun hb => ?_) (fun hb => ?_)
    · have k := k.1 hb
      refine zr_iload_n dX2_endOfLetters_29 rfl rfl ?_
      exact zr_ireturn dX2_endOfLetters_30 rfl rfl k
    · have k := k.2 hb
      refine zr_iinc (v := (v2 + 1)) dX2_endOfLetters_23 rfl rfl (Nat.le_of_ble_eq_true rfl) rfl ?_
      refine zr_goto (tgt := 4) dX2_endOfLetters_26 (by decide) ?_
      exact k
set_option maxHeartbeats 2000000 in
theorem vX2_wordNumber_0 {G : Gp} {bc bs : Nat} {Q : zPost} {S : zSh} {I : zFI} {L : zFL} {v1 : Int32} {v2 : Int32} (hS : zStd S)  (k : (((v2 - v1) ≤ (6 : Int32) → ZW G mX2_wordNumber fX2_wordNumber lX2_wordNumber 12 [zo G 1, .int v1, .int v2, .int (0 : Int32)] [] S I L bc bs Q) ∧ (¬ (v2 - v1) ≤ (6 : Int32) → Q (some (.int (-1 : Int32))) S I L))) : ZW G mX2_wordNumber fX2_wordNumber lX2_wordNumber 0 [zo G 1, .int v1, .int v2, .null] [] S I L bc bs Q := by
  refine zr_iload_n dX2_wordNumber_0 rfl rfl ?_
  refine zr_iload_n dX2_wordNumber_1 rfl rfl ?_
  refine zr_isub dX2_wordNumber_2 ?_
  refine zr_bipush (v := 6) dX2_wordNumber_3 (by decide) ?_
  refine zr_icle (tgt := 10) dX2_wordNumber_5 (by decide) (fun hb => ?_) (fun hb => ?_)
  · have k := k.1 hb
    refine zr_iconst (v := 0) dX2_wordNumber_10 (by decide) ?_
    refine zr_istore_n dX2_wordNumber_11 rfl (Nat.le_of_ble_eq_true rfl) rfl ?_
    exact k
  · have k := k.2 hb
    refine zr_iconst (v := -1) dX2_wordNumber_8 (by decide) ?_
    exact zr_ireturn dX2_wordNumber_9 rfl rfl k
set_option maxHeartbeats 2000000 in
theorem vX2_wordNumber_12 {G : Gp} {bc bs : Nat} {Q : zPost} {S : zSh} {I : zFI} {L : zFL} {v1 : Int32} {v2 : Int32} {v3 : Int32} (hS : zStd S)  (k : (((18 : Int32) ≤ v3 → Q (some (.int (-1 : Int32))) S I L) ∧ (¬ (18 : Int32) ≤ v3 → ZC G mX2_isWord fX2_isWord lX2_isWord [.int v3, zo G 1, .int v1, .int v2] S I L 0 0 (fun w S' I1 L1 => ∃ r1 : Int32, w = some (.int r1) ∧ S = S' ∧ ((r1 = 0 → ZW G mX2_wordNumber fX2_wordNumber lX2_wordNumber 12 [zo G 1, .int v1, .int v2, .int (v3 + 1)] [] S I1 L1 bc bs Q) ∧ (¬ r1 = 0 → Q (some (.int v3)) S I1 L1)))))) : ZW G mX2_wordNumber fX2_wordNumber lX2_wordNumber 12 [zo G 1, .int v1, .int v2, .int v3] [] S I L bc bs Q := by
  refine zr_iload_n dX2_wordNumber_12 rfl rfl ?_
  refine zr_bipush (v := 18) dX2_wordNumber_13 (by decide) ?_
  refine zr_icge (tgt := 36) dX2_wordNumber_15 (by decide) (fun hb => ?_) (fun hb => ?_)
  · have k := k.1 hb
    refine zr_iconst (v := -1) dX2_wordNumber_36 (by decide) ?_
    exact zr_ireturn dX2_wordNumber_37 rfl rfl k
  · have k := k.2 hb
    refine zr_iload_n dX2_wordNumber_18 rfl rfl ?_
    refine zr_aload_n dX2_wordNumber_19 rfl rfl ?_
    refine zr_iload_n dX2_wordNumber_20 rfl rfl ?_
    refine zr_iload_n dX2_wordNumber_21 rfl rfl ?_
    refine zr_callS (As := [.int v3, zo G 1, .int v1, .int v2]) (fr' := fX2_isWord) (lo' := lX2_isWord) (bc' := 0) (bs' := 0) (bcr := bc) (bsr := bs) dX2_wordNumber_22 zs_X2_159 zst_X2_isWord rfl rfl (Nat.le_of_ble_eq_true rfl) (Nat.le_of_ble_eq_true rfl) (Nat.le_of_ble_eq_true rfl) (Nat.le_refl _) (Nat.le_refl _) ?_
    refine ZC.mono (fun w S' I1 L1 k => ?_) k
    obtain ⟨r1, rfl, rfl, k⟩ := k
    show ZW G mX2_wordNumber fX2_wordNumber lX2_wordNumber 25 [zo G 1, .int v1, .int v2, .int v3] [.int r1] S I1 L1 bc bs Q
    refine zr_ifeq (tgt := 30) dX2_wordNumber_25 (by decide) (fun hb => ?_) (fun hb => ?_)
    · have k := k.1 hb
      refine zr_iinc (v := (v3 + 1)) dX2_wordNumber_30 rfl rfl (Nat.le_of_ble_eq_true rfl) rfl ?_
      refine zr_goto (tgt := 12) dX2_wordNumber_33 (by decide) ?_
      exact k
    · have k := k.2 hb
      refine zr_iload_n dX2_wordNumber_28 rfl rfl ?_
      exact zr_ireturn dX2_wordNumber_29 rfl rfl k
set_option maxHeartbeats 2000000 in
theorem vX2_keep_0 {G : Gp} {bc bs : Nat} {Q : zPost} {S : zSh} {I : zFI} {L : zFL} {v1 : Int32} {v2 : Int32} {v3 : Int32} (hS : zStd S)  (k : (((201 : Int32) ≤ (I 3 3) → Q none S I L) ∧ (¬ (201 : Int32) ≤ (I 3 3) → vp_in (I 3 3) 201 ∧ Q none S (u2 (u2 (u2 (u2 I 4 (I 3 3).toNatClampNeg v1) 5 (I 3 3).toNatClampNeg v2) 6 (I 3 3).toNatClampNeg v3) 3 3 ((I 3 3) + (1 : Int32))) L))) : ZW G mX2_keep fX2_keep lX2_keep 0 [zo G 3, .int v1, .int v2, .int v3] [] S I L bc bs Q := by
  refine zr_aload_n dX2_keep_0 rfl rfl ?_
  refine zr_getIv (x := (I 3 3)) dX2_keep_1 zf_X2_21 rfl (hS.has (a := 3) rfl rfl) rfl ?_
  refine zr_sipush (v := 201) dX2_keep_4 (by decide) ?_
  refine zr_icge (tgt := 50) dX2_keep_7 (by decide) (fun hb => ?_) (fun hb => ?_)
  · have k := k.1 hb
    exact zr_return_ dX2_keep_50 rfl k
  · have k := k.2 hb
    refine zr_aload_n dX2_keep_10 rfl rfl ?_
    refine zr_getR dX2_keep_11 zf_X2_11 rfl (hS.has (a := 3) rfl rfl) (hS.ref (a := 4) rfl) ?_
    refine zr_aload_n dX2_keep_14 rfl rfl ?_
    refine zr_getIv (x := (I 3 3)) dX2_keep_15 zf_X2_21 rfl (hS.has (a := 3) rfl rfl) rfl ?_
    refine zr_iload_n dX2_keep_18 rfl rfl ?_
    obtain ⟨hi1, k⟩ := k
    refine zr_iast dX2_keep_19 (hS.has (a := 4) rfl rfl) hi1 ?_
    refine zr_aload_n dX2_keep_20 rfl rfl ?_
    refine zr_getR dX2_keep_21 zf_X2_15 rfl (hS.has (a := 3) rfl rfl) (hS.ref (a := 5) rfl) ?_
    refine zr_aload_n dX2_keep_24 rfl rfl ?_
    refine zr_getIv (x := (I 3 3)) dX2_keep_25 zf_X2_21 rfl (hS.has (a := 3) rfl rfl) rfl ?_
    refine zr_iload_n dX2_keep_28 rfl rfl ?_
    refine zr_iast dX2_keep_29 (hS.has (a := 5) rfl rfl) hi1 ?_
    refine zr_aload_n dX2_keep_30 rfl rfl ?_
    refine zr_getR dX2_keep_31 zf_X2_18 rfl (hS.has (a := 3) rfl rfl) (hS.ref (a := 6) rfl) ?_
    refine zr_aload_n dX2_keep_34 rfl rfl ?_
    refine zr_getIv (x := (I 3 3)) dX2_keep_35 zf_X2_21 rfl (hS.has (a := 3) rfl rfl) rfl ?_
    refine zr_iload_n dX2_keep_38 rfl rfl ?_
    refine zr_iast dX2_keep_39 (hS.has (a := 6) rfl rfl) hi1 ?_
    refine zr_aload_n dX2_keep_40 rfl rfl ?_
    refine zr_dup dX2_keep_41 rfl ?_
    refine zr_getIv (x := (I 3 3)) dX2_keep_42 zf_X2_21 rfl (hS.has (a := 3) rfl rfl) rfl ?_
    refine zr_iconst (v := 1) dX2_keep_45 (by decide) ?_
    refine zr_iadd dX2_keep_46 ?_
    refine zr_putI dX2_keep_47 zf_X2_21 rfl (hS.has (a := 3) rfl rfl) rfl rfl ?_
    exact zr_return_ dX2_keep_50 rfl k
set_option maxHeartbeats 2000000 in
theorem vX2_endOfDigits_0 {G : Gp} {bc bs : Nat} {Q : zPost} {S : zSh} {I : zFI} {L : zFL} {v1 : Int32} (hS : zStd S)  (k : ZW G mX2_endOfDigits fX2_endOfDigits lX2_endOfDigits 4 [zo G 1, .int v1, .int (v1 + (1 : Int32))] [] S I L bc bs Q) : ZW G mX2_endOfDigits fX2_endOfDigits lX2_endOfDigits 0 [zo G 1, .int v1, .null] [] S I L bc bs Q := by
  refine zr_iload_n dX2_endOfDigits_0 rfl rfl ?_
  refine zr_iconst (v := 1) dX2_endOfDigits_1 (by decide) ?_
  refine zr_iadd dX2_endOfDigits_2 ?_
  refine zr_istore_n dX2_endOfDigits_3 rfl (Nat.le_of_ble_eq_true rfl) rfl ?_
  exact k
set_option maxHeartbeats 2000000 in
theorem vX2_endOfDigits_4 {G : Gp} {bc bs : Nat} {Q : zPost} {S : zSh} {I : zFI} {L : zFL} {v1 : Int32} {v2 : Int32} (hS : zStd S)  (k : (((p_X9_size I) ≤ v2 → Q (some (.int v2)) S I L) ∧ (¬ (p_X9_size I) ≤ v2 → (((p_X2_isDigit (p_X9_byteAt I v2)) = 0 → Q (some (.int v2)) S I L) ∧ (¬ (p_X2_isDigit (p_X9_byteAt I v2)) = 0 → ZW G mX2_endOfDigits fX2_endOfDigits lX2_endOfDigits 4 [zo G 1, .int v1, .int (v2 + 1)] [] S I L bc bs Q))))) : ZW G mX2_endOfDigits fX2_endOfDigits lX2_endOfDigits 4 [zo G 1, .int v1, .int v2] [] S I L bc bs Q := by
  refine zr_iload_n dX2_endOfDigits_4 rfl rfl ?_
  refine zr_aload_n dX2_endOfDigits_5 rfl rfl ?_
  refine zr_callV (As := []) (fr' := fX9_size) (lo' := lX9_size) (bc' := 0) (bs' := 0) (bcr := bc) (bsr := bs) dX2_endOfDigits_6 zs_X2_114 zi_X9_size zcl_9 (hS.has (a := 1) rfl rfl) rfl rfl (Nat.le_of_ble_eq_true rfl) (Nat.le_of_ble_eq_true rfl) (Nat.le_of_ble_eq_true rfl) (Nat.le_refl _) (Nat.le_refl _) ?_
  refine sp_X9_size hS  ?_
  show ZW G mX2_endOfDigits fX2_endOfDigits lX2_endOfDigits 9 [zo G 1, .int v1, .int v2] [.int (p_X9_size I), .int v2] S I L bc bs Q
  refine zr_icge (tgt := 29) dX2_endOfDigits_9 (by decide) (fun hb => ?_) (fun hb => ?_)
  · have k := k.1 hb
    refine zr_iload_n dX2_endOfDigits_29 rfl rfl ?_
    exact zr_ireturn dX2_endOfDigits_30 rfl rfl k
  · have k := k.2 hb
    refine zr_aload_n dX2_endOfDigits_12 rfl rfl ?_
    refine zr_iload_n dX2_endOfDigits_13 rfl rfl ?_
    refine zr_callV (As := [.int v2]) (fr' := fX9_byteAt) (lo' := lX9_byteAt) (bc' := 0) (bs' := 0) (bcr := bc) (bsr := bs) dX2_endOfDigits_14 zs_X2_131 zi_X9_byteAt zcl_9 (hS.has (a := 1) rfl rfl) rfl rfl (Nat.le_of_ble_eq_true rfl) (Nat.le_of_ble_eq_true rfl) (Nat.le_of_ble_eq_true rfl) (Nat.le_refl _) (Nat.le_refl _) ?_
    refine sp_X9_byteAt hS  ?_
    show ZW G mX2_endOfDigits fX2_endOfDigits lX2_endOfDigits 17 [zo G 1, .int v1, .int v2] [.int (p_X9_byteAt I v2)] S I L bc bs Q
    refine zr_callS (As := [.int (p_X9_byteAt I v2)]) (fr' := fX2_isDigit) (lo' := lX2_isDigit) (bc' := 0) (bs' := 0) (bcr := bc) (bsr := bs) dX2_endOfDigits_17 zs_X2_139 zst_X2_isDigit rfl rfl (Nat.le_of_ble_eq_true rfl) (Nat.le_of_ble_eq_true rfl) (Nat.le_of_ble_eq_true rfl) (Nat.le_refl _) (Nat.le_refl _) ?_
    refine sp_X2_isDigit hS  ?_
    show ZW G mX2_endOfDigits fX2_endOfDigits lX2_endOfDigits 20 [zo G 1, .int v1, .int v2] [.int (p_X2_isDigit (p_X9_byteAt I v2))] S I L bc bs Q
    refine zr_ifeq (tgt := 29) dX2_endOfDigits_20 (by decide) (fun hb => ?_) (fun hb => ?_)
    · have k := k.1 hb
      refine zr_iload_n dX2_endOfDigits_29 rfl rfl ?_
      exact zr_ireturn dX2_endOfDigits_30 rfl rfl k
    · have k := k.2 hb
      refine zr_iinc (v := (v2 + 1)) dX2_endOfDigits_23 rfl rfl (Nat.le_of_ble_eq_true rfl) rfl ?_
      refine zr_goto (tgt := 4) dX2_endOfDigits_26 (by decide) ?_
      exact k
set_option maxHeartbeats 2000000 in
theorem vX2_numberAt_0 {G : Gp} {bc bs : Nat} {Q : zPost} {S : zSh} {I : zFI} {L : zFL} {v1 : Int32} {v2 : Int32} (hS : zStd S)  (k : ZW G mX2_numberAt fX2_numberAt lX2_numberAt 5 [zo G 1, .int v1, .int v2, .int (0 : Int32), .int v1] [] S I L bc bs Q) : ZW G mX2_numberAt fX2_numberAt lX2_numberAt 0 [zo G 1, .int v1, .int v2, .null, .null] [] S I L bc bs Q := by
  refine zr_iconst (v := 0) dX2_numberAt_0 (by decide) ?_
  refine zr_istore_n dX2_numberAt_1 rfl (Nat.le_of_ble_eq_true rfl) rfl ?_
  refine zr_iload_n dX2_numberAt_2 rfl rfl ?_
  refine zr_istore dX2_numberAt_3 (Nat.le_of_ble_eq_true rfl) rfl ?_
  exact k
set_option maxHeartbeats 2000000 in
theorem vX2_numberAt_5 {G : Gp} {bc bs : Nat} {Q : zPost} {S : zSh} {I : zFI} {L : zFL} {v1 : Int32} {v2 : Int32} {v3 : Int32} {v4 : Int32} (hS : zStd S)  (k : ((v2 ≤ v4 → Q (some (.int v3)) S I L) ∧ (¬ v2 ≤ v4 → (((v1 + (2 : Int32)) ≤ v4 → Q (some (.int v3)) S I L) ∧ (¬ (v1 + (2 : Int32)) ≤ v4 → ZW G mX2_numberAt fX2_numberAt lX2_numberAt 5 [zo G 1, .int v1, .int v2, .int ((((10 : Int32) * v3) + (p_X9_byteAt I v4)) - (48 : Int32)), .int (v4 + 1)] [] S I L bc bs Q))))) : ZW G mX2_numberAt fX2_numberAt lX2_numberAt 5 [zo G 1, .int v1, .int v2, .int v3, .int v4] [] S I L bc bs Q := by
  refine zr_iload dX2_numberAt_5 rfl ?_
  refine zr_iload_n dX2_numberAt_7 rfl rfl ?_
  refine zr_icge (tgt := 40) dX2_numberAt_8 (by decide) (fun hb => ?_) (fun hb => ?_)
  · have k := k.1 hb
    refine zr_iload_n dX2_numberAt_40 rfl rfl ?_
    exact zr_ireturn dX2_numberAt_41 rfl rfl k
  · have k := k.2 hb
    refine zr_iload dX2_numberAt_11 rfl ?_
    refine zr_iload_n dX2_numberAt_13 rfl rfl ?_
    refine zr_iconst (v := 2) dX2_numberAt_14 (by decide) ?_
    refine zr_iadd dX2_numberAt_15 ?_
    refine zr_icge (tgt := 40) dX2_numberAt_16 (by decide) (fun hb => ?_) (fun hb => ?_)
    · have k := k.1 hb
      refine zr_iload_n dX2_numberAt_40 rfl rfl ?_
      exact zr_ireturn dX2_numberAt_41 rfl rfl k
    · have k := k.2 hb
      refine zr_bipush (v := 10) dX2_numberAt_19 (by decide) ?_
      refine zr_iload_n dX2_numberAt_21 rfl rfl ?_
      refine zr_imul dX2_numberAt_22 ?_
      refine zr_aload_n dX2_numberAt_23 rfl rfl ?_
      refine zr_iload dX2_numberAt_24 rfl ?_
      refine zr_callV (As := [.int v4]) (fr' := fX9_byteAt) (lo' := lX9_byteAt) (bc' := 0) (bs' := 0) (bcr := bc) (bsr := bs) dX2_numberAt_26 zs_X2_131 zi_X9_byteAt zcl_9 (hS.has (a := 1) rfl rfl) rfl rfl (Nat.le_of_ble_eq_true rfl) (Nat.le_of_ble_eq_true rfl) (Nat.le_of_ble_eq_true rfl) (Nat.le_refl _) (Nat.le_refl _) ?_
      refine sp_X9_byteAt hS  ?_
      show ZW G mX2_numberAt fX2_numberAt lX2_numberAt 29 [zo G 1, .int v1, .int v2, .int v3, .int v4] [.int (p_X9_byteAt I v4), .int ((10 : Int32) * v3)] S I L bc bs Q
      refine zr_iadd dX2_numberAt_29 ?_
      refine zr_bipush (v := 48) dX2_numberAt_30 (by decide) ?_
      refine zr_isub dX2_numberAt_32 ?_
      refine zr_istore_n dX2_numberAt_33 rfl (Nat.le_of_ble_eq_true rfl) rfl ?_
      refine zr_iinc (v := (v4 + 1)) dX2_numberAt_34 rfl rfl (Nat.le_of_ble_eq_true rfl) rfl ?_
      refine zr_goto (tgt := 5) dX2_numberAt_37 (by decide) ?_
      exact k
set_option maxHeartbeats 2000000 in
theorem vX2_keepToken_0 {G : Gp} {bc bs : Nat} {Q : zPost} {S : zSh} {I : zFI} {L : zFL} {v2 : Int32} (hS : zStd S)  (k : (((p_X2_isLetter (p_X9_byteAt I v2)) = 0 → (((p_X2_isDigit (p_X9_byteAt I v2)) = 0 → ((¬ (p_X9_byteAt I v2) = (59 : Int32) → ZC G mX2_keep fX2_keep lX2_keep [zo G 3, .int (4 : Int32), .int (-1 : Int32), .int v2] S I L 0 0 (fun w S' I1 L1 => w = none ∧ S = S' ∧ Q none S I1 L1)) ∧ ((p_X9_byteAt I v2) = (59 : Int32) → ZC G mX2_keep fX2_keep lX2_keep [zo G 3, .int (3 : Int32), .int (-1 : Int32), .int v2] S I L 0 0 (fun w S' I2 L2 => w = none ∧ S = S' ∧ Q none S I2 L2)))) ∧ (¬ (p_X2_isDigit (p_X9_byteAt I v2)) = 0 → ZC G mX2_endOfDigits fX2_endOfDigits lX2_endOfDigits [zo G 1, .int v2] S I L 0 0 (fun w S' I3 L3 => ∃ r3 : Int32, w = some (.int r3) ∧ S = S' ∧ (((r3 - v2) ≤ (2 : Int32) → ZC G mX2_numberAt fX2_numberAt lX2_numberAt [zo G 1, .int v2, .int r3] S I3 L3 0 0 (fun w S' I4 L4 => ∃ r4 : Int32, w = some (.int r4) ∧ S = S' ∧ ZC G mX2_keep fX2_keep lX2_keep [zo G 3, .int (2 : Int32), .int r4, .int v2] S I4 L4 0 0 (fun w S' I5 L5 => w = none ∧ S = S' ∧ Q none S I5 L5))) ∧ (¬ (r3 - v2) ≤ (2 : Int32) → ZC G mX2_numberAt fX2_numberAt lX2_numberAt [zo G 1, .int v2, .int r3] S I3 L3 0 0 (fun w S' I6 L6 => ∃ r6 : Int32, w = some (.int r6) ∧ S = S' ∧ ZC G mX2_keep fX2_keep lX2_keep [zo G 3, .int (4 : Int32), .int r6, .int v2] S I6 L6 0 0 (fun w S' I7 L7 => w = none ∧ S = S' ∧ Q none S I7 L7)))))))) ∧ (¬ (p_X2_isLetter (p_X9_byteAt I v2)) = 0 → ZC G mX2_endOfLetters fX2_endOfLetters lX2_endOfLetters [zo G 1, .int v2] S I L 0 0 (fun w S' I8 L8 => ∃ r8 : Int32, w = some (.int r8) ∧ S = S' ∧ ZC G mX2_wordNumber fX2_wordNumber lX2_wordNumber [zo G 1, .int v2, .int r8] S I8 L8 0 0 (fun w S' I9 L9 => ∃ r9 : Int32, w = some (.int r9) ∧ S = S' ∧ ((¬ r9 = (-1 : Int32) → ZC G mX2_keep fX2_keep lX2_keep [zo G 3, .int (1 : Int32), .int r9, .int v2] S I9 L9 0 0 (fun w S' I10 L10 => w = none ∧ S = S' ∧ Q none S I10 L10)) ∧ (r9 = (-1 : Int32) → ZC G mX2_keep fX2_keep lX2_keep [zo G 3, .int (4 : Int32), .int r9, .int v2] S I9 L9 0 0 (fun w S' I11 L11 => w = none ∧ S = S' ∧ Q none S I11 L11)))))))) : ZW G mX2_keepToken fX2_keepToken lX2_keepToken 0 [zo G 3, zo G 1, .int v2, .null, .null] [] S I L bc bs Q := by
  refine zr_aload_n dX2_keepToken_0 rfl rfl ?_
  refine zr_iload_n dX2_keepToken_1 rfl rfl ?_
  refine zr_callV (As := [.int v2]) (fr' := fX9_byteAt) (lo' := lX9_byteAt) (bc' := 0) (bs' := 0) (bcr := bc) (bsr := bs) dX2_keepToken_2 zs_X2_131 zi_X9_byteAt zcl_9 (hS.has (a := 1) rfl rfl) rfl rfl (Nat.le_of_ble_eq_true rfl) (Nat.le_of_ble_eq_true rfl) (Nat.le_of_ble_eq_true rfl) (Nat.le_refl _) (Nat.le_refl _) ?_
  refine sp_X9_byteAt hS  ?_
  show ZW G mX2_keepToken fX2_keepToken lX2_keepToken 5 [zo G 3, zo G 1, .int v2, .null, .null] [.int (p_X9_byteAt I v2)] S I L bc bs Q
  refine zr_istore_n dX2_keepToken_5 rfl (Nat.le_of_ble_eq_true rfl) rfl ?_
  refine zr_iload_n dX2_keepToken_6 rfl rfl ?_
  refine zr_callS (As := [.int (p_X9_byteAt I v2)]) (fr' := fX2_isLetter) (lo' := lX2_isLetter) (bc' := 0) (bs' := 0) (bcr := bc) (bsr := bs) dX2_keepToken_7 zs_X2_135 zst_X2_isLetter rfl rfl (Nat.le_of_ble_eq_true rfl) (Nat.le_of_ble_eq_true rfl) (Nat.le_of_ble_eq_true rfl) (Nat.le_refl _) (Nat.le_refl _) ?_
  refine sp_X2_isLetter hS  ?_
  show ZW G mX2_keepToken fX2_keepToken lX2_keepToken 10 [zo G 3, zo G 1, .int v2, .int (p_X9_byteAt I v2), .null] [.int (p_X2_isLetter (p_X9_byteAt I v2))] S I L bc bs Q
  refine zr_ifeq (tgt := 46) dX2_keepToken_10 (by decide) (fun hb => ?_) (fun hb => ?_)
  · have k := k.1 hb
    refine zr_iload_n dX2_keepToken_46 rfl rfl ?_
    refine zr_callS (As := [.int (p_X9_byteAt I v2)]) (fr' := fX2_isDigit) (lo' := lX2_isDigit) (bc' := 0) (bs' := 0) (bcr := bc) (bsr := bs) dX2_keepToken_47 zs_X2_139 zst_X2_isDigit rfl rfl (Nat.le_of_ble_eq_true rfl) (Nat.le_of_ble_eq_true rfl) (Nat.le_of_ble_eq_true rfl) (Nat.le_refl _) (Nat.le_refl _) ?_
    refine sp_X2_isDigit hS  ?_
    show ZW G mX2_keepToken fX2_keepToken lX2_keepToken 50 [zo G 3, zo G 1, .int v2, .int (p_X9_byteAt I v2), .null] [.int (p_X2_isDigit (p_X9_byteAt I v2))] S I L bc bs Q
    refine zr_ifeq (tgt := 88) dX2_keepToken_50 (by decide) (fun hb => ?_) (fun hb => ?_)
    · have k := k.1 hb
      refine zr_aload_n dX2_keepToken_88 rfl rfl ?_
      refine zr_iload_n dX2_keepToken_89 rfl rfl ?_
      refine zr_bipush (v := 59) dX2_keepToken_90 (by decide) ?_
      refine zr_icne (tgt := 99) dX2_keepToken_92 (by decide) (fun hb => ?_) (fun hb => ?_)
      · have k := k.1 hb
        refine zr_iconst (v := 4) dX2_keepToken_99 (by decide) ?_
        refine zr_iconst (v := -1) dX2_keepToken_100 (by decide) ?_
        refine zr_iload_n dX2_keepToken_101 rfl rfl ?_
        refine zr_callV (As := [.int (4 : Int32), .int (-1 : Int32), .int v2]) (fr' := fX2_keep) (lo' := lX2_keep) (bc' := 0) (bs' := 0) (bcr := bc) (bsr := bs) dX2_keepToken_102 zs_X2_127 zi_X2_keep zcl_2 (hS.has (a := 3) rfl rfl) rfl rfl (Nat.le_of_ble_eq_true rfl) (Nat.le_of_ble_eq_true rfl) (Nat.le_of_ble_eq_true rfl) (Nat.le_refl _) (Nat.le_refl _) ?_
        refine ZC.mono (fun w S' I1 L1 k => ?_) k
        obtain ⟨rfl, rfl, k⟩ := k
        show ZW G mX2_keepToken fX2_keepToken lX2_keepToken 105 [zo G 3, zo G 1, .int v2, .int (p_X9_byteAt I v2), .null] [] S I1 L1 bc bs Q
        exact zr_return_ dX2_keepToken_105 rfl k
      · have k := k.2 hb
        refine zr_iconst (v := 3) dX2_keepToken_95 (by decide) ?_
        refine zr_goto (tgt := 100) dX2_keepToken_96 (by decide) ?_
        refine zr_iconst (v := -1) dX2_keepToken_100 (by decide) ?_
        refine zr_iload_n dX2_keepToken_101 rfl rfl ?_
        refine zr_callV (As := [.int (3 : Int32), .int (-1 : Int32), .int v2]) (fr' := fX2_keep) (lo' := lX2_keep) (bc' := 0) (bs' := 0) (bcr := bc) (bsr := bs) dX2_keepToken_102 zs_X2_127 zi_X2_keep zcl_2 (hS.has (a := 3) rfl rfl) rfl rfl (Nat.le_of_ble_eq_true rfl) (Nat.le_of_ble_eq_true rfl) (Nat.le_of_ble_eq_true rfl) (Nat.le_refl _) (Nat.le_refl _) ?_
        refine ZC.mono (fun w S' I2 L2 k => ?_) k
        obtain ⟨rfl, rfl, k⟩ := k
        show ZW G mX2_keepToken fX2_keepToken lX2_keepToken 105 [zo G 3, zo G 1, .int v2, .int (p_X9_byteAt I v2), .null] [] S I2 L2 bc bs Q
        exact zr_return_ dX2_keepToken_105 rfl k
    · have k := k.2 hb
      refine zr_aload_n dX2_keepToken_53 rfl rfl ?_
      refine zr_iload_n dX2_keepToken_54 rfl rfl ?_
      refine zr_callS (As := [zo G 1, .int v2]) (fr' := fX2_endOfDigits) (lo' := lX2_endOfDigits) (bc' := 0) (bs' := 0) (bcr := bc) (bsr := bs) dX2_keepToken_55 zs_X2_153 zst_X2_endOfDigits rfl rfl (Nat.le_of_ble_eq_true rfl) (Nat.le_of_ble_eq_true rfl) (Nat.le_of_ble_eq_true rfl) (Nat.le_refl _) (Nat.le_refl _) ?_
      refine ZC.mono (fun w S' I3 L3 k => ?_) k
      obtain ⟨r3, rfl, rfl, k⟩ := k
      show ZW G mX2_keepToken fX2_keepToken lX2_keepToken 58 [zo G 3, zo G 1, .int v2, .int (p_X9_byteAt I v2), .null] [.int r3] S I3 L3 bc bs Q
      refine zr_istore dX2_keepToken_58 (Nat.le_of_ble_eq_true rfl) rfl ?_
      refine zr_aload_n dX2_keepToken_60 rfl rfl ?_
      refine zr_iload dX2_keepToken_61 rfl ?_
      refine zr_iload_n dX2_keepToken_63 rfl rfl ?_
      refine zr_isub dX2_keepToken_64 ?_
      refine zr_iconst (v := 2) dX2_keepToken_65 (by decide) ?_
      refine zr_icle (tgt := 73) dX2_keepToken_66 (by decide) (fun hb => ?_) (fun hb => ?_)
      · have k := k.1 hb
        refine zr_iconst (v := 2) dX2_keepToken_73 (by decide) ?_
        refine zr_aload_n dX2_keepToken_74 rfl rfl ?_
        refine zr_iload_n dX2_keepToken_75 rfl rfl ?_
        refine zr_iload dX2_keepToken_76 rfl ?_
        refine zr_callS (As := [zo G 1, .int v2, .int r3]) (fr' := fX2_numberAt) (lo' := lX2_numberAt) (bc' := 0) (bs' := 0) (bcr := bc) (bsr := bs) dX2_keepToken_78 zs_X2_156 zst_X2_numberAt rfl rfl (Nat.le_of_ble_eq_true rfl) (Nat.le_of_ble_eq_true rfl) (Nat.le_of_ble_eq_true rfl) (Nat.le_refl _) (Nat.le_refl _) ?_
        refine ZC.mono (fun w S' I4 L4 k => ?_) k
        obtain ⟨r4, rfl, rfl, k⟩ := k
        show ZW G mX2_keepToken fX2_keepToken lX2_keepToken 81 [zo G 3, zo G 1, .int v2, .int (p_X9_byteAt I v2), .int r3] [.int r4, .int (2 : Int32), zo G 3] S I4 L4 bc bs Q
        refine zr_iload_n dX2_keepToken_81 rfl rfl ?_
        refine zr_callV (As := [.int (2 : Int32), .int r4, .int v2]) (fr' := fX2_keep) (lo' := lX2_keep) (bc' := 0) (bs' := 0) (bcr := bc) (bsr := bs) dX2_keepToken_82 zs_X2_127 zi_X2_keep zcl_2 (hS.has (a := 3) rfl rfl) rfl rfl (Nat.le_of_ble_eq_true rfl) (Nat.le_of_ble_eq_true rfl) (Nat.le_of_ble_eq_true rfl) (Nat.le_refl _) (Nat.le_refl _) ?_
        refine ZC.mono (fun w S' I5 L5 k => ?_) k
        obtain ⟨rfl, rfl, k⟩ := k
        show ZW G mX2_keepToken fX2_keepToken lX2_keepToken 85 [zo G 3, zo G 1, .int v2, .int (p_X9_byteAt I v2), .int r3] [] S I5 L5 bc bs Q
        refine zr_goto (tgt := 105) dX2_keepToken_85 (by decide) ?_
        exact zr_return_ dX2_keepToken_105 rfl k
      · have k := k.2 hb
        refine zr_iconst (v := 4) dX2_keepToken_69 (by decide) ?_
        refine zr_goto (tgt := 74) dX2_keepToken_70 (by decide) ?_
        refine zr_aload_n dX2_keepToken_74 rfl rfl ?_
        refine zr_iload_n dX2_keepToken_75 rfl rfl ?_
        refine zr_iload dX2_keepToken_76 rfl ?_
        refine zr_callS (As := [zo G 1, .int v2, .int r3]) (fr' := fX2_numberAt) (lo' := lX2_numberAt) (bc' := 0) (bs' := 0) (bcr := bc) (bsr := bs) dX2_keepToken_78 zs_X2_156 zst_X2_numberAt rfl rfl (Nat.le_of_ble_eq_true rfl) (Nat.le_of_ble_eq_true rfl) (Nat.le_of_ble_eq_true rfl) (Nat.le_refl _) (Nat.le_refl _) ?_
        refine ZC.mono (fun w S' I6 L6 k => ?_) k
        obtain ⟨r6, rfl, rfl, k⟩ := k
        show ZW G mX2_keepToken fX2_keepToken lX2_keepToken 81 [zo G 3, zo G 1, .int v2, .int (p_X9_byteAt I v2), .int r3] [.int r6, .int (4 : Int32), zo G 3] S I6 L6 bc bs Q
        refine zr_iload_n dX2_keepToken_81 rfl rfl ?_
        refine zr_callV (As := [.int (4 : Int32), .int r6, .int v2]) (fr' := fX2_keep) (lo' := lX2_keep) (bc' := 0) (bs' := 0) (bcr := bc) (bsr := bs) dX2_keepToken_82 zs_X2_127 zi_X2_keep zcl_2 (hS.has (a := 3) rfl rfl) rfl rfl (Nat.le_of_ble_eq_true rfl) (Nat.le_of_ble_eq_true rfl) (Nat.le_of_ble_eq_true rfl) (Nat.le_refl _) (Nat.le_refl _) ?_
        refine ZC.mono (fun w S' I7 L7 k => ?_) k
        obtain ⟨rfl, rfl, k⟩ := k
        show ZW G mX2_keepToken fX2_keepToken lX2_keepToken 85 [zo G 3, zo G 1, .int v2, .int (p_X9_byteAt I v2), .int r3] [] S I7 L7 bc bs Q
        refine zr_goto (tgt := 105) dX2_keepToken_85 (by decide) ?_
        exact zr_return_ dX2_keepToken_105 rfl k
  · have k := k.2 hb
    refine zr_aload_n dX2_keepToken_13 rfl rfl ?_
    refine zr_iload_n dX2_keepToken_14 rfl rfl ?_
    refine zr_aload_n dX2_keepToken_15 rfl rfl ?_
    refine zr_iload_n dX2_keepToken_16 rfl rfl ?_
    refine zr_callS (As := [zo G 1, .int v2]) (fr' := fX2_endOfLetters) (lo' := lX2_endOfLetters) (bc' := 0) (bs' := 0) (bcr := bc) (bsr := bs) dX2_keepToken_17 zs_X2_145 zst_X2_endOfLetters rfl rfl (Nat.le_of_ble_eq_true rfl) (Nat.le_of_ble_eq_true rfl) (Nat.le_of_ble_eq_true rfl) (Nat.le_refl _) (Nat.le_refl _) ?_
    refine ZC.mono (fun w S' I8 L8 k => ?_) k
    obtain ⟨r8, rfl, rfl, k⟩ := k
    show ZW G mX2_keepToken fX2_keepToken lX2_keepToken 20 [zo G 3, zo G 1, .int v2, .int (p_X9_byteAt I v2), .null] [.int r8, .int v2, zo G 1] S I8 L8 bc bs Q
    refine zr_callS (As := [zo G 1, .int v2, .int r8]) (fr' := fX2_wordNumber) (lo' := lX2_wordNumber) (bc' := 0) (bs' := 0) (bcr := bc) (bsr := bs) dX2_keepToken_20 zs_X2_149 zst_X2_wordNumber rfl rfl (Nat.le_of_ble_eq_true rfl) (Nat.le_of_ble_eq_true rfl) (Nat.le_of_ble_eq_true rfl) (Nat.le_refl _) (Nat.le_refl _) ?_
    refine ZC.mono (fun w S' I9 L9 k => ?_) k
    obtain ⟨r9, rfl, rfl, k⟩ := k
    show ZW G mX2_keepToken fX2_keepToken lX2_keepToken 23 [zo G 3, zo G 1, .int v2, .int (p_X9_byteAt I v2), .null] [.int r9] S I9 L9 bc bs Q
    refine zr_istore dX2_keepToken_23 (Nat.le_of_ble_eq_true rfl) rfl ?_
    refine zr_aload_n dX2_keepToken_25 rfl rfl ?_
    refine zr_iload dX2_keepToken_26 rfl ?_
    refine zr_iconst (v := -1) dX2_keepToken_28 (by decide) ?_
    refine zr_icne (tgt := 36) dX2_keepToken_29 (by decide) (fun hb => ?_) (fun hb => ?_)
    · have k := k.1 hb
      refine zr_iconst (v := 1) dX2_keepToken_36 (by decide) ?_
      refine zr_iload dX2_keepToken_37 rfl ?_
      refine zr_iload_n dX2_keepToken_39 rfl rfl ?_
      refine zr_callV (As := [.int (1 : Int32), .int r9, .int v2]) (fr' := fX2_keep) (lo' := lX2_keep) (bc' := 0) (bs' := 0) (bcr := bc) (bsr := bs) dX2_keepToken_40 zs_X2_127 zi_X2_keep zcl_2 (hS.has (a := 3) rfl rfl) rfl rfl (Nat.le_of_ble_eq_true rfl) (Nat.le_of_ble_eq_true rfl) (Nat.le_of_ble_eq_true rfl) (Nat.le_refl _) (Nat.le_refl _) ?_
      refine ZC.mono (fun w S' I10 L10 k => ?_) k
      obtain ⟨rfl, rfl, k⟩ := k
      show ZW G mX2_keepToken fX2_keepToken lX2_keepToken 43 [zo G 3, zo G 1, .int v2, .int (p_X9_byteAt I v2), .int r9] [] S I10 L10 bc bs Q
      refine zr_goto (tgt := 105) dX2_keepToken_43 (by decide) ?_
      exact zr_return_ dX2_keepToken_105 rfl k
    · have k := k.2 hb
      refine zr_iconst (v := 4) dX2_keepToken_32 (by decide) ?_
      refine zr_goto (tgt := 37) dX2_keepToken_33 (by decide) ?_
      refine zr_iload dX2_keepToken_37 rfl ?_
      refine zr_iload_n dX2_keepToken_39 rfl rfl ?_
      refine zr_callV (As := [.int (4 : Int32), .int r9, .int v2]) (fr' := fX2_keep) (lo' := lX2_keep) (bc' := 0) (bs' := 0) (bcr := bc) (bsr := bs) dX2_keepToken_40 zs_X2_127 zi_X2_keep zcl_2 (hS.has (a := 3) rfl rfl) rfl rfl (Nat.le_of_ble_eq_true rfl) (Nat.le_of_ble_eq_true rfl) (Nat.le_of_ble_eq_true rfl) (Nat.le_refl _) (Nat.le_refl _) ?_
      refine ZC.mono (fun w S' I11 L11 k => ?_) k
      obtain ⟨rfl, rfl, k⟩ := k
      show ZW G mX2_keepToken fX2_keepToken lX2_keepToken 43 [zo G 3, zo G 1, .int v2, .int (p_X9_byteAt I v2), .int r9] [] S I11 L11 bc bs Q
      refine zr_goto (tgt := 105) dX2_keepToken_43 (by decide) ?_
      exact zr_return_ dX2_keepToken_105 rfl k
set_option maxHeartbeats 2000000 in
theorem vX2_split_0 {G : Gp} {bc bs : Nat} {Q : zPost} {S : zSh} {I : zFI} {L : zFL}  (hS : zStd S)  (k : ZW G mX2_split fX2_split lX2_split 7 [zo G 3, zo G 1, .int (0 : Int32)] [] S (u2 I 3 3 (0 : Int32)) L bc bs Q) : ZW G mX2_split fX2_split lX2_split 0 [zo G 3, zo G 1, .null] [] S I L bc bs Q := by
  refine zr_aload_n dX2_split_0 rfl rfl ?_
  refine zr_iconst (v := 0) dX2_split_1 (by decide) ?_
  refine zr_putI dX2_split_2 zf_X2_21 rfl (hS.has (a := 3) rfl rfl) rfl rfl ?_
  refine zr_iconst (v := 0) dX2_split_5 (by decide) ?_
  refine zr_istore_n dX2_split_6 rfl (Nat.le_of_ble_eq_true rfl) rfl ?_
  exact k
set_option maxHeartbeats 2000000 in
theorem vX2_split_7 {G : Gp} {bc bs : Nat} {Q : zPost} {S : zSh} {I : zFI} {L : zFL} {v2 : Int32} (hS : zStd S)  (k : (((p_X9_size I) ≤ v2 → ZC G mX2_keep fX2_keep lX2_keep [zo G 3, .int (0 : Int32), .int (-1 : Int32), .int (p_X9_size I)] S I L 0 0 (fun w S' I1 L1 => w = none ∧ S = S' ∧ Q none S I1 L1)) ∧ (¬ (p_X9_size I) ≤ v2 → (((p_X2_beginsToken I v2) = 0 → ZW G mX2_split fX2_split lX2_split 7 [zo G 3, zo G 1, .int (v2 + 1)] [] S I L bc bs Q) ∧ (¬ (p_X2_beginsToken I v2) = 0 → ZC G mX2_keepToken fX2_keepToken lX2_keepToken [zo G 3, zo G 1, .int v2] S I L 0 0 (fun w S' I2 L2 => w = none ∧ S = S' ∧ ZW G mX2_split fX2_split lX2_split 7 [zo G 3, zo G 1, .int (v2 + 1)] [] S I2 L2 bc bs Q)))))) : ZW G mX2_split fX2_split lX2_split 7 [zo G 3, zo G 1, .int v2] [] S I L bc bs Q := by
  refine zr_iload_n dX2_split_7 rfl rfl ?_
  refine zr_aload_n dX2_split_8 rfl rfl ?_
  refine zr_callV (As := []) (fr' := fX9_size) (lo' := lX9_size) (bc' := 0) (bs' := 0) (bcr := bc) (bsr := bs) dX2_split_9 zs_X2_114 zi_X9_size zcl_9 (hS.has (a := 1) rfl rfl) rfl rfl (Nat.le_of_ble_eq_true rfl) (Nat.le_of_ble_eq_true rfl) (Nat.le_of_ble_eq_true rfl) (Nat.le_refl _) (Nat.le_refl _) ?_
  refine sp_X9_size hS  ?_
  show ZW G mX2_split fX2_split lX2_split 12 [zo G 3, zo G 1, .int v2] [.int (p_X9_size I), .int v2] S I L bc bs Q
  refine zr_icge (tgt := 35) dX2_split_12 (by decide) (fun hb => ?_) (fun hb => ?_)
  · have k := k.1 hb
    refine zr_aload_n dX2_split_35 rfl rfl ?_
    refine zr_iconst (v := 0) dX2_split_36 (by decide) ?_
    refine zr_iconst (v := -1) dX2_split_37 (by decide) ?_
    refine zr_aload_n dX2_split_38 rfl rfl ?_
    refine zr_callV (As := []) (fr' := fX9_size) (lo' := lX9_size) (bc' := 0) (bs' := 0) (bcr := bc) (bsr := bs) dX2_split_39 zs_X2_114 zi_X9_size zcl_9 (hS.has (a := 1) rfl rfl) rfl rfl (Nat.le_of_ble_eq_true rfl) (Nat.le_of_ble_eq_true rfl) (Nat.le_of_ble_eq_true rfl) (Nat.le_refl _) (Nat.le_refl _) ?_
    refine sp_X9_size hS  ?_
    show ZW G mX2_split fX2_split lX2_split 42 [zo G 3, zo G 1, .int v2] [.int (p_X9_size I), .int (-1 : Int32), .int (0 : Int32), zo G 3] S I L bc bs Q
    refine zr_callV (As := [.int (0 : Int32), .int (-1 : Int32), .int (p_X9_size I)]) (fr' := fX2_keep) (lo' := lX2_keep) (bc' := 0) (bs' := 0) (bcr := bc) (bsr := bs) dX2_split_42 zs_X2_127 zi_X2_keep zcl_2 (hS.has (a := 3) rfl rfl) rfl rfl (Nat.le_of_ble_eq_true rfl) (Nat.le_of_ble_eq_true rfl) (Nat.le_of_ble_eq_true rfl) (Nat.le_refl _) (Nat.le_refl _) ?_
    refine ZC.mono (fun w S' I1 L1 k => ?_) k
    obtain ⟨rfl, rfl, k⟩ := k
    show ZW G mX2_split fX2_split lX2_split 45 [zo G 3, zo G 1, .int v2] [] S I1 L1 bc bs Q
    exact zr_return_ dX2_split_45 rfl k
  · have k := k.2 hb
    refine zr_aload_n dX2_split_15 rfl rfl ?_
    refine zr_iload_n dX2_split_16 rfl rfl ?_
    refine zr_callS (As := [zo G 1, .int v2]) (fr' := fX2_beginsToken) (lo' := lX2_beginsToken) (bc' := 0) (bs' := 0) (bcr := bc) (bsr := bs) dX2_split_17 zs_X2_119 zst_X2_beginsToken rfl rfl (Nat.le_of_ble_eq_true rfl) (Nat.le_of_ble_eq_true rfl) (Nat.le_of_ble_eq_true rfl) (Nat.le_refl _) (Nat.le_refl _) ?_
    refine sp_X2_beginsToken hS  ?_
    show ZW G mX2_split fX2_split lX2_split 20 [zo G 3, zo G 1, .int v2] [.int (p_X2_beginsToken I v2)] S I L bc bs Q
    refine zr_ifeq (tgt := 29) dX2_split_20 (by decide) (fun hb => ?_) (fun hb => ?_)
    · have k := k.1 hb
      refine zr_iinc (v := (v2 + 1)) dX2_split_29 rfl rfl (Nat.le_of_ble_eq_true rfl) rfl ?_
      refine zr_goto (tgt := 7) dX2_split_32 (by decide) ?_
      exact k
    · have k := k.2 hb
      refine zr_aload_n dX2_split_23 rfl rfl ?_
      refine zr_aload_n dX2_split_24 rfl rfl ?_
      refine zr_iload_n dX2_split_25 rfl rfl ?_
      refine zr_callV (As := [zo G 1, .int v2]) (fr' := fX2_keepToken) (lo' := lX2_keepToken) (bc' := 0) (bs' := 0) (bcr := bc) (bsr := bs) dX2_split_26 zs_X2_123 zi_X2_keepToken zcl_2 (hS.has (a := 3) rfl rfl) rfl rfl (Nat.le_of_ble_eq_true rfl) (Nat.le_of_ble_eq_true rfl) (Nat.le_of_ble_eq_true rfl) (Nat.le_refl _) (Nat.le_refl _) ?_
      refine ZC.mono (fun w S' I2 L2 k => ?_) k
      obtain ⟨rfl, rfl, k⟩ := k
      show ZW G mX2_split fX2_split lX2_split 29 [zo G 3, zo G 1, .int v2] [] S I2 L2 bc bs Q
      refine zr_iinc (v := (v2 + 1)) dX2_split_29 rfl rfl (Nat.le_of_ble_eq_true rfl) rfl ?_
      refine zr_goto (tgt := 7) dX2_split_32 (by decide) ?_
      exact k
set_option maxHeartbeats 2000000 in
theorem vX11_pick_0 {G : Gp} {bc bs : Nat} {Q : zPost} {S : zSh} {I : zFI} {L : zFL} {a0 n0 : Nat} {v1 : Int32} (hS : zStd S) (ha0 : zHas S a0 (1, n0)) (k : ((v1 < 0 → Q (some (.int (-1 : Int32))) S I L) ∧ (¬ v1 < 0 → (((Int32.ofNat n0) ≤ v1 → Q (some (.int (-1 : Int32))) S I L) ∧ (¬ (Int32.ofNat n0) ≤ v1 → vp_in v1 n0 ∧ Q (some (.int (I a0 v1.toNatClampNeg))) S I L))))) : ZW G mX11_pick fX11_pick lX11_pick 0 [zo G a0, .int v1] [] S I L bc bs Q := by
  refine zr_iload_n dX11_pick_0 rfl rfl ?_
  refine zr_iflt (tgt := 16) dX11_pick_1 (by decide) (fun hb => ?_) (fun hb => ?_)
  · have k := k.1 hb
    refine zr_iconst (v := -1) dX11_pick_16 (by decide) ?_
    exact zr_ireturn dX11_pick_17 rfl rfl k
  · have k := k.2 hb
    refine zr_iload_n dX11_pick_4 rfl rfl ?_
    refine zr_aload_n dX11_pick_5 rfl rfl ?_
    refine zr_alen dX11_pick_6 ha0 (by decide) rfl ?_
    refine zr_icge (tgt := 16) dX11_pick_7 (by decide) (fun hb => ?_) (fun hb => ?_)
    · have k := k.1 hb
      refine zr_iconst (v := -1) dX11_pick_16 (by decide) ?_
      exact zr_ireturn dX11_pick_17 rfl rfl k
    · have k := k.2 hb
      refine zr_aload_n dX11_pick_10 rfl rfl ?_
      refine zr_iload_n dX11_pick_11 rfl rfl ?_
      obtain ⟨hi1, k⟩ := k
      refine zr_ialdv (x := (I a0 v1.toNatClampNeg)) dX11_pick_12 ha0 hi1 rfl ?_
      refine zr_goto (tgt := 17) dX11_pick_13 (by decide) ?_
      exact zr_ireturn dX11_pick_17 rfl rfl k
def p_X11_pick (I : zFI) (a0 n0 : Nat) (v1 : Int32) : Int32 := (if v1 < 0 then (-1 : Int32) else (if (Int32.ofNat n0) ≤ v1 then (-1 : Int32) else (I a0 v1.toNatClampNeg)))
set_option maxHeartbeats 2000000 in
theorem sp_X11_pick {G : Gp} {Q : zPost} {S : zSh} {I : zFI} {L : zFL} {a0 n0 : Nat} {v1 : Int32} (hS : zStd S) (ha0 : zHas S a0 (1, n0)) (hn0 : Nat.ble n0 2147483647 = true) (h : Q (some (.int (p_X11_pick I a0 n0 v1))) S I L) : ZC G mX11_pick fX11_pick lX11_pick [zo G a0, .int v1] S I L 0 0 Q := by
  refine ZC.of' (vX11_pick_0 hS ha0 ?_) rfl (Nat.le_of_ble_eq_true rfl) rfl
  unfold p_X11_pick at h
  refine ⟨fun hb1 => ?_, fun hb1 => ?_⟩
  · rw [if_pos hb1] at h
    exact h
  · rw [if_neg hb1] at h
    refine ⟨fun hb2 => ?_, fun hb2 => ?_⟩
    · rw [if_pos hb2] at h
      exact h
    · rw [if_neg hb2] at h
      refine ⟨zvp hn0 (by assumption) (by assumption), ?_⟩
      exact h
set_option maxHeartbeats 2000000 in
theorem vX2_token_0 {G : Gp} {bc bs : Nat} {Q : zPost} {S : zSh} {I : zFI} {L : zFL}  (hS : zStd S)  (k : (((I 3 3) ≤ (I 3 4) → Q (some (.int (0 : Int32))) S I L) ∧ (¬ (I 3 3) ≤ (I 3 4) → Q (some (.int (p_X11_pick I 4 201 (I 3 4)))) S I L))) : ZW G mX2_token fX2_token lX2_token 0 [zo G 3] [] S I L bc bs Q := by
  refine zr_aload_n dX2_token_0 rfl rfl ?_
  refine zr_getIv (x := (I 3 4)) dX2_token_1 zf_X2_25 rfl (hS.has (a := 3) rfl rfl) rfl ?_
  refine zr_aload_n dX2_token_4 rfl rfl ?_
  refine zr_getIv (x := (I 3 3)) dX2_token_5 zf_X2_21 rfl (hS.has (a := 3) rfl rfl) rfl ?_
  refine zr_icge (tgt := 25) dX2_token_8 (by decide) (fun hb => ?_) (fun hb => ?_)
  · have k := k.1 hb
    refine zr_iconst (v := 0) dX2_token_25 (by decide) ?_
    exact zr_ireturn dX2_token_26 rfl rfl k
  · have k := k.2 hb
    refine zr_aload_n dX2_token_11 rfl rfl ?_
    refine zr_getR dX2_token_12 zf_X2_11 rfl (hS.has (a := 3) rfl rfl) (hS.ref (a := 4) rfl) ?_
    refine zr_aload_n dX2_token_15 rfl rfl ?_
    refine zr_getIv (x := (I 3 4)) dX2_token_16 zf_X2_25 rfl (hS.has (a := 3) rfl rfl) rfl ?_
    refine zr_callSN (As := [zo G 4, .int (I 3 4)]) (fr' := fX11_pick) (lo' := lX11_pick) (bc' := 0) (bs' := 0) (bcr := bc) (bsr := bs) dX2_token_19 zsn_X2_110 zst_X11_pick rfl rfl (Nat.le_of_ble_eq_true rfl) (Nat.le_of_ble_eq_true rfl) (Nat.le_of_ble_eq_true rfl) (Nat.le_refl _) (Nat.le_refl _) ?_
    refine sp_X11_pick hS (hS.has (a := 4) rfl rfl) rfl ?_
    show ZW G mX2_token fX2_token lX2_token 22 [zo G 3] [.int (p_X11_pick I 4 201 (I 3 4))] S I L bc bs Q
    refine zr_goto (tgt := 26) dX2_token_22 (by decide) ?_
    exact zr_ireturn dX2_token_26 rfl rfl k
def p_X2_token (I : zFI)  : Int32 := (if (I 3 3) ≤ (I 3 4) then (0 : Int32) else (p_X11_pick I 4 201 (I 3 4)))
set_option maxHeartbeats 2000000 in
theorem sp_X2_token {G : Gp} {Q : zPost} {S : zSh} {I : zFI} {L : zFL}  (hS : zStd S)  (h : Q (some (.int (p_X2_token I ))) S I L) : ZC G mX2_token fX2_token lX2_token [zo G 3] S I L 0 0 Q := by
  refine ZC.of' (vX2_token_0 hS  ?_) rfl (Nat.le_of_ble_eq_true rfl) rfl
  unfold p_X2_token at h
  refine ⟨fun hb1 => ?_, fun hb1 => ?_⟩
  · rw [if_pos hb1] at h
    exact h
  · rw [if_neg hb1] at h
    exact h
set_option maxHeartbeats 2000000 in
theorem vX2_value_0 {G : Gp} {bc bs : Nat} {Q : zPost} {S : zSh} {I : zFI} {L : zFL}  (hS : zStd S)  (k : Q (some (.int (p_X11_pick I 5 201 (I 3 4)))) S I L) : ZW G mX2_value fX2_value lX2_value 0 [zo G 3] [] S I L bc bs Q := by
  refine zr_aload_n dX2_value_0 rfl rfl ?_
  refine zr_getR dX2_value_1 zf_X2_15 rfl (hS.has (a := 3) rfl rfl) (hS.ref (a := 5) rfl) ?_
  refine zr_aload_n dX2_value_4 rfl rfl ?_
  refine zr_getIv (x := (I 3 4)) dX2_value_5 zf_X2_25 rfl (hS.has (a := 3) rfl rfl) rfl ?_
  refine zr_callSN (As := [zo G 5, .int (I 3 4)]) (fr' := fX11_pick) (lo' := lX11_pick) (bc' := 0) (bs' := 0) (bcr := bc) (bsr := bs) dX2_value_8 zsn_X2_110 zst_X11_pick rfl rfl (Nat.le_of_ble_eq_true rfl) (Nat.le_of_ble_eq_true rfl) (Nat.le_of_ble_eq_true rfl) (Nat.le_refl _) (Nat.le_refl _) ?_
  refine sp_X11_pick hS (hS.has (a := 5) rfl rfl) rfl ?_
  show ZW G mX2_value fX2_value lX2_value 11 [zo G 3] [.int (p_X11_pick I 5 201 (I 3 4))] S I L bc bs Q
  exact zr_ireturn dX2_value_11 rfl rfl k
def p_X2_value (I : zFI)  : Int32 := (p_X11_pick I 5 201 (I 3 4))
set_option maxHeartbeats 2000000 in
theorem sp_X2_value {G : Gp} {Q : zPost} {S : zSh} {I : zFI} {L : zFL}  (hS : zStd S)  (h : Q (some (.int (p_X2_value I ))) S I L) : ZC G mX2_value fX2_value lX2_value [zo G 3] S I L 0 0 Q := by
  refine ZC.of' (vX2_value_0 hS  ?_) rfl (Nat.le_of_ble_eq_true rfl) rfl
  unfold p_X2_value at h
  exact h
set_option maxHeartbeats 2000000 in
theorem vX2_beginsLine_0 {G : Gp} {bc bs : Nat} {Q : zPost} {S : zSh} {I : zFI} {L : zFL}  (hS : zStd S)  (k : ((¬ (p_X2_token I) = (1 : Int32) → Q (some (.int (0 : Int32))) S I L) ∧ ((p_X2_token I) = (1 : Int32) → (((p_X2_value I) = 0 → Q (some (.int (1 : Int32))) S I L) ∧ (¬ (p_X2_value I) = 0 → (((p_X2_value I) = (4 : Int32) → Q (some (.int (1 : Int32))) S I L) ∧ (¬ (p_X2_value I) = (4 : Int32) → (((p_X2_value I) = (5 : Int32) → Q (some (.int (1 : Int32))) S I L) ∧ (¬ (p_X2_value I) = (5 : Int32) → (((p_X2_value I) < (8 : Int32) → Q (some (.int (0 : Int32))) S I L) ∧ (¬ (p_X2_value I) < (8 : Int32) → (((p_X2_value I) = (12 : Int32) → Q (some (.int (0 : Int32))) S I L) ∧ (¬ (p_X2_value I) = (12 : Int32) → Q (some (.int (1 : Int32))) S I L))))))))))))) : ZW G mX2_beginsLine fX2_beginsLine lX2_beginsLine 0 [zo G 3, .null] [] S I L bc bs Q := by
  refine zr_aload_n dX2_beginsLine_0 rfl rfl ?_
  refine zr_callV (As := []) (fr' := fX2_value) (lo' := lX2_value) (bc' := 0) (bs' := 0) (bcr := bc) (bsr := bs) dX2_beginsLine_1 zs_X2_51 zi_X2_value zcl_2 (hS.has (a := 3) rfl rfl) rfl rfl (Nat.le_of_ble_eq_true rfl) (Nat.le_of_ble_eq_true rfl) (Nat.le_of_ble_eq_true rfl) (Nat.le_refl _) (Nat.le_refl _) ?_
  refine sp_X2_value hS  ?_
  show ZW G mX2_beginsLine fX2_beginsLine lX2_beginsLine 4 [zo G 3, .null] [.int (p_X2_value I)] S I L bc bs Q
  refine zr_istore_n dX2_beginsLine_4 rfl (Nat.le_of_ble_eq_true rfl) rfl ?_
  refine zr_aload_n dX2_beginsLine_5 rfl rfl ?_
  refine zr_callV (As := []) (fr' := fX2_token) (lo' := lX2_token) (bc' := 0) (bs' := 0) (bcr := bc) (bsr := bs) dX2_beginsLine_6 zs_X2_43 zi_X2_token zcl_2 (hS.has (a := 3) rfl rfl) rfl rfl (Nat.le_of_ble_eq_true rfl) (Nat.le_of_ble_eq_true rfl) (Nat.le_of_ble_eq_true rfl) (Nat.le_refl _) (Nat.le_refl _) ?_
  refine sp_X2_token hS  ?_
  show ZW G mX2_beginsLine fX2_beginsLine lX2_beginsLine 9 [zo G 3, .int (p_X2_value I)] [.int (p_X2_token I)] S I L bc bs Q
  refine zr_iconst (v := 1) dX2_beginsLine_9 (by decide) ?_
  refine zr_icne (tgt := 43) dX2_beginsLine_10 (by decide) (fun hb => ?_) (fun hb => ?_)
  · have k := k.1 hb
    refine zr_iconst (v := 0) dX2_beginsLine_43 (by decide) ?_
    exact zr_ireturn dX2_beginsLine_44 rfl rfl k
  · have k := k.2 hb
    refine zr_iload_n dX2_beginsLine_13 rfl rfl ?_
    refine zr_ifeq (tgt := 39) dX2_beginsLine_14 (by decide) (fun hb => ?_) (fun hb => ?_)
    · have k := k.1 hb
      refine zr_iconst (v := 1) dX2_beginsLine_39 (by decide) ?_
      refine zr_goto (tgt := 44) dX2_beginsLine_40 (by decide) ?_
      exact zr_ireturn dX2_beginsLine_44 rfl rfl k
    · have k := k.2 hb
      refine zr_iload_n dX2_beginsLine_17 rfl rfl ?_
      refine zr_iconst (v := 4) dX2_beginsLine_18 (by decide) ?_
      refine zr_iceq (tgt := 39) dX2_beginsLine_19 (by decide) (fun hb => ?_) (fun hb => ?_)
      · have k := k.1 hb
        refine zr_iconst (v := 1) dX2_beginsLine_39 (by decide) ?_
        refine zr_goto (tgt := 44) dX2_beginsLine_40 (by decide) ?_
        exact zr_ireturn dX2_beginsLine_44 rfl rfl k
      · have k := k.2 hb
        refine zr_iload_n dX2_beginsLine_22 rfl rfl ?_
        refine zr_iconst (v := 5) dX2_beginsLine_23 (by decide) ?_
        refine zr_iceq (tgt := 39) dX2_beginsLine_24 (by decide) (fun hb => ?_) (fun hb => ?_)
        · have k := k.1 hb
          refine zr_iconst (v := 1) dX2_beginsLine_39 (by decide) ?_
          refine zr_goto (tgt := 44) dX2_beginsLine_40 (by decide) ?_
          exact zr_ireturn dX2_beginsLine_44 rfl rfl k
        · have k := k.2 hb
          refine zr_iload_n dX2_beginsLine_27 rfl rfl ?_
          refine zr_bipush (v := 8) dX2_beginsLine_28 (by decide) ?_
          refine zr_iclt (tgt := 43) dX2_beginsLine_30 (by decide) (fun hb => ?_) (fun hb => ?_)
          · have k := k.1 hb
            refine zr_iconst (v := 0) dX2_beginsLine_43 (by decide) ?_
            exact zr_ireturn dX2_beginsLine_44 rfl rfl k
          · have k := k.2 hb
            refine zr_iload_n dX2_beginsLine_33 rfl rfl ?_
            refine zr_bipush (v := 12) dX2_beginsLine_34 (by decide) ?_
            refine zr_iceq (tgt := 43) dX2_beginsLine_36 (by decide) (fun hb => ?_) (fun hb => ?_)
            · have k := k.1 hb
              refine zr_iconst (v := 0) dX2_beginsLine_43 (by decide) ?_
              exact zr_ireturn dX2_beginsLine_44 rfl rfl k
            · have k := k.2 hb
              refine zr_iconst (v := 1) dX2_beginsLine_39 (by decide) ?_
              refine zr_goto (tgt := 44) dX2_beginsLine_40 (by decide) ?_
              exact zr_ireturn dX2_beginsLine_44 rfl rfl k
def p_X2_beginsLine (I : zFI)  : Int32 := (if (p_X2_token I) = (1 : Int32) then (if (p_X2_value I) = 0 then (1 : Int32) else (if (p_X2_value I) = (4 : Int32) then (1 : Int32) else (if (p_X2_value I) = (5 : Int32) then (1 : Int32) else (if (p_X2_value I) < (8 : Int32) then (0 : Int32) else (if (p_X2_value I) = (12 : Int32) then (0 : Int32) else (1 : Int32)))))) else (0 : Int32))
set_option maxHeartbeats 2000000 in
theorem sp_X2_beginsLine {G : Gp} {Q : zPost} {S : zSh} {I : zFI} {L : zFL}  (hS : zStd S)  (h : Q (some (.int (p_X2_beginsLine I ))) S I L) : ZC G mX2_beginsLine fX2_beginsLine lX2_beginsLine [zo G 3] S I L 0 0 Q := by
  refine ZC.of' (vX2_beginsLine_0 hS  ?_) rfl (Nat.le_of_ble_eq_true rfl) rfl
  unfold p_X2_beginsLine at h
  refine ⟨fun hb1 => ?_, fun hb1 => ?_⟩
  · rw [if_neg hb1] at h
    exact h
  · rw [if_pos hb1] at h
    refine ⟨fun hb2 => ?_, fun hb2 => ?_⟩
    · rw [if_pos hb2] at h
      exact h
    · rw [if_neg hb2] at h
      refine ⟨fun hb3 => ?_, fun hb3 => ?_⟩
      · rw [if_pos hb3] at h
        exact h
      · rw [if_neg hb3] at h
        refine ⟨fun hb4 => ?_, fun hb4 => ?_⟩
        · rw [if_pos hb4] at h
          exact h
        · rw [if_neg hb4] at h
          refine ⟨fun hb5 => ?_, fun hb5 => ?_⟩
          · rw [if_pos hb5] at h
            exact h
          · rw [if_neg hb5] at h
            refine ⟨fun hb6 => ?_, fun hb6 => ?_⟩
            · rw [if_pos hb6] at h
              exact h
            · rw [if_neg hb6] at h
              exact h
theorem pb_X2_beginsLine (I : zFI)  : p_X2_beginsLine I  = 0 ∨ p_X2_beginsLine I  = 1 := by
  unfold p_X2_beginsLine
  repeat' split
  all_goals first | exact Or.inl rfl | exact Or.inr rfl | assumption
set_option maxHeartbeats 2000000 in
theorem vX2_fail_0 {G : Gp} {bc bs : Nat} {Q : zPost} {S : zSh} {I : zFI} {L : zFL} {v1 : Int32} (hS : zStd S)  (k : ((¬ (I 3 5) = 0 → Q none S I L) ∧ ((I 3 5) = 0 → Q none S (u2 (u2 I 3 5 v1) 3 6 (p_X11_pick (u2 I 3 5 v1) 6 201 (I 3 4))) L))) : ZW G mX2_fail fX2_fail lX2_fail 0 [zo G 3, .int v1] [] S I L bc bs Q := by
  refine zr_aload_n dX2_fail_0 rfl rfl ?_
  refine zr_getIv (x := (I 3 5)) dX2_fail_1 zf_X2_28 rfl (hS.has (a := 3) rfl rfl) rfl ?_
  refine zr_ifne (tgt := 27) dX2_fail_4 (by decide) (fun hb => ?_) (fun hb => ?_)
  · have k := k.1 hb
    exact zr_return_ dX2_fail_27 rfl k
  · have k := k.2 hb
    refine zr_aload_n dX2_fail_7 rfl rfl ?_
    refine zr_iload_n dX2_fail_8 rfl rfl ?_
    refine zr_putI dX2_fail_9 zf_X2_28 rfl (hS.has (a := 3) rfl rfl) rfl rfl ?_
    refine zr_aload_n dX2_fail_12 rfl rfl ?_
    refine zr_aload_n dX2_fail_13 rfl rfl ?_
    refine zr_getR dX2_fail_14 zf_X2_18 rfl (hS.has (a := 3) rfl rfl) (hS.ref (a := 6) rfl) ?_
    refine zr_aload_n dX2_fail_17 rfl rfl ?_
    refine zr_getIv (x := (I 3 4)) dX2_fail_18 zf_X2_25 rfl (hS.has (a := 3) rfl rfl) rfl ?_
    refine zr_callSN (As := [zo G 6, .int (I 3 4)]) (fr' := fX11_pick) (lo' := lX11_pick) (bc' := 0) (bs' := 0) (bcr := bc) (bsr := bs) dX2_fail_21 zsn_X2_110 zst_X11_pick rfl rfl (Nat.le_of_ble_eq_true rfl) (Nat.le_of_ble_eq_true rfl) (Nat.le_of_ble_eq_true rfl) (Nat.le_refl _) (Nat.le_refl _) ?_
    refine sp_X11_pick hS (hS.has (a := 6) rfl rfl) rfl ?_
    show ZW G mX2_fail fX2_fail lX2_fail 24 [zo G 3, .int v1] [.int (p_X11_pick (u2 I 3 5 v1) 6 201 (I 3 4)), zo G 3] S (u2 I 3 5 v1) L bc bs Q
    refine zr_putI dX2_fail_24 zf_X2_31 rfl (hS.has (a := 3) rfl rfl) rfl rfl ?_
    exact zr_return_ dX2_fail_27 rfl k
set_option maxHeartbeats 2000000 in
theorem vX2_readWord_0 {G : Gp} {bc bs : Nat} {Q : zPost} {S : zSh} {I : zFI} {L : zFL} {v1 : Int32} {v2 : Int32} (hS : zStd S)  (k : ((¬ (p_X2_token I) = (1 : Int32) → ZC G mX2_fail fX2_fail lX2_fail [zo G 3, .int (1 : Int32)] S I L 0 0 (fun w S' I1 L1 => w = none ∧ S = S' ∧ Q (some (.int v1)) S I1 L1)) ∧ ((p_X2_token I) = (1 : Int32) → (((p_X2_value I) < v1 → ZC G mX2_fail fX2_fail lX2_fail [zo G 3, .int (1 : Int32)] S I L 0 0 (fun w S' I2 L2 => w = none ∧ S = S' ∧ Q (some (.int v1)) S I2 L2)) ∧ (¬ (p_X2_value I) < v1 → (((p_X2_value I) ≤ v2 → Q (some (.int (p_X2_value I))) S (u2 I 3 4 ((I 3 4) + (1 : Int32))) L) ∧ (¬ (p_X2_value I) ≤ v2 → ZC G mX2_fail fX2_fail lX2_fail [zo G 3, .int (1 : Int32)] S I L 0 0 (fun w S' I3 L3 => w = none ∧ S = S' ∧ Q (some (.int v1)) S I3 L3)))))))) : ZW G mX2_readWord fX2_readWord lX2_readWord 0 [zo G 3, .int v1, .int v2, .null] [] S I L bc bs Q := by
  refine zr_aload_n dX2_readWord_0 rfl rfl ?_
  refine zr_callV (As := []) (fr' := fX2_value) (lo' := lX2_value) (bc' := 0) (bs' := 0) (bcr := bc) (bsr := bs) dX2_readWord_1 zs_X2_51 zi_X2_value zcl_2 (hS.has (a := 3) rfl rfl) rfl rfl (Nat.le_of_ble_eq_true rfl) (Nat.le_of_ble_eq_true rfl) (Nat.le_of_ble_eq_true rfl) (Nat.le_refl _) (Nat.le_refl _) ?_
  refine sp_X2_value hS  ?_
  show ZW G mX2_readWord fX2_readWord lX2_readWord 4 [zo G 3, .int v1, .int v2, .null] [.int (p_X2_value I)] S I L bc bs Q
  refine zr_istore_n dX2_readWord_4 rfl (Nat.le_of_ble_eq_true rfl) rfl ?_
  refine zr_aload_n dX2_readWord_5 rfl rfl ?_
  refine zr_callV (As := []) (fr' := fX2_token) (lo' := lX2_token) (bc' := 0) (bs' := 0) (bcr := bc) (bsr := bs) dX2_readWord_6 zs_X2_43 zi_X2_token zcl_2 (hS.has (a := 3) rfl rfl) rfl rfl (Nat.le_of_ble_eq_true rfl) (Nat.le_of_ble_eq_true rfl) (Nat.le_of_ble_eq_true rfl) (Nat.le_refl _) (Nat.le_refl _) ?_
  refine sp_X2_token hS  ?_
  show ZW G mX2_readWord fX2_readWord lX2_readWord 9 [zo G 3, .int v1, .int v2, .int (p_X2_value I)] [.int (p_X2_token I)] S I L bc bs Q
  refine zr_iconst (v := 1) dX2_readWord_9 (by decide) ?_
  refine zr_icne (tgt := 23) dX2_readWord_10 (by decide) (fun hb => ?_) (fun hb => ?_)
  · have k := k.1 hb
    refine zr_aload_n dX2_readWord_23 rfl rfl ?_
    refine zr_iconst (v := 1) dX2_readWord_24 (by decide) ?_
    refine zr_callV (As := [.int (1 : Int32)]) (fr' := fX2_fail) (lo' := lX2_fail) (bc' := 0) (bs' := 0) (bcr := bc) (bsr := bs) dX2_readWord_25 zs_X2_58 zi_X2_fail zcl_2 (hS.has (a := 3) rfl rfl) rfl rfl (Nat.le_of_ble_eq_true rfl) (Nat.le_of_ble_eq_true rfl) (Nat.le_of_ble_eq_true rfl) (Nat.le_refl _) (Nat.le_refl _) ?_
    refine ZC.mono (fun w S' I1 L1 k => ?_) k
    obtain ⟨rfl, rfl, k⟩ := k
    show ZW G mX2_readWord fX2_readWord lX2_readWord 28 [zo G 3, .int v1, .int v2, .int (p_X2_value I)] [] S I1 L1 bc bs Q
    refine zr_iload_n dX2_readWord_28 rfl rfl ?_
    exact zr_ireturn dX2_readWord_29 rfl rfl k
  · have k := k.2 hb
    refine zr_iload_n dX2_readWord_13 rfl rfl ?_
    refine zr_iload_n dX2_readWord_14 rfl rfl ?_
    refine zr_iclt (tgt := 23) dX2_readWord_15 (by decide) (fun hb => ?_) (fun hb => ?_)
    · have k := k.1 hb
      refine zr_aload_n dX2_readWord_23 rfl rfl ?_
      refine zr_iconst (v := 1) dX2_readWord_24 (by decide) ?_
      refine zr_callV (As := [.int (1 : Int32)]) (fr' := fX2_fail) (lo' := lX2_fail) (bc' := 0) (bs' := 0) (bcr := bc) (bsr := bs) dX2_readWord_25 zs_X2_58 zi_X2_fail zcl_2 (hS.has (a := 3) rfl rfl) rfl rfl (Nat.le_of_ble_eq_true rfl) (Nat.le_of_ble_eq_true rfl) (Nat.le_of_ble_eq_true rfl) (Nat.le_refl _) (Nat.le_refl _) ?_
      refine ZC.mono (fun w S' I2 L2 k => ?_) k
      obtain ⟨rfl, rfl, k⟩ := k
      show ZW G mX2_readWord fX2_readWord lX2_readWord 28 [zo G 3, .int v1, .int v2, .int (p_X2_value I)] [] S I2 L2 bc bs Q
      refine zr_iload_n dX2_readWord_28 rfl rfl ?_
      exact zr_ireturn dX2_readWord_29 rfl rfl k
    · have k := k.2 hb
      refine zr_iload_n dX2_readWord_18 rfl rfl ?_
      refine zr_iload_n dX2_readWord_19 rfl rfl ?_
      refine zr_icle (tgt := 30) dX2_readWord_20 (by decide) (fun hb => ?_) (fun hb => ?_)
      · have k := k.1 hb
        refine zr_aload_n dX2_readWord_30 rfl rfl ?_
        refine zr_dup dX2_readWord_31 rfl ?_
        refine zr_getIv (x := (I 3 4)) dX2_readWord_32 zf_X2_25 rfl (hS.has (a := 3) rfl rfl) rfl ?_
        refine zr_iconst (v := 1) dX2_readWord_35 (by decide) ?_
        refine zr_iadd dX2_readWord_36 ?_
        refine zr_putI dX2_readWord_37 zf_X2_25 rfl (hS.has (a := 3) rfl rfl) rfl rfl ?_
        refine zr_iload_n dX2_readWord_40 rfl rfl ?_
        exact zr_ireturn dX2_readWord_41 rfl rfl k
      · have k := k.2 hb
        refine zr_aload_n dX2_readWord_23 rfl rfl ?_
        refine zr_iconst (v := 1) dX2_readWord_24 (by decide) ?_
        refine zr_callV (As := [.int (1 : Int32)]) (fr' := fX2_fail) (lo' := lX2_fail) (bc' := 0) (bs' := 0) (bcr := bc) (bsr := bs) dX2_readWord_25 zs_X2_58 zi_X2_fail zcl_2 (hS.has (a := 3) rfl rfl) rfl rfl (Nat.le_of_ble_eq_true rfl) (Nat.le_of_ble_eq_true rfl) (Nat.le_of_ble_eq_true rfl) (Nat.le_refl _) (Nat.le_refl _) ?_
        refine ZC.mono (fun w S' I3 L3 k => ?_) k
        obtain ⟨rfl, rfl, k⟩ := k
        show ZW G mX2_readWord fX2_readWord lX2_readWord 28 [zo G 3, .int v1, .int v2, .int (p_X2_value I)] [] S I3 L3 bc bs Q
        refine zr_iload_n dX2_readWord_28 rfl rfl ?_
        exact zr_ireturn dX2_readWord_29 rfl rfl k
set_option maxHeartbeats 2000000 in
theorem vX2_readKinds_0 {G : Gp} {bc bs : Nat} {Q : zPost} {S : zSh} {I : zFI} {L : zFL} {c1 : Nat} {v2 : Int32} (hS : zStd S) (hc1 : zCu c1) (k : ZC G mX2_readWord fX2_readWord lX2_readWord [zo G 3, .int (6 : Int32), .int (7 : Int32)] S I L 0 0 (fun w S' I1 L1 => ∃ r1 : Int32, w = some (.int r1) ∧ S = S' ∧ ZC G mX2_readWord fX2_readWord lX2_readWord [zo G 3, .int (14 : Int32), .int (17 : Int32)] S I1 L1 0 0 (fun w S' I2 L2 => ∃ r2 : Int32, w = some (.int r2) ∧ S = S' ∧ (((I2 3 5) = 0 → ((¬ r1 = (6 : Int32) → ZC G mX1_tellAhead fX1_tellAhead lX1_tellAhead [zo G c1, .int v2, .int (r2 - (14 : Int32))] S I2 L2 0 0 (fun w S' I3 L3 => w = none ∧ S = S' ∧ Q none S I3 L3)) ∧ (r1 = (6 : Int32) → ZC G mX1_tellInto fX1_tellInto lX1_tellInto [zo G c1, .int v2, .int (r2 - (14 : Int32))] S I2 L2 0 0 (fun w S' I4 L4 => w = none ∧ S = S' ∧ Q none S I4 L4)))) ∧ (¬ (I2 3 5) = 0 → Q none S I2 L2))))) : ZW G mX2_readKinds fX2_readKinds lX2_readKinds 0 [zo G 3, zo G c1, .int v2, .null, .null] [] S I L bc bs Q := by
  refine zr_aload_n dX2_readKinds_0 rfl rfl ?_
  refine zr_bipush (v := 6) dX2_readKinds_1 (by decide) ?_
  refine zr_bipush (v := 7) dX2_readKinds_3 (by decide) ?_
  refine zr_callV (As := [.int (6 : Int32), .int (7 : Int32)]) (fr' := fX2_readWord) (lo' := lX2_readWord) (bc' := 0) (bs' := 0) (bcr := bc) (bsr := bs) dX2_readKinds_5 zs_X2_68 zi_X2_readWord zcl_2 (hS.has (a := 3) rfl rfl) rfl rfl (Nat.le_of_ble_eq_true rfl) (Nat.le_of_ble_eq_true rfl) (Nat.le_of_ble_eq_true rfl) (Nat.le_refl _) (Nat.le_refl _) ?_
  refine ZC.mono (fun w S' I1 L1 k => ?_) k
  obtain ⟨r1, rfl, rfl, k⟩ := k
  show ZW G mX2_readKinds fX2_readKinds lX2_readKinds 8 [zo G 3, zo G c1, .int v2, .null, .null] [.int r1] S I1 L1 bc bs Q
  refine zr_istore_n dX2_readKinds_8 rfl (Nat.le_of_ble_eq_true rfl) rfl ?_
  refine zr_aload_n dX2_readKinds_9 rfl rfl ?_
  refine zr_bipush (v := 14) dX2_readKinds_10 (by decide) ?_
  refine zr_bipush (v := 17) dX2_readKinds_12 (by decide) ?_
  refine zr_callV (As := [.int (14 : Int32), .int (17 : Int32)]) (fr' := fX2_readWord) (lo' := lX2_readWord) (bc' := 0) (bs' := 0) (bcr := bc) (bsr := bs) dX2_readKinds_14 zs_X2_68 zi_X2_readWord zcl_2 (hS.has (a := 3) rfl rfl) rfl rfl (Nat.le_of_ble_eq_true rfl) (Nat.le_of_ble_eq_true rfl) (Nat.le_of_ble_eq_true rfl) (Nat.le_refl _) (Nat.le_refl _) ?_
  refine ZC.mono (fun w S' I2 L2 k => ?_) k
  obtain ⟨r2, rfl, rfl, k⟩ := k
  show ZW G mX2_readKinds fX2_readKinds lX2_readKinds 17 [zo G 3, zo G c1, .int v2, .int r1, .null] [.int r2] S I2 L2 bc bs Q
  refine zr_bipush (v := 14) dX2_readKinds_17 (by decide) ?_
  refine zr_isub dX2_readKinds_19 ?_
  refine zr_istore dX2_readKinds_20 (Nat.le_of_ble_eq_true rfl) rfl ?_
  refine zr_aload_n dX2_readKinds_22 rfl rfl ?_
  refine zr_getIv (x := (I2 3 5)) dX2_readKinds_23 zf_X2_28 rfl (hS.has (a := 3) rfl rfl) rfl ?_
  refine zr_ifeq (tgt := 30) dX2_readKinds_26 (by decide) (fun hb => ?_) (fun hb => ?_)
  · have k := k.1 hb
    refine zr_iload_n dX2_readKinds_30 rfl rfl ?_
    refine zr_bipush (v := 6) dX2_readKinds_31 (by decide) ?_
    refine zr_icne (tgt := 46) dX2_readKinds_33 (by decide) (fun hb => ?_) (fun hb => ?_)
    · have k := k.1 hb
      refine zr_aload_n dX2_readKinds_46 rfl rfl ?_
      refine zr_iload_n dX2_readKinds_47 rfl rfl ?_
      refine zr_iload dX2_readKinds_48 rfl ?_
      refine zr_callV (As := [.int v2, .int (r2 - (14 : Int32))]) (fr' := fX1_tellAhead) (lo' := lX1_tellAhead) (bc' := 0) (bs' := 0) (bcr := bc) (bsr := bs) dX2_readKinds_50 zs_X2_107 zi_X1_tellAhead zcl_1 (hS.hasC hc1) rfl rfl (Nat.le_of_ble_eq_true rfl) (Nat.le_of_ble_eq_true rfl) (Nat.le_of_ble_eq_true rfl) (Nat.le_refl _) (Nat.le_refl _) ?_
      refine ZC.mono (fun w S' I3 L3 k => ?_) k
      obtain ⟨rfl, rfl, k⟩ := k
      show ZW G mX2_readKinds fX2_readKinds lX2_readKinds 53 [zo G 3, zo G c1, .int v2, .int r1, .int (r2 - (14 : Int32))] [] S I3 L3 bc bs Q
      exact zr_return_ dX2_readKinds_53 rfl k
    · have k := k.2 hb
      refine zr_aload_n dX2_readKinds_36 rfl rfl ?_
      refine zr_iload_n dX2_readKinds_37 rfl rfl ?_
      refine zr_iload dX2_readKinds_38 rfl ?_
      refine zr_callV (As := [.int v2, .int (r2 - (14 : Int32))]) (fr' := fX1_tellInto) (lo' := lX1_tellInto) (bc' := 0) (bs' := 0) (bcr := bc) (bsr := bs) dX2_readKinds_40 zs_X2_103 zi_X1_tellInto zcl_1 (hS.hasC hc1) rfl rfl (Nat.le_of_ble_eq_true rfl) (Nat.le_of_ble_eq_true rfl) (Nat.le_of_ble_eq_true rfl) (Nat.le_refl _) (Nat.le_refl _) ?_
      refine ZC.mono (fun w S' I4 L4 k => ?_) k
      obtain ⟨rfl, rfl, k⟩ := k
      show ZW G mX2_readKinds fX2_readKinds lX2_readKinds 43 [zo G 3, zo G c1, .int v2, .int r1, .int (r2 - (14 : Int32))] [] S I4 L4 bc bs Q
      refine zr_goto (tgt := 53) dX2_readKinds_43 (by decide) ?_
      exact zr_return_ dX2_readKinds_53 rfl k
  · have k := k.2 hb
    exact zr_return_ dX2_readKinds_29 rfl k
set_option maxHeartbeats 2000000 in
theorem vX2_readNumber_0 {G : Gp} {bc bs : Nat} {Q : zPost} {S : zSh} {I : zFI} {L : zFL} {v1 : Int32} {v2 : Int32} (hS : zStd S)  (k : (((p_X2_token I) = (2 : Int32) → (((p_X2_value I) < v1 → ZC G mX2_fail fX2_fail lX2_fail [zo G 3, .int (2 : Int32)] S I L 0 0 (fun w S' I1 L1 => w = none ∧ S = S' ∧ Q (some (.int v1)) S I1 L1)) ∧ (¬ (p_X2_value I) < v1 → (((p_X2_value I) ≤ v2 → Q (some (.int (p_X2_value I))) S (u2 I 3 4 ((I 3 4) + (1 : Int32))) L) ∧ (¬ (p_X2_value I) ≤ v2 → ZC G mX2_fail fX2_fail lX2_fail [zo G 3, .int (2 : Int32)] S I L 0 0 (fun w S' I2 L2 => w = none ∧ S = S' ∧ Q (some (.int v1)) S I2 L2)))))) ∧ (¬ (p_X2_token I) = (2 : Int32) → ZC G mX2_fail fX2_fail lX2_fail [zo G 3, .int (1 : Int32)] S I L 0 0 (fun w S' I3 L3 => w = none ∧ S = S' ∧ Q (some (.int v1)) S I3 L3)))) : ZW G mX2_readNumber fX2_readNumber lX2_readNumber 0 [zo G 3, .int v1, .int v2, .null] [] S I L bc bs Q := by
  refine zr_aload_n dX2_readNumber_0 rfl rfl ?_
  refine zr_callV (As := []) (fr' := fX2_value) (lo' := lX2_value) (bc' := 0) (bs' := 0) (bcr := bc) (bsr := bs) dX2_readNumber_1 zs_X2_51 zi_X2_value zcl_2 (hS.has (a := 3) rfl rfl) rfl rfl (Nat.le_of_ble_eq_true rfl) (Nat.le_of_ble_eq_true rfl) (Nat.le_of_ble_eq_true rfl) (Nat.le_refl _) (Nat.le_refl _) ?_
  refine sp_X2_value hS  ?_
  show ZW G mX2_readNumber fX2_readNumber lX2_readNumber 4 [zo G 3, .int v1, .int v2, .null] [.int (p_X2_value I)] S I L bc bs Q
  refine zr_istore_n dX2_readNumber_4 rfl (Nat.le_of_ble_eq_true rfl) rfl ?_
  refine zr_aload_n dX2_readNumber_5 rfl rfl ?_
  refine zr_callV (As := []) (fr' := fX2_token) (lo' := lX2_token) (bc' := 0) (bs' := 0) (bcr := bc) (bsr := bs) dX2_readNumber_6 zs_X2_43 zi_X2_token zcl_2 (hS.has (a := 3) rfl rfl) rfl rfl (Nat.le_of_ble_eq_true rfl) (Nat.le_of_ble_eq_true rfl) (Nat.le_of_ble_eq_true rfl) (Nat.le_refl _) (Nat.le_refl _) ?_
  refine sp_X2_token hS  ?_
  show ZW G mX2_readNumber fX2_readNumber lX2_readNumber 9 [zo G 3, .int v1, .int v2, .int (p_X2_value I)] [.int (p_X2_token I)] S I L bc bs Q
  refine zr_iconst (v := 2) dX2_readNumber_9 (by decide) ?_
  refine zr_iceq (tgt := 20) dX2_readNumber_10 (by decide) (fun hb => ?_) (fun hb => ?_)
  · have k := k.1 hb
    refine zr_iload_n dX2_readNumber_20 rfl rfl ?_
    refine zr_iload_n dX2_readNumber_21 rfl rfl ?_
    refine zr_iclt (tgt := 30) dX2_readNumber_22 (by decide) (fun hb => ?_) (fun hb => ?_)
    · have k := k.1 hb
      refine zr_aload_n dX2_readNumber_30 rfl rfl ?_
      refine zr_iconst (v := 2) dX2_readNumber_31 (by decide) ?_
      refine zr_callV (As := [.int (2 : Int32)]) (fr' := fX2_fail) (lo' := lX2_fail) (bc' := 0) (bs' := 0) (bcr := bc) (bsr := bs) dX2_readNumber_32 zs_X2_58 zi_X2_fail zcl_2 (hS.has (a := 3) rfl rfl) rfl rfl (Nat.le_of_ble_eq_true rfl) (Nat.le_of_ble_eq_true rfl) (Nat.le_of_ble_eq_true rfl) (Nat.le_refl _) (Nat.le_refl _) ?_
      refine ZC.mono (fun w S' I1 L1 k => ?_) k
      obtain ⟨rfl, rfl, k⟩ := k
      show ZW G mX2_readNumber fX2_readNumber lX2_readNumber 35 [zo G 3, .int v1, .int v2, .int (p_X2_value I)] [] S I1 L1 bc bs Q
      refine zr_iload_n dX2_readNumber_35 rfl rfl ?_
      exact zr_ireturn dX2_readNumber_36 rfl rfl k
    · have k := k.2 hb
      refine zr_iload_n dX2_readNumber_25 rfl rfl ?_
      refine zr_iload_n dX2_readNumber_26 rfl rfl ?_
      refine zr_icle (tgt := 37) dX2_readNumber_27 (by decide) (fun hb => ?_) (fun hb => ?_)
      · have k := k.1 hb
        refine zr_aload_n dX2_readNumber_37 rfl rfl ?_
        refine zr_dup dX2_readNumber_38 rfl ?_
        refine zr_getIv (x := (I 3 4)) dX2_readNumber_39 zf_X2_25 rfl (hS.has (a := 3) rfl rfl) rfl ?_
        refine zr_iconst (v := 1) dX2_readNumber_42 (by decide) ?_
        refine zr_iadd dX2_readNumber_43 ?_
        refine zr_putI dX2_readNumber_44 zf_X2_25 rfl (hS.has (a := 3) rfl rfl) rfl rfl ?_
        refine zr_iload_n dX2_readNumber_47 rfl rfl ?_
        exact zr_ireturn dX2_readNumber_48 rfl rfl k
      · have k := k.2 hb
        refine zr_aload_n dX2_readNumber_30 rfl rfl ?_
        refine zr_iconst (v := 2) dX2_readNumber_31 (by decide) ?_
        refine zr_callV (As := [.int (2 : Int32)]) (fr' := fX2_fail) (lo' := lX2_fail) (bc' := 0) (bs' := 0) (bcr := bc) (bsr := bs) dX2_readNumber_32 zs_X2_58 zi_X2_fail zcl_2 (hS.has (a := 3) rfl rfl) rfl rfl (Nat.le_of_ble_eq_true rfl) (Nat.le_of_ble_eq_true rfl) (Nat.le_of_ble_eq_true rfl) (Nat.le_refl _) (Nat.le_refl _) ?_
        refine ZC.mono (fun w S' I2 L2 k => ?_) k
        obtain ⟨rfl, rfl, k⟩ := k
        show ZW G mX2_readNumber fX2_readNumber lX2_readNumber 35 [zo G 3, .int v1, .int v2, .int (p_X2_value I)] [] S I2 L2 bc bs Q
        refine zr_iload_n dX2_readNumber_35 rfl rfl ?_
        exact zr_ireturn dX2_readNumber_36 rfl rfl k
  · have k := k.2 hb
    refine zr_aload_n dX2_readNumber_13 rfl rfl ?_
    refine zr_iconst (v := 1) dX2_readNumber_14 (by decide) ?_
    refine zr_callV (As := [.int (1 : Int32)]) (fr' := fX2_fail) (lo' := lX2_fail) (bc' := 0) (bs' := 0) (bcr := bc) (bsr := bs) dX2_readNumber_15 zs_X2_58 zi_X2_fail zcl_2 (hS.has (a := 3) rfl rfl) rfl rfl (Nat.le_of_ble_eq_true rfl) (Nat.le_of_ble_eq_true rfl) (Nat.le_of_ble_eq_true rfl) (Nat.le_refl _) (Nat.le_refl _) ?_
    refine ZC.mono (fun w S' I3 L3 k => ?_) k
    obtain ⟨rfl, rfl, k⟩ := k
    show ZW G mX2_readNumber fX2_readNumber lX2_readNumber 18 [zo G 3, .int v1, .int v2, .int (p_X2_value I)] [] S I3 L3 bc bs Q
    refine zr_iload_n dX2_readNumber_18 rfl rfl ?_
    exact zr_ireturn dX2_readNumber_19 rfl rfl k
set_option maxHeartbeats 2000000 in
theorem vX2_readRule_0 {G : Gp} {bc bs : Nat} {Q : zPost} {S : zSh} {I : zFI} {L : zFL} {c1 : Nat} {v2 : Int32} (hS : zStd S) (hc1 : zCu c1) (k : ((v2 = 0 → ZC G mX2_readWord fX2_readWord lX2_readWord [zo G 3, .int (1 : Int32), .int (3 : Int32)] S I L 0 0 (fun w S' I1 L1 => ∃ r1 : Int32, w = some (.int r1) ∧ S = S' ∧ Q none S (u2 I1 c1 0 r1) L1)) ∧ (v2 = 1 → ZC G mX2_readNumber fX2_readNumber lX2_readNumber [zo G 3, .int (0 : Int32), .int (99 : Int32)] S I L 0 0 (fun w S' I2 L2 => ∃ r2 : Int32, w = some (.int r2) ∧ S = S' ∧ Q none S (u2 I2 c1 8 r2) L2)) ∧ (v2 = 2 → ZC G mX2_readNumber fX2_readNumber lX2_readNumber [zo G 3, .int (0 : Int32), .int (99 : Int32)] S I L 0 0 (fun w S' I3 L3 => ∃ r3 : Int32, w = some (.int r3) ∧ S = S' ∧ Q none S (u2 I3 c1 8 r3) L3)) ∧ (v2 = 3 → ZC G mX2_readNumber fX2_readNumber lX2_readNumber [zo G 3, .int (0 : Int32), .int (99 : Int32)] S I L 0 0 (fun w S' I4 L4 => ∃ r4 : Int32, w = some (.int r4) ∧ S = S' ∧ Q none S (u2 I4 c1 8 r4) L4)) ∧ (v2 = 4 → Q none S (u2 I c1 1 (1 : Int32)) L) ∧ (v2 = 5 → ZC G mX2_readNumber fX2_readNumber lX2_readNumber [zo G 3, .int (0 : Int32), .int (3 : Int32)] S I L 0 0 (fun w S' I5 L5 => ∃ r5 : Int32, w = some (.int r5) ∧ S = S' ∧ Q none S (u2 I5 c1 2 r5) L5)) ∧ (v2 = 6 → ZC G mX2_readNumber fX2_readNumber lX2_readNumber [zo G 3, .int (0 : Int32), .int (99 : Int32)] S I L 0 0 (fun w S' I6 L6 => ∃ r6 : Int32, w = some (.int r6) ∧ S = S' ∧ Q none S (u2 I6 c1 8 r6) L6)) ∧ (v2 = 7 → ZC G mX2_readNumber fX2_readNumber lX2_readNumber [zo G 3, .int (0 : Int32), .int (99 : Int32)] S I L 0 0 (fun w S' I7 L7 => ∃ r7 : Int32, w = some (.int r7) ∧ S = S' ∧ Q none S (u2 I7 c1 8 r7) L7)) ∧ (v2 = 8 → ZC G mX2_readNumber fX2_readNumber lX2_readNumber [zo G 3, .int (0 : Int32), .int (5 : Int32)] S I L 0 0 (fun w S' I8 L8 => ∃ r8 : Int32, w = some (.int r8) ∧ S = S' ∧ Q none S (u2 I8 c1 3 r8) L8)) ∧ (v2 = 9 → ZC G mX2_readNumber fX2_readNumber lX2_readNumber [zo G 3, .int (0 : Int32), .int (99 : Int32)] S I L 0 0 (fun w S' I9 L9 => ∃ r9 : Int32, w = some (.int r9) ∧ S = S' ∧ Q none S (u2 I9 c1 4 r9) L9)) ∧ (v2 = 10 → ZC G mX2_readNumber fX2_readNumber lX2_readNumber [zo G 3, .int (0 : Int32), .int (9 : Int32)] S I L 0 0 (fun w S' I10 L10 => ∃ r10 : Int32, w = some (.int r10) ∧ S = S' ∧ Q none S (u2 I10 c1 5 r10) L10)) ∧ (v2 = 11 → ZC G mX2_readNumber fX2_readNumber lX2_readNumber [zo G 3, .int (0 : Int32), .int (99 : Int32)] S I L 0 0 (fun w S' I11 L11 => ∃ r11 : Int32, w = some (.int r11) ∧ S = S' ∧ ZC G mX2_readWord fX2_readWord lX2_readWord [zo G 3, .int (12 : Int32), .int (12 : Int32)] S (u2 I11 c1 6 r11) L11 0 0 (fun w S' I12 L12 => ∃ r12 : Int32, w = some (.int r12) ∧ S = S' ∧ ZC G mX2_readNumber fX2_readNumber lX2_readNumber [zo G 3, .int (I12 c1 6), .int (99 : Int32)] S I12 L12 0 0 (fun w S' I13 L13 => ∃ r13 : Int32, w = some (.int r13) ∧ S = S' ∧ Q none S (u2 I13 c1 7 r13) L13)))) ∧ (¬ v2 = 0 → ¬ v2 = 1 → ¬ v2 = 2 → ¬ v2 = 3 → ¬ v2 = 4 → ¬ v2 = 5 → ¬ v2 = 6 → ¬ v2 = 7 → ¬ v2 = 8 → ¬ v2 = 9 → ¬ v2 = 10 → ¬ v2 = 11 → ZC G mX2_readNumber fX2_readNumber lX2_readNumber [zo G 3, .int (0 : Int32), .int (99 : Int32)] S I L 0 0 (fun w S' I14 L14 => ∃ r14 : Int32, w = some (.int r14) ∧ S = S' ∧ Q none S (u2 I14 c1 8 r14) L14)))) : ZW G mX2_readRule fX2_readRule lX2_readRule 0 [zo G 3, zo G c1, .int v2] [] S I L bc bs Q := by
  refine zr_iload_n dX2_readRule_0 rfl rfl ?_
  by_cases h0 : v2 = 0
  · have k := k.1 h0
    refine zr_tabIn (off := 63) (tgt := 64) dX2_readRule_1 (by rw [h0]; decide) (by rw [h0]; decide) (by rw [h0]; rfl) (by decide) ?_
    refine zr_aload_n dX2_readRule_64 rfl rfl ?_
    refine zr_aload_n dX2_readRule_65 rfl rfl ?_
    refine zr_iconst (v := 1) dX2_readRule_66 (by decide) ?_
    refine zr_iconst (v := 3) dX2_readRule_67 (by decide) ?_
    refine zr_callV (As := [.int (1 : Int32), .int (3 : Int32)]) (fr' := fX2_readWord) (lo' := lX2_readWord) (bc' := 0) (bs' := 0) (bcr := bc) (bsr := bs) dX2_readRule_68 zs_X2_68 zi_X2_readWord zcl_2 (hS.has (a := 3) rfl rfl) rfl rfl (Nat.le_of_ble_eq_true rfl) (Nat.le_of_ble_eq_true rfl) (Nat.le_of_ble_eq_true rfl) (Nat.le_refl _) (Nat.le_refl _) ?_
    refine ZC.mono (fun w S' I1 L1 k => ?_) k
    obtain ⟨r1, rfl, rfl, k⟩ := k
    show ZW G mX2_readRule fX2_readRule lX2_readRule 71 [zo G 3, zo G c1, .int v2] [.int r1, zo G c1] S I1 L1 bc bs Q
    refine zr_putI dX2_readRule_71 zf_X2_72 rfl (hS.hasC hc1) rfl rfl ?_
    refine zr_goto (tgt := 187) dX2_readRule_74 (by decide) ?_
    exact zr_return_ dX2_readRule_187 rfl k
  · by_cases h1 : v2 = 1
    · have k := k.2.1 h1
      refine zr_tabIn (off := 175) (tgt := 176) dX2_readRule_1 (by rw [h1]; decide) (by rw [h1]; decide) (by rw [h1]; rfl) (by decide) ?_
      refine zr_aload_n dX2_readRule_176 rfl rfl ?_
      refine zr_aload_n dX2_readRule_177 rfl rfl ?_
      refine zr_iconst (v := 0) dX2_readRule_178 (by decide) ?_
      refine zr_bipush (v := 99) dX2_readRule_179 (by decide) ?_
      refine zr_callV (As := [.int (0 : Int32), .int (99 : Int32)]) (fr' := fX2_readNumber) (lo' := lX2_readNumber) (bc' := 0) (bs' := 0) (bcr := bc) (bsr := bs) dX2_readRule_181 zs_X2_79 zi_X2_readNumber zcl_2 (hS.has (a := 3) rfl rfl) rfl rfl (Nat.le_of_ble_eq_true rfl) (Nat.le_of_ble_eq_true rfl) (Nat.le_of_ble_eq_true rfl) (Nat.le_refl _) (Nat.le_refl _) ?_
      refine ZC.mono (fun w S' I2 L2 k => ?_) k
      obtain ⟨r2, rfl, rfl, k⟩ := k
      show ZW G mX2_readRule fX2_readRule lX2_readRule 184 [zo G 3, zo G c1, .int v2] [.int r2, zo G c1] S I2 L2 bc bs Q
      refine zr_putI dX2_readRule_184 zf_X2_100 rfl (hS.hasC hc1) rfl rfl ?_
      exact zr_return_ dX2_readRule_187 rfl k
    · by_cases h2 : v2 = 2
      · have k := k.2.2.1 h2
        refine zr_tabIn (off := 175) (tgt := 176) dX2_readRule_1 (by rw [h2]; decide) (by rw [h2]; decide) (by rw [h2]; rfl) (by decide) ?_
        refine zr_aload_n dX2_readRule_176 rfl rfl ?_
        refine zr_aload_n dX2_readRule_177 rfl rfl ?_
        refine zr_iconst (v := 0) dX2_readRule_178 (by decide) ?_
        refine zr_bipush (v := 99) dX2_readRule_179 (by decide) ?_
        refine zr_callV (As := [.int (0 : Int32), .int (99 : Int32)]) (fr' := fX2_readNumber) (lo' := lX2_readNumber) (bc' := 0) (bs' := 0) (bcr := bc) (bsr := bs) dX2_readRule_181 zs_X2_79 zi_X2_readNumber zcl_2 (hS.has (a := 3) rfl rfl) rfl rfl (Nat.le_of_ble_eq_true rfl) (Nat.le_of_ble_eq_true rfl) (Nat.le_of_ble_eq_true rfl) (Nat.le_refl _) (Nat.le_refl _) ?_
        refine ZC.mono (fun w S' I3 L3 k => ?_) k
        obtain ⟨r3, rfl, rfl, k⟩ := k
        show ZW G mX2_readRule fX2_readRule lX2_readRule 184 [zo G 3, zo G c1, .int v2] [.int r3, zo G c1] S I3 L3 bc bs Q
        refine zr_putI dX2_readRule_184 zf_X2_100 rfl (hS.hasC hc1) rfl rfl ?_
        exact zr_return_ dX2_readRule_187 rfl k
      · by_cases h3 : v2 = 3
        · have k := k.2.2.2.1 h3
          refine zr_tabIn (off := 175) (tgt := 176) dX2_readRule_1 (by rw [h3]; decide) (by rw [h3]; decide) (by rw [h3]; rfl) (by decide) ?_
          refine zr_aload_n dX2_readRule_176 rfl rfl ?_
          refine zr_aload_n dX2_readRule_177 rfl rfl ?_
          refine zr_iconst (v := 0) dX2_readRule_178 (by decide) ?_
          refine zr_bipush (v := 99) dX2_readRule_179 (by decide) ?_
          refine zr_callV (As := [.int (0 : Int32), .int (99 : Int32)]) (fr' := fX2_readNumber) (lo' := lX2_readNumber) (bc' := 0) (bs' := 0) (bcr := bc) (bsr := bs) dX2_readRule_181 zs_X2_79 zi_X2_readNumber zcl_2 (hS.has (a := 3) rfl rfl) rfl rfl (Nat.le_of_ble_eq_true rfl) (Nat.le_of_ble_eq_true rfl) (Nat.le_of_ble_eq_true rfl) (Nat.le_refl _) (Nat.le_refl _) ?_
          refine ZC.mono (fun w S' I4 L4 k => ?_) k
          obtain ⟨r4, rfl, rfl, k⟩ := k
          show ZW G mX2_readRule fX2_readRule lX2_readRule 184 [zo G 3, zo G c1, .int v2] [.int r4, zo G c1] S I4 L4 bc bs Q
          refine zr_putI dX2_readRule_184 zf_X2_100 rfl (hS.hasC hc1) rfl rfl ?_
          exact zr_return_ dX2_readRule_187 rfl k
        · by_cases h4 : v2 = 4
          · have k := k.2.2.2.2.1 h4
            refine zr_tabIn (off := 76) (tgt := 77) dX2_readRule_1 (by rw [h4]; decide) (by rw [h4]; decide) (by rw [h4]; rfl) (by decide) ?_
            refine zr_aload_n dX2_readRule_77 rfl rfl ?_
            refine zr_iconst (v := 1) dX2_readRule_78 (by decide) ?_
            refine zr_putI dX2_readRule_79 zf_X2_75 rfl (hS.hasC hc1) rfl rfl ?_
            refine zr_goto (tgt := 187) dX2_readRule_82 (by decide) ?_
            exact zr_return_ dX2_readRule_187 rfl k
          · by_cases h5 : v2 = 5
            · have k := k.2.2.2.2.2.1 h5
              refine zr_tabIn (off := 84) (tgt := 85) dX2_readRule_1 (by rw [h5]; decide) (by rw [h5]; decide) (by rw [h5]; rfl) (by decide) ?_
              refine zr_aload_n dX2_readRule_85 rfl rfl ?_
              refine zr_aload_n dX2_readRule_86 rfl rfl ?_
              refine zr_iconst (v := 0) dX2_readRule_87 (by decide) ?_
              refine zr_iconst (v := 3) dX2_readRule_88 (by decide) ?_
              refine zr_callV (As := [.int (0 : Int32), .int (3 : Int32)]) (fr' := fX2_readNumber) (lo' := lX2_readNumber) (bc' := 0) (bs' := 0) (bcr := bc) (bsr := bs) dX2_readRule_89 zs_X2_79 zi_X2_readNumber zcl_2 (hS.has (a := 3) rfl rfl) rfl rfl (Nat.le_of_ble_eq_true rfl) (Nat.le_of_ble_eq_true rfl) (Nat.le_of_ble_eq_true rfl) (Nat.le_refl _) (Nat.le_refl _) ?_
              refine ZC.mono (fun w S' I5 L5 k => ?_) k
              obtain ⟨r5, rfl, rfl, k⟩ := k
              show ZW G mX2_readRule fX2_readRule lX2_readRule 92 [zo G 3, zo G c1, .int v2] [.int r5, zo G c1] S I5 L5 bc bs Q
              refine zr_putI dX2_readRule_92 zf_X2_82 rfl (hS.hasC hc1) rfl rfl ?_
              refine zr_goto (tgt := 187) dX2_readRule_95 (by decide) ?_
              exact zr_return_ dX2_readRule_187 rfl k
            · by_cases h6 : v2 = 6
              · have k := k.2.2.2.2.2.2.1 h6
                refine zr_tabIn (off := 175) (tgt := 176) dX2_readRule_1 (by rw [h6]; decide) (by rw [h6]; decide) (by rw [h6]; rfl) (by decide) ?_
                refine zr_aload_n dX2_readRule_176 rfl rfl ?_
                refine zr_aload_n dX2_readRule_177 rfl rfl ?_
                refine zr_iconst (v := 0) dX2_readRule_178 (by decide) ?_
                refine zr_bipush (v := 99) dX2_readRule_179 (by decide) ?_
                refine zr_callV (As := [.int (0 : Int32), .int (99 : Int32)]) (fr' := fX2_readNumber) (lo' := lX2_readNumber) (bc' := 0) (bs' := 0) (bcr := bc) (bsr := bs) dX2_readRule_181 zs_X2_79 zi_X2_readNumber zcl_2 (hS.has (a := 3) rfl rfl) rfl rfl (Nat.le_of_ble_eq_true rfl) (Nat.le_of_ble_eq_true rfl) (Nat.le_of_ble_eq_true rfl) (Nat.le_refl _) (Nat.le_refl _) ?_
                refine ZC.mono (fun w S' I6 L6 k => ?_) k
                obtain ⟨r6, rfl, rfl, k⟩ := k
                show ZW G mX2_readRule fX2_readRule lX2_readRule 184 [zo G 3, zo G c1, .int v2] [.int r6, zo G c1] S I6 L6 bc bs Q
                refine zr_putI dX2_readRule_184 zf_X2_100 rfl (hS.hasC hc1) rfl rfl ?_
                exact zr_return_ dX2_readRule_187 rfl k
              · by_cases h7 : v2 = 7
                · have k := k.2.2.2.2.2.2.2.1 h7
                  refine zr_tabIn (off := 175) (tgt := 176) dX2_readRule_1 (by rw [h7]; decide) (by rw [h7]; decide) (by rw [h7]; rfl) (by decide) ?_
                  refine zr_aload_n dX2_readRule_176 rfl rfl ?_
                  refine zr_aload_n dX2_readRule_177 rfl rfl ?_
                  refine zr_iconst (v := 0) dX2_readRule_178 (by decide) ?_
                  refine zr_bipush (v := 99) dX2_readRule_179 (by decide) ?_
                  refine zr_callV (As := [.int (0 : Int32), .int (99 : Int32)]) (fr' := fX2_readNumber) (lo' := lX2_readNumber) (bc' := 0) (bs' := 0) (bcr := bc) (bsr := bs) dX2_readRule_181 zs_X2_79 zi_X2_readNumber zcl_2 (hS.has (a := 3) rfl rfl) rfl rfl (Nat.le_of_ble_eq_true rfl) (Nat.le_of_ble_eq_true rfl) (Nat.le_of_ble_eq_true rfl) (Nat.le_refl _) (Nat.le_refl _) ?_
                  refine ZC.mono (fun w S' I7 L7 k => ?_) k
                  obtain ⟨r7, rfl, rfl, k⟩ := k
                  show ZW G mX2_readRule fX2_readRule lX2_readRule 184 [zo G 3, zo G c1, .int v2] [.int r7, zo G c1] S I7 L7 bc bs Q
                  refine zr_putI dX2_readRule_184 zf_X2_100 rfl (hS.hasC hc1) rfl rfl ?_
                  exact zr_return_ dX2_readRule_187 rfl k
                · by_cases h8 : v2 = 8
                  · have k := k.2.2.2.2.2.2.2.2.1 h8
                    refine zr_tabIn (off := 97) (tgt := 98) dX2_readRule_1 (by rw [h8]; decide) (by rw [h8]; decide) (by rw [h8]; rfl) (by decide) ?_
                    refine zr_aload_n dX2_readRule_98 rfl rfl ?_
                    refine zr_aload_n dX2_readRule_99 rfl rfl ?_
                    refine zr_iconst (v := 0) dX2_readRule_100 (by decide) ?_
                    refine zr_iconst (v := 5) dX2_readRule_101 (by decide) ?_
                    refine zr_callV (As := [.int (0 : Int32), .int (5 : Int32)]) (fr' := fX2_readNumber) (lo' := lX2_readNumber) (bc' := 0) (bs' := 0) (bcr := bc) (bsr := bs) dX2_readRule_102 zs_X2_79 zi_X2_readNumber zcl_2 (hS.has (a := 3) rfl rfl) rfl rfl (Nat.le_of_ble_eq_true rfl) (Nat.le_of_ble_eq_true rfl) (Nat.le_of_ble_eq_true rfl) (Nat.le_refl _) (Nat.le_refl _) ?_
                    refine ZC.mono (fun w S' I8 L8 k => ?_) k
                    obtain ⟨r8, rfl, rfl, k⟩ := k
                    show ZW G mX2_readRule fX2_readRule lX2_readRule 105 [zo G 3, zo G c1, .int v2] [.int r8, zo G c1] S I8 L8 bc bs Q
                    refine zr_putI dX2_readRule_105 zf_X2_85 rfl (hS.hasC hc1) rfl rfl ?_
                    refine zr_goto (tgt := 187) dX2_readRule_108 (by decide) ?_
                    exact zr_return_ dX2_readRule_187 rfl k
                  · by_cases h9 : v2 = 9
                    · have k := k.2.2.2.2.2.2.2.2.2.1 h9
                      refine zr_tabIn (off := 110) (tgt := 111) dX2_readRule_1 (by rw [h9]; decide) (by rw [h9]; decide) (by rw [h9]; rfl) (by decide) ?_
                      refine zr_aload_n dX2_readRule_111 rfl rfl ?_
                      refine zr_aload_n dX2_readRule_112 rfl rfl ?_
                      refine zr_iconst (v := 0) dX2_readRule_113 (by decide) ?_
                      refine zr_bipush (v := 99) dX2_readRule_114 (by decide) ?_
                      refine zr_callV (As := [.int (0 : Int32), .int (99 : Int32)]) (fr' := fX2_readNumber) (lo' := lX2_readNumber) (bc' := 0) (bs' := 0) (bcr := bc) (bsr := bs) dX2_readRule_116 zs_X2_79 zi_X2_readNumber zcl_2 (hS.has (a := 3) rfl rfl) rfl rfl (Nat.le_of_ble_eq_true rfl) (Nat.le_of_ble_eq_true rfl) (Nat.le_of_ble_eq_true rfl) (Nat.le_refl _) (Nat.le_refl _) ?_
                      refine ZC.mono (fun w S' I9 L9 k => ?_) k
                      obtain ⟨r9, rfl, rfl, k⟩ := k
                      show ZW G mX2_readRule fX2_readRule lX2_readRule 119 [zo G 3, zo G c1, .int v2] [.int r9, zo G c1] S I9 L9 bc bs Q
                      refine zr_putI dX2_readRule_119 zf_X2_88 rfl (hS.hasC hc1) rfl rfl ?_
                      refine zr_goto (tgt := 187) dX2_readRule_122 (by decide) ?_
                      exact zr_return_ dX2_readRule_187 rfl k
                    · by_cases h10 : v2 = 10
                      · have k := k.2.2.2.2.2.2.2.2.2.2.1 h10
                        refine zr_tabIn (off := 124) (tgt := 125) dX2_readRule_1 (by rw [h10]; decide) (by rw [h10]; decide) (by rw [h10]; rfl) (by decide) ?_
                        refine zr_aload_n dX2_readRule_125 rfl rfl ?_
                        refine zr_aload_n dX2_readRule_126 rfl rfl ?_
                        refine zr_iconst (v := 0) dX2_readRule_127 (by decide) ?_
                        refine zr_bipush (v := 9) dX2_readRule_128 (by decide) ?_
                        refine zr_callV (As := [.int (0 : Int32), .int (9 : Int32)]) (fr' := fX2_readNumber) (lo' := lX2_readNumber) (bc' := 0) (bs' := 0) (bcr := bc) (bsr := bs) dX2_readRule_130 zs_X2_79 zi_X2_readNumber zcl_2 (hS.has (a := 3) rfl rfl) rfl rfl (Nat.le_of_ble_eq_true rfl) (Nat.le_of_ble_eq_true rfl) (Nat.le_of_ble_eq_true rfl) (Nat.le_refl _) (Nat.le_refl _) ?_
                        refine ZC.mono (fun w S' I10 L10 k => ?_) k
                        obtain ⟨r10, rfl, rfl, k⟩ := k
                        show ZW G mX2_readRule fX2_readRule lX2_readRule 133 [zo G 3, zo G c1, .int v2] [.int r10, zo G c1] S I10 L10 bc bs Q
                        refine zr_putI dX2_readRule_133 zf_X2_91 rfl (hS.hasC hc1) rfl rfl ?_
                        refine zr_goto (tgt := 187) dX2_readRule_136 (by decide) ?_
                        exact zr_return_ dX2_readRule_187 rfl k
                      · by_cases h11 : v2 = 11
                        · have k := k.2.2.2.2.2.2.2.2.2.2.2.1 h11
                          refine zr_tabIn (off := 138) (tgt := 139) dX2_readRule_1 (by rw [h11]; decide) (by rw [h11]; decide) (by rw [h11]; rfl) (by decide) ?_
                          refine zr_aload_n dX2_readRule_139 rfl rfl ?_
                          refine zr_aload_n dX2_readRule_140 rfl rfl ?_
                          refine zr_iconst (v := 0) dX2_readRule_141 (by decide) ?_
                          refine zr_bipush (v := 99) dX2_readRule_142 (by decide) ?_
                          refine zr_callV (As := [.int (0 : Int32), .int (99 : Int32)]) (fr' := fX2_readNumber) (lo' := lX2_readNumber) (bc' := 0) (bs' := 0) (bcr := bc) (bsr := bs) dX2_readRule_144 zs_X2_79 zi_X2_readNumber zcl_2 (hS.has (a := 3) rfl rfl) rfl rfl (Nat.le_of_ble_eq_true rfl) (Nat.le_of_ble_eq_true rfl) (Nat.le_of_ble_eq_true rfl) (Nat.le_refl _) (Nat.le_refl _) ?_
                          refine ZC.mono (fun w S' I11 L11 k => ?_) k
                          obtain ⟨r11, rfl, rfl, k⟩ := k
                          show ZW G mX2_readRule fX2_readRule lX2_readRule 147 [zo G 3, zo G c1, .int v2] [.int r11, zo G c1] S I11 L11 bc bs Q
                          refine zr_putI dX2_readRule_147 zf_X2_94 rfl (hS.hasC hc1) rfl rfl ?_
                          refine zr_aload_n dX2_readRule_150 rfl rfl ?_
                          refine zr_bipush (v := 12) dX2_readRule_151 (by decide) ?_
                          refine zr_bipush (v := 12) dX2_readRule_153 (by decide) ?_
                          refine zr_callV (As := [.int (12 : Int32), .int (12 : Int32)]) (fr' := fX2_readWord) (lo' := lX2_readWord) (bc' := 0) (bs' := 0) (bcr := bc) (bsr := bs) dX2_readRule_155 zs_X2_68 zi_X2_readWord zcl_2 (hS.has (a := 3) rfl rfl) rfl rfl (Nat.le_of_ble_eq_true rfl) (Nat.le_of_ble_eq_true rfl) (Nat.le_of_ble_eq_true rfl) (Nat.le_refl _) (Nat.le_refl _) ?_
                          refine ZC.mono (fun w S' I12 L12 k => ?_) k
                          obtain ⟨r12, rfl, rfl, k⟩ := k
                          show ZW G mX2_readRule fX2_readRule lX2_readRule 158 [zo G 3, zo G c1, .int v2] [.int r12] S I12 L12 bc bs Q
                          refine zr_pop dX2_readRule_158 rfl ?_
                          refine zr_aload_n dX2_readRule_159 rfl rfl ?_
                          refine zr_aload_n dX2_readRule_160 rfl rfl ?_
                          refine zr_aload_n dX2_readRule_161 rfl rfl ?_
                          refine zr_getIv (x := (I12 c1 6)) dX2_readRule_162 zf_X2_94 rfl (hS.hasC hc1) rfl ?_
                          refine zr_bipush (v := 99) dX2_readRule_165 (by decide) ?_
                          refine zr_callV (As := [.int (I12 c1 6), .int (99 : Int32)]) (fr' := fX2_readNumber) (lo' := lX2_readNumber) (bc' := 0) (bs' := 0) (bcr := bc) (bsr := bs) dX2_readRule_167 zs_X2_79 zi_X2_readNumber zcl_2 (hS.has (a := 3) rfl rfl) rfl rfl (Nat.le_of_ble_eq_true rfl) (Nat.le_of_ble_eq_true rfl) (Nat.le_of_ble_eq_true rfl) (Nat.le_refl _) (Nat.le_refl _) ?_
                          refine ZC.mono (fun w S' I13 L13 k => ?_) k
                          obtain ⟨r13, rfl, rfl, k⟩ := k
                          show ZW G mX2_readRule fX2_readRule lX2_readRule 170 [zo G 3, zo G c1, .int v2] [.int r13, zo G c1] S I13 L13 bc bs Q
                          refine zr_putI dX2_readRule_170 zf_X2_97 rfl (hS.hasC hc1) rfl rfl ?_
                          refine zr_goto (tgt := 187) dX2_readRule_173 (by decide) ?_
                          exact zr_return_ dX2_readRule_187 rfl k
                        · have k := k.2.2.2.2.2.2.2.2.2.2.2.2 h0 h1 h2 h3 h4 h5 h6 h7 h8 h9 h10 h11
                          refine zr_tabOut (tgt := 176) dX2_readRule_1 ?_ (by decide) ?_
                          · have e0 := ztab_ne h0; have e1 := ztab_ne h1; have e2 := ztab_ne h2; have e3 := ztab_ne h3; have e4 := ztab_ne h4; have e5 := ztab_ne h5; have e6 := ztab_ne h6; have e7 := ztab_ne h7; have e8 := ztab_ne h8; have e9 := ztab_ne h9; have e10 := ztab_ne h10; have e11 := ztab_ne h11; simp only [ztabv_0, ztabv_1, ztabv_2, ztabv_3, ztabv_4, ztabv_5, ztabv_6, ztabv_7, ztabv_8, ztabv_9, ztabv_10, ztabv_11] at e0 e1 e2 e3 e4 e5 e6 e7 e8 e9 e10 e11; omega
                          refine zr_aload_n dX2_readRule_176 rfl rfl ?_
                          refine zr_aload_n dX2_readRule_177 rfl rfl ?_
                          refine zr_iconst (v := 0) dX2_readRule_178 (by decide) ?_
                          refine zr_bipush (v := 99) dX2_readRule_179 (by decide) ?_
                          refine zr_callV (As := [.int (0 : Int32), .int (99 : Int32)]) (fr' := fX2_readNumber) (lo' := lX2_readNumber) (bc' := 0) (bs' := 0) (bcr := bc) (bsr := bs) dX2_readRule_181 zs_X2_79 zi_X2_readNumber zcl_2 (hS.has (a := 3) rfl rfl) rfl rfl (Nat.le_of_ble_eq_true rfl) (Nat.le_of_ble_eq_true rfl) (Nat.le_of_ble_eq_true rfl) (Nat.le_refl _) (Nat.le_refl _) ?_
                          refine ZC.mono (fun w S' I14 L14 k => ?_) k
                          obtain ⟨r14, rfl, rfl, k⟩ := k
                          show ZW G mX2_readRule fX2_readRule lX2_readRule 184 [zo G 3, zo G c1, .int v2] [.int r14, zo G c1] S I14 L14 bc bs Q
                          refine zr_putI dX2_readRule_184 zf_X2_100 rfl (hS.hasC hc1) rfl rfl ?_
                          exact zr_return_ dX2_readRule_187 rfl k
set_option maxHeartbeats 2000000 in
theorem vX2_readLine_0 {G : Gp} {bc bs : Nat} {Q : zPost} {S : zSh} {I : zFI} {L : zFL} {c1 : Nat} {v2 : Int32} (hS : zStd S) (hc1 : zCu c1) (k : ((¬ (p_X2_beginsLine I) = 0 → ((v2 < (40 : Int32) → (((p_X2_value I) < (14 : Int32) → ZC G mX2_readRule fX2_readRule lX2_readRule [zo G 3, zo G c1, .int (p_X2_value I)] S (u2 I 3 4 ((I 3 4) + (1 : Int32))) L 0 0 (fun w S' I1 L1 => w = none ∧ S = S' ∧ (((p_X2_token I1) = (3 : Int32) → Q none S (u2 I1 3 4 ((I1 3 4) + (1 : Int32))) L1) ∧ (¬ (p_X2_token I1) = (3 : Int32) → ZC G mX2_fail fX2_fail lX2_fail [zo G 3, .int (1 : Int32)] S I1 L1 0 0 (fun w S' I2 L2 => w = none ∧ S = S' ∧ Q none S (u2 I2 3 4 ((I2 3 4) + (1 : Int32))) L2))))) ∧ (¬ (p_X2_value I) < (14 : Int32) → ZC G mX2_readKinds fX2_readKinds lX2_readKinds [zo G 3, zo G c1, .int ((p_X2_value I) - (14 : Int32))] S (u2 I 3 4 ((I 3 4) + (1 : Int32))) L 0 0 (fun w S' I3 L3 => w = none ∧ S = S' ∧ (((p_X2_token I3) = (3 : Int32) → Q none S (u2 I3 3 4 ((I3 3 4) + (1 : Int32))) L3) ∧ (¬ (p_X2_token I3) = (3 : Int32) → ZC G mX2_fail fX2_fail lX2_fail [zo G 3, .int (1 : Int32)] S I3 L3 0 0 (fun w S' I4 L4 => w = none ∧ S = S' ∧ Q none S (u2 I4 3 4 ((I4 3 4) + (1 : Int32))) L4))))))) ∧ (¬ v2 < (40 : Int32) → ZC G mX2_fail fX2_fail lX2_fail [zo G 3, .int (3 : Int32)] S I L 0 0 (fun w S' I5 L5 => w = none ∧ S = S' ∧ Q none S I5 L5)))) ∧ ((p_X2_beginsLine I) = 0 → ZC G mX2_fail fX2_fail lX2_fail [zo G 3, .int (1 : Int32)] S I L 0 0 (fun w S' I6 L6 => w = none ∧ S = S' ∧ Q none S I6 L6)))) : ZW G mX2_readLine fX2_readLine lX2_readLine 0 [zo G 3, zo G c1, .int v2, .null] [] S I L bc bs Q := by
  refine zr_aload_n dX2_readLine_0 rfl rfl ?_
  refine zr_callV (As := []) (fr' := fX2_value) (lo' := lX2_value) (bc' := 0) (bs' := 0) (bcr := bc) (bsr := bs) dX2_readLine_1 zs_X2_51 zi_X2_value zcl_2 (hS.has (a := 3) rfl rfl) rfl rfl (Nat.le_of_ble_eq_true rfl) (Nat.le_of_ble_eq_true rfl) (Nat.le_of_ble_eq_true rfl) (Nat.le_refl _) (Nat.le_refl _) ?_
  refine sp_X2_value hS  ?_
  show ZW G mX2_readLine fX2_readLine lX2_readLine 4 [zo G 3, zo G c1, .int v2, .null] [.int (p_X2_value I)] S I L bc bs Q
  refine zr_istore_n dX2_readLine_4 rfl (Nat.le_of_ble_eq_true rfl) rfl ?_
  refine zr_aload_n dX2_readLine_5 rfl rfl ?_
  refine zr_callV (As := []) (fr' := fX2_beginsLine) (lo' := lX2_beginsLine) (bc' := 0) (bs' := 0) (bcr := bc) (bsr := bs) dX2_readLine_6 zs_X2_54 zi_X2_beginsLine zcl_2 (hS.has (a := 3) rfl rfl) rfl rfl (Nat.le_of_ble_eq_true rfl) (Nat.le_of_ble_eq_true rfl) (Nat.le_of_ble_eq_true rfl) (Nat.le_refl _) (Nat.le_refl _) ?_
  refine sp_X2_beginsLine hS  ?_
  show ZW G mX2_readLine fX2_readLine lX2_readLine 9 [zo G 3, zo G c1, .int v2, .int (p_X2_value I)] [.int (p_X2_beginsLine I)] S I L bc bs Q
  refine zr_ifne (tgt := 18) dX2_readLine_9 (by decide) (fun hb => ?_) (fun hb => ?_)
  · have k := k.1 hb
    refine zr_iload_n dX2_readLine_18 rfl rfl ?_
    refine zr_bipush (v := 40) dX2_readLine_19 (by decide) ?_
    refine zr_iclt (tgt := 30) dX2_readLine_21 (by decide) (fun hb => ?_) (fun hb => ?_)
    · have k := k.1 hb
      refine zr_aload_n dX2_readLine_30 rfl rfl ?_
      refine zr_dup dX2_readLine_31 rfl ?_
      refine zr_getIv (x := (I 3 4)) dX2_readLine_32 zf_X2_25 rfl (hS.has (a := 3) rfl rfl) rfl ?_
      refine zr_iconst (v := 1) dX2_readLine_35 (by decide) ?_
      refine zr_iadd dX2_readLine_36 ?_
      refine zr_putI dX2_readLine_37 zf_X2_25 rfl (hS.has (a := 3) rfl rfl) rfl rfl ?_
      refine zr_iload_n dX2_readLine_40 rfl rfl ?_
      refine zr_bipush (v := 14) dX2_readLine_41 (by decide) ?_
      refine zr_iclt (tgt := 58) dX2_readLine_43 (by decide) (fun hb => ?_) (fun hb => ?_)
      · have k := k.1 hb
        refine zr_aload_n dX2_readLine_58 rfl rfl ?_
        refine zr_aload_n dX2_readLine_59 rfl rfl ?_
        refine zr_iload_n dX2_readLine_60 rfl rfl ?_
        refine zr_callV (As := [zo G c1, .int (p_X2_value I)]) (fr' := fX2_readRule) (lo' := lX2_readRule) (bc' := 0) (bs' := 0) (bcr := bc) (bsr := bs) dX2_readLine_61 zs_X2_65 zi_X2_readRule zcl_2 (hS.has (a := 3) rfl rfl) rfl rfl (Nat.le_of_ble_eq_true rfl) (Nat.le_of_ble_eq_true rfl) (Nat.le_of_ble_eq_true rfl) (Nat.le_refl _) (Nat.le_refl _) ?_
        refine ZC.mono (fun w S' I1 L1 k => ?_) k
        obtain ⟨rfl, rfl, k⟩ := k
        show ZW G mX2_readLine fX2_readLine lX2_readLine 64 [zo G 3, zo G c1, .int v2, .int (p_X2_value I)] [] S I1 L1 bc bs Q
        refine zr_aload_n dX2_readLine_64 rfl rfl ?_
        refine zr_callV (As := []) (fr' := fX2_token) (lo' := lX2_token) (bc' := 0) (bs' := 0) (bcr := bc) (bsr := bs) dX2_readLine_65 zs_X2_43 zi_X2_token zcl_2 (hS.has (a := 3) rfl rfl) rfl rfl (Nat.le_of_ble_eq_true rfl) (Nat.le_of_ble_eq_true rfl) (Nat.le_of_ble_eq_true rfl) (Nat.le_refl _) (Nat.le_refl _) ?_
        refine sp_X2_token hS  ?_
        show ZW G mX2_readLine fX2_readLine lX2_readLine 68 [zo G 3, zo G c1, .int v2, .int (p_X2_value I)] [.int (p_X2_token I1)] S I1 L1 bc bs Q
        refine zr_iconst (v := 3) dX2_readLine_68 (by decide) ?_
        refine zr_iceq (tgt := 77) dX2_readLine_69 (by decide) (fun hb => ?_) (fun hb => ?_)
        · have k := k.1 hb
          refine zr_aload_n dX2_readLine_77 rfl rfl ?_
          refine zr_dup dX2_readLine_78 rfl ?_
          refine zr_getIv (x := (I1 3 4)) dX2_readLine_79 zf_X2_25 rfl (hS.has (a := 3) rfl rfl) rfl ?_
          refine zr_iconst (v := 1) dX2_readLine_82 (by decide) ?_
          refine zr_iadd dX2_readLine_83 ?_
          refine zr_putI dX2_readLine_84 zf_X2_25 rfl (hS.has (a := 3) rfl rfl) rfl rfl ?_
          exact zr_return_ dX2_readLine_87 rfl k
        · have k := k.2 hb
          refine zr_aload_n dX2_readLine_72 rfl rfl ?_
          refine zr_iconst (v := 1) dX2_readLine_73 (by decide) ?_
          refine zr_callV (As := [.int (1 : Int32)]) (fr' := fX2_fail) (lo' := lX2_fail) (bc' := 0) (bs' := 0) (bcr := bc) (bsr := bs) dX2_readLine_74 zs_X2_58 zi_X2_fail zcl_2 (hS.has (a := 3) rfl rfl) rfl rfl (Nat.le_of_ble_eq_true rfl) (Nat.le_of_ble_eq_true rfl) (Nat.le_of_ble_eq_true rfl) (Nat.le_refl _) (Nat.le_refl _) ?_
          refine ZC.mono (fun w S' I2 L2 k => ?_) k
          obtain ⟨rfl, rfl, k⟩ := k
          show ZW G mX2_readLine fX2_readLine lX2_readLine 77 [zo G 3, zo G c1, .int v2, .int (p_X2_value I)] [] S I2 L2 bc bs Q
          refine zr_aload_n dX2_readLine_77 rfl rfl ?_
          refine zr_dup dX2_readLine_78 rfl ?_
          refine zr_getIv (x := (I2 3 4)) dX2_readLine_79 zf_X2_25 rfl (hS.has (a := 3) rfl rfl) rfl ?_
          refine zr_iconst (v := 1) dX2_readLine_82 (by decide) ?_
          refine zr_iadd dX2_readLine_83 ?_
          refine zr_putI dX2_readLine_84 zf_X2_25 rfl (hS.has (a := 3) rfl rfl) rfl rfl ?_
          exact zr_return_ dX2_readLine_87 rfl k
      · have k := k.2 hb
        refine zr_aload_n dX2_readLine_46 rfl rfl ?_
        refine zr_aload_n dX2_readLine_47 rfl rfl ?_
        refine zr_iload_n dX2_readLine_48 rfl rfl ?_
        refine zr_bipush (v := 14) dX2_readLine_49 (by decide) ?_
        refine zr_isub dX2_readLine_51 ?_
        refine zr_callV (As := [zo G c1, .int ((p_X2_value I) - (14 : Int32))]) (fr' := fX2_readKinds) (lo' := lX2_readKinds) (bc' := 0) (bs' := 0) (bcr := bc) (bsr := bs) dX2_readLine_52 zs_X2_62 zi_X2_readKinds zcl_2 (hS.has (a := 3) rfl rfl) rfl rfl (Nat.le_of_ble_eq_true rfl) (Nat.le_of_ble_eq_true rfl) (Nat.le_of_ble_eq_true rfl) (Nat.le_refl _) (Nat.le_refl _) ?_
        refine ZC.mono (fun w S' I3 L3 k => ?_) k
        obtain ⟨rfl, rfl, k⟩ := k
        show ZW G mX2_readLine fX2_readLine lX2_readLine 55 [zo G 3, zo G c1, .int v2, .int (p_X2_value I)] [] S I3 L3 bc bs Q
        refine zr_goto (tgt := 64) dX2_readLine_55 (by decide) ?_
        refine zr_aload_n dX2_readLine_64 rfl rfl ?_
        refine zr_callV (As := []) (fr' := fX2_token) (lo' := lX2_token) (bc' := 0) (bs' := 0) (bcr := bc) (bsr := bs) dX2_readLine_65 zs_X2_43 zi_X2_token zcl_2 (hS.has (a := 3) rfl rfl) rfl rfl (Nat.le_of_ble_eq_true rfl) (Nat.le_of_ble_eq_true rfl) (Nat.le_of_ble_eq_true rfl) (Nat.le_refl _) (Nat.le_refl _) ?_
        refine sp_X2_token hS  ?_
        show ZW G mX2_readLine fX2_readLine lX2_readLine 68 [zo G 3, zo G c1, .int v2, .int (p_X2_value I)] [.int (p_X2_token I3)] S I3 L3 bc bs Q
        refine zr_iconst (v := 3) dX2_readLine_68 (by decide) ?_
        refine zr_iceq (tgt := 77) dX2_readLine_69 (by decide) (fun hb => ?_) (fun hb => ?_)
        · have k := k.1 hb
          refine zr_aload_n dX2_readLine_77 rfl rfl ?_
          refine zr_dup dX2_readLine_78 rfl ?_
          refine zr_getIv (x := (I3 3 4)) dX2_readLine_79 zf_X2_25 rfl (hS.has (a := 3) rfl rfl) rfl ?_
          refine zr_iconst (v := 1) dX2_readLine_82 (by decide) ?_
          refine zr_iadd dX2_readLine_83 ?_
          refine zr_putI dX2_readLine_84 zf_X2_25 rfl (hS.has (a := 3) rfl rfl) rfl rfl ?_
          exact zr_return_ dX2_readLine_87 rfl k
        · have k := k.2 hb
          refine zr_aload_n dX2_readLine_72 rfl rfl ?_
          refine zr_iconst (v := 1) dX2_readLine_73 (by decide) ?_
          refine zr_callV (As := [.int (1 : Int32)]) (fr' := fX2_fail) (lo' := lX2_fail) (bc' := 0) (bs' := 0) (bcr := bc) (bsr := bs) dX2_readLine_74 zs_X2_58 zi_X2_fail zcl_2 (hS.has (a := 3) rfl rfl) rfl rfl (Nat.le_of_ble_eq_true rfl) (Nat.le_of_ble_eq_true rfl) (Nat.le_of_ble_eq_true rfl) (Nat.le_refl _) (Nat.le_refl _) ?_
          refine ZC.mono (fun w S' I4 L4 k => ?_) k
          obtain ⟨rfl, rfl, k⟩ := k
          show ZW G mX2_readLine fX2_readLine lX2_readLine 77 [zo G 3, zo G c1, .int v2, .int (p_X2_value I)] [] S I4 L4 bc bs Q
          refine zr_aload_n dX2_readLine_77 rfl rfl ?_
          refine zr_dup dX2_readLine_78 rfl ?_
          refine zr_getIv (x := (I4 3 4)) dX2_readLine_79 zf_X2_25 rfl (hS.has (a := 3) rfl rfl) rfl ?_
          refine zr_iconst (v := 1) dX2_readLine_82 (by decide) ?_
          refine zr_iadd dX2_readLine_83 ?_
          refine zr_putI dX2_readLine_84 zf_X2_25 rfl (hS.has (a := 3) rfl rfl) rfl rfl ?_
          exact zr_return_ dX2_readLine_87 rfl k
    · have k := k.2 hb
      refine zr_aload_n dX2_readLine_24 rfl rfl ?_
      refine zr_iconst (v := 3) dX2_readLine_25 (by decide) ?_
      refine zr_callV (As := [.int (3 : Int32)]) (fr' := fX2_fail) (lo' := lX2_fail) (bc' := 0) (bs' := 0) (bcr := bc) (bsr := bs) dX2_readLine_26 zs_X2_58 zi_X2_fail zcl_2 (hS.has (a := 3) rfl rfl) rfl rfl (Nat.le_of_ble_eq_true rfl) (Nat.le_of_ble_eq_true rfl) (Nat.le_of_ble_eq_true rfl) (Nat.le_refl _) (Nat.le_refl _) ?_
      refine ZC.mono (fun w S' I5 L5 k => ?_) k
      obtain ⟨rfl, rfl, k⟩ := k
      show ZW G mX2_readLine fX2_readLine lX2_readLine 29 [zo G 3, zo G c1, .int v2, .int (p_X2_value I)] [] S I5 L5 bc bs Q
      exact zr_return_ dX2_readLine_29 rfl k
  · have k := k.2 hb
    refine zr_aload_n dX2_readLine_12 rfl rfl ?_
    refine zr_iconst (v := 1) dX2_readLine_13 (by decide) ?_
    refine zr_callV (As := [.int (1 : Int32)]) (fr' := fX2_fail) (lo' := lX2_fail) (bc' := 0) (bs' := 0) (bcr := bc) (bsr := bs) dX2_readLine_14 zs_X2_58 zi_X2_fail zcl_2 (hS.has (a := 3) rfl rfl) rfl rfl (Nat.le_of_ble_eq_true rfl) (Nat.le_of_ble_eq_true rfl) (Nat.le_of_ble_eq_true rfl) (Nat.le_refl _) (Nat.le_refl _) ?_
    refine ZC.mono (fun w S' I6 L6 k => ?_) k
    obtain ⟨rfl, rfl, k⟩ := k
    show ZW G mX2_readLine fX2_readLine lX2_readLine 17 [zo G 3, zo G c1, .int v2, .int (p_X2_value I)] [] S I6 L6 bc bs Q
    exact zr_return_ dX2_readLine_17 rfl k
set_option maxHeartbeats 2000000 in
theorem vX2_parse_0 {G : Gp} {bc bs : Nat} {Q : zPost} {S : zSh} {I : zFI} {L : zFL} {c2 : Nat} (hS : zStd S) (hc2 : zCu c2) (k : ZC G mX2_split fX2_split lX2_split [zo G 3, zo G 1] S I L 0 0 (fun w S' I1 L1 => w = none ∧ S = S' ∧ ZC G mX1_reset fX1_reset lX1_reset [zo G c2] S (u2 (u2 (u2 I1 3 4 (0 : Int32)) 3 5 (0 : Int32)) 3 6 (-1 : Int32)) L1 0 0 (fun w S' I2 L2 => w = none ∧ S = S' ∧ ZW G mX2_parse fX2_parse lX2_parse 26 [zo G 3, zo G 1, zo G c2, .int (0 : Int32)] [] S I2 L2 bc bs Q))) : ZW G mX2_parse fX2_parse lX2_parse 0 [zo G 3, zo G 1, zo G c2, .null] [] S I L bc bs Q := by
  refine zr_aload_n dX2_parse_0 rfl rfl ?_
  refine zr_aload_n dX2_parse_1 rfl rfl ?_
  refine zr_callV (As := [zo G 1]) (fr' := fX2_split) (lo' := lX2_split) (bc' := 0) (bs' := 0) (bcr := bc) (bsr := bs) dX2_parse_2 zs_X2_34 zi_X2_split zcl_2 (hS.has (a := 3) rfl rfl) rfl rfl (Nat.le_of_ble_eq_true rfl) (Nat.le_of_ble_eq_true rfl) (Nat.le_of_ble_eq_true rfl) (Nat.le_refl _) (Nat.le_refl _) ?_
  refine ZC.mono (fun w S' I1 L1 k => ?_) k
  obtain ⟨rfl, rfl, k⟩ := k
  show ZW G mX2_parse fX2_parse lX2_parse 5 [zo G 3, zo G 1, zo G c2, .null] [] S I1 L1 bc bs Q
  refine zr_aload_n dX2_parse_5 rfl rfl ?_
  refine zr_iconst (v := 0) dX2_parse_6 (by decide) ?_
  refine zr_putI dX2_parse_7 zf_X2_25 rfl (hS.has (a := 3) rfl rfl) rfl rfl ?_
  refine zr_aload_n dX2_parse_10 rfl rfl ?_
  refine zr_iconst (v := 0) dX2_parse_11 (by decide) ?_
  refine zr_putI dX2_parse_12 zf_X2_28 rfl (hS.has (a := 3) rfl rfl) rfl rfl ?_
  refine zr_aload_n dX2_parse_15 rfl rfl ?_
  refine zr_iconst (v := -1) dX2_parse_16 (by decide) ?_
  refine zr_putI dX2_parse_17 zf_X2_31 rfl (hS.has (a := 3) rfl rfl) rfl rfl ?_
  refine zr_aload_n dX2_parse_20 rfl rfl ?_
  refine zr_callV (As := []) (fr' := fX1_reset) (lo' := lX1_reset) (bc' := 0) (bs' := 0) (bcr := bc) (bsr := bs) dX2_parse_21 zs_X2_38 zi_X1_reset zcl_1 (hS.hasC hc2) rfl rfl (Nat.le_of_ble_eq_true rfl) (Nat.le_of_ble_eq_true rfl) (Nat.le_of_ble_eq_true rfl) (Nat.le_refl _) (Nat.le_refl _) ?_
  refine ZC.mono (fun w S' I2 L2 k => ?_) k
  obtain ⟨rfl, rfl, k⟩ := k
  show ZW G mX2_parse fX2_parse lX2_parse 24 [zo G 3, zo G 1, zo G c2, .null] [] S I2 L2 bc bs Q
  refine zr_iconst (v := 0) dX2_parse_24 (by decide) ?_
  refine zr_istore_n dX2_parse_25 rfl (Nat.le_of_ble_eq_true rfl) rfl ?_
  exact k
set_option maxHeartbeats 2000000 in
theorem vX2_parse_26 {G : Gp} {bc bs : Nat} {Q : zPost} {S : zSh} {I : zFI} {L : zFL} {c2 : Nat} {v3 : Int32} (hS : zStd S) (hc2 : zCu c2) (k : (((p_X2_token I) = 0 → ((¬ (I 3 5) = 0 → Q (some (.int (-1 : Int32))) S I L) ∧ ((I 3 5) = 0 → Q (some (.int v3)) S I L))) ∧ (¬ (p_X2_token I) = 0 → ((¬ (I 3 5) = 0 → ((¬ (I 3 5) = 0 → Q (some (.int (-1 : Int32))) S I L) ∧ ((I 3 5) = 0 → Q (some (.int v3)) S I L))) ∧ ((I 3 5) = 0 → (((40 : Int32) < v3 → ((¬ (I 3 5) = 0 → Q (some (.int (-1 : Int32))) S I L) ∧ ((I 3 5) = 0 → Q (some (.int v3)) S I L))) ∧ (¬ (40 : Int32) < v3 → ZC G mX2_readLine fX2_readLine lX2_readLine [zo G 3, zo G c2, .int v3] S I L 0 0 (fun w S' I1 L1 => w = none ∧ S = S' ∧ ZW G mX2_parse fX2_parse lX2_parse 26 [zo G 3, zo G 1, zo G c2, .int (v3 + 1)] [] S I1 L1 bc bs Q)))))))) : ZW G mX2_parse fX2_parse lX2_parse 26 [zo G 3, zo G 1, zo G c2, .int v3] [] S I L bc bs Q := by
  refine zr_aload_n dX2_parse_26 rfl rfl ?_
  refine zr_callV (As := []) (fr' := fX2_token) (lo' := lX2_token) (bc' := 0) (bs' := 0) (bcr := bc) (bsr := bs) dX2_parse_27 zs_X2_43 zi_X2_token zcl_2 (hS.has (a := 3) rfl rfl) rfl rfl (Nat.le_of_ble_eq_true rfl) (Nat.le_of_ble_eq_true rfl) (Nat.le_of_ble_eq_true rfl) (Nat.le_refl _) (Nat.le_refl _) ?_
  refine sp_X2_token hS  ?_
  show ZW G mX2_parse fX2_parse lX2_parse 30 [zo G 3, zo G 1, zo G c2, .int v3] [.int (p_X2_token I)] S I L bc bs Q
  refine zr_ifeq (tgt := 58) dX2_parse_30 (by decide) (fun hb => ?_) (fun hb => ?_)
  · have k := k.1 hb
    refine zr_aload_n dX2_parse_58 rfl rfl ?_
    refine zr_getIv (x := (I 3 5)) dX2_parse_59 zf_X2_28 rfl (hS.has (a := 3) rfl rfl) rfl ?_
    refine zr_ifne (tgt := 69) dX2_parse_62 (by decide) (fun hb => ?_) (fun hb => ?_)
    · have k := k.1 hb
      refine zr_iconst (v := -1) dX2_parse_69 (by decide) ?_
      exact zr_ireturn dX2_parse_70 rfl rfl k
    · have k := k.2 hb
      refine zr_iload_n dX2_parse_65 rfl rfl ?_
      refine zr_goto (tgt := 70) dX2_parse_66 (by decide) ?_
      exact zr_ireturn dX2_parse_70 rfl rfl k
  · have k := k.2 hb
    refine zr_aload_n dX2_parse_33 rfl rfl ?_
    refine zr_getIv (x := (I 3 5)) dX2_parse_34 zf_X2_28 rfl (hS.has (a := 3) rfl rfl) rfl ?_
    refine zr_ifne (tgt := 58) dX2_parse_37 (by decide) (fun hb => ?_) (fun hb => ?_)
    · have k := k.1 hb
      refine zr_aload_n dX2_parse_58 rfl rfl ?_
      refine zr_getIv (x := (I 3 5)) dX2_parse_59 zf_X2_28 rfl (hS.has (a := 3) rfl rfl) rfl ?_
      refine zr_ifne (tgt := 69) dX2_parse_62 (by decide) (fun hb => ?_) (fun hb => ?_)
      · have k := k.1 hb
        refine zr_iconst (v := -1) dX2_parse_69 (by decide) ?_
        exact zr_ireturn dX2_parse_70 rfl rfl k
      · have k := k.2 hb
        refine zr_iload_n dX2_parse_65 rfl rfl ?_
        refine zr_goto (tgt := 70) dX2_parse_66 (by decide) ?_
        exact zr_ireturn dX2_parse_70 rfl rfl k
    · have k := k.2 hb
      refine zr_iload_n dX2_parse_40 rfl rfl ?_
      refine zr_bipush (v := 40) dX2_parse_41 (by decide) ?_
      refine zr_icgt (tgt := 58) dX2_parse_43 (by decide) (fun hb => ?_) (fun hb => ?_)
      · have k := k.1 hb
        refine zr_aload_n dX2_parse_58 rfl rfl ?_
        refine zr_getIv (x := (I 3 5)) dX2_parse_59 zf_X2_28 rfl (hS.has (a := 3) rfl rfl) rfl ?_
        refine zr_ifne (tgt := 69) dX2_parse_62 (by decide) (fun hb => ?_) (fun hb => ?_)
        · have k := k.1 hb
          refine zr_iconst (v := -1) dX2_parse_69 (by decide) ?_
          exact zr_ireturn dX2_parse_70 rfl rfl k
        · have k := k.2 hb
          refine zr_iload_n dX2_parse_65 rfl rfl ?_
          refine zr_goto (tgt := 70) dX2_parse_66 (by decide) ?_
          exact zr_ireturn dX2_parse_70 rfl rfl k
      · have k := k.2 hb
        refine zr_aload_n dX2_parse_46 rfl rfl ?_
        refine zr_aload_n dX2_parse_47 rfl rfl ?_
        refine zr_iload_n dX2_parse_48 rfl rfl ?_
        refine zr_callV (As := [zo G c2, .int v3]) (fr' := fX2_readLine) (lo' := lX2_readLine) (bc' := 0) (bs' := 0) (bcr := bc) (bsr := bs) dX2_parse_49 zs_X2_47 zi_X2_readLine zcl_2 (hS.has (a := 3) rfl rfl) rfl rfl (Nat.le_of_ble_eq_true rfl) (Nat.le_of_ble_eq_true rfl) (Nat.le_of_ble_eq_true rfl) (Nat.le_refl _) (Nat.le_refl _) ?_
        refine ZC.mono (fun w S' I1 L1 k => ?_) k
        obtain ⟨rfl, rfl, k⟩ := k
        show ZW G mX2_parse fX2_parse lX2_parse 52 [zo G 3, zo G 1, zo G c2, .int v3] [] S I1 L1 bc bs Q
        refine zr_iinc (v := (v3 + 1)) dX2_parse_52 rfl rfl (Nat.le_of_ble_eq_true rfl) rfl ?_
        refine zr_goto (tgt := 26) dX2_parse_55 (by decide) ?_
        exact k
set_option maxHeartbeats 2000000 in
theorem vJ7_fill_53178_0 {G : Gp} {bc bs : Nat} {Q : zPost} {S : zSh} {I : zFI} {L : zFL} {a0 n0 : Nat} {v1 : Int32} (hS : zStd S) (ha0 : zHas S a0 (1, n0)) (k : ZW G mJ7_fill_53178 fJ7_fill_53178 lJ7_fill_53178 5 [zo G a0, .int v1, .int (0 : Int32), .int (Int32.ofNat n0)] [] S I L bc bs Q) : ZW G mJ7_fill_53178 fJ7_fill_53178 lJ7_fill_53178 0 [zo G a0, .int v1, .null, .null] [] S I L bc bs Q := by
  refine zr_iconst (v := 0) dJ7_fill_53178_0 (by decide) ?_
  refine zr_istore_n dJ7_fill_53178_1 rfl (Nat.le_of_ble_eq_true rfl) rfl ?_
  refine zr_aload_n dJ7_fill_53178_2 rfl rfl ?_
  refine zr_alen dJ7_fill_53178_3 ha0 (by decide) rfl ?_
  refine zr_istore_n dJ7_fill_53178_4 rfl (Nat.le_of_ble_eq_true rfl) rfl ?_
  exact k
set_option maxHeartbeats 2000000 in
theorem vJ7_fill_53178_5 {G : Gp} {bc bs : Nat} {Q : zPost} {S : zSh} {I : zFI} {L : zFL} {a0 n0 : Nat} {v1 : Int32} {v2 : Int32} {v3 : Int32} (hS : zStd S) (ha0 : zHas S a0 (1, n0)) (k : ((v3 ≤ v2 → Q none S I L) ∧ (¬ v3 ≤ v2 → vp_in v2 n0 ∧ ZW G mJ7_fill_53178 fJ7_fill_53178 lJ7_fill_53178 5 [zo G a0, .int v1, .int (v2 + 1), .int v3] [] S (u2 I a0 v2.toNatClampNeg v1) L bc bs Q))) : ZW G mJ7_fill_53178 fJ7_fill_53178 lJ7_fill_53178 5 [zo G a0, .int v1, .int v2, .int v3] [] S I L bc bs Q := by
  refine zr_iload_n dJ7_fill_53178_5 rfl rfl ?_
  refine zr_iload_n dJ7_fill_53178_6 rfl rfl ?_
  refine zr_icge (tgt := 20) dJ7_fill_53178_7 (by decide) (fun hb => ?_) (fun hb => ?_)
  · have k := k.1 hb
    exact zr_return_ dJ7_fill_53178_20 rfl k
  · have k := k.2 hb
    refine zr_aload_n dJ7_fill_53178_10 rfl rfl ?_
    refine zr_iload_n dJ7_fill_53178_11 rfl rfl ?_
    refine zr_iload_n dJ7_fill_53178_12 rfl rfl ?_
    obtain ⟨hi1, k⟩ := k
    refine zr_iast dJ7_fill_53178_13 ha0 hi1 ?_
    refine zr_iinc (v := (v2 + 1)) dJ7_fill_53178_14 rfl rfl (Nat.le_of_ble_eq_true rfl) rfl ?_
    refine zr_goto (tgt := 5) dJ7_fill_53178_17 (by decide) ?_
    exact k
set_option maxHeartbeats 2000000 in
theorem vX10_timberOf_0 {G : Gp} {bc bs : Nat} {Q : zPost} {S : zSh} {I : zFI} {L : zFL} {v1 : Int32} (hS : zStd S)  (k : Q (some (.int (p_X11_pick I 14 48 v1))) S I L) : ZW G mX10_timberOf fX10_timberOf lX10_timberOf 0 [zo G 10, .int v1] [] S I L bc bs Q := by
  refine zr_aload_n dX10_timberOf_0 rfl rfl ?_
  refine zr_getR dX10_timberOf_1 zf_X10_28 rfl (hS.has (a := 10) rfl rfl) (hS.ref (a := 14) rfl) ?_
  refine zr_iload_n dX10_timberOf_4 rfl rfl ?_
  refine zr_callSN (As := [zo G 14, .int v1]) (fr' := fX11_pick) (lo' := lX11_pick) (bc' := 0) (bs' := 0) (bcr := bc) (bsr := bs) dX10_timberOf_5 zsn_X10_51 zst_X11_pick rfl rfl (Nat.le_of_ble_eq_true rfl) (Nat.le_of_ble_eq_true rfl) (Nat.le_of_ble_eq_true rfl) (Nat.le_refl _) (Nat.le_refl _) ?_
  refine sp_X11_pick hS (hS.has (a := 14) rfl rfl) rfl ?_
  show ZW G mX10_timberOf fX10_timberOf lX10_timberOf 8 [zo G 10, .int v1] [.int (p_X11_pick I 14 48 v1)] S I L bc bs Q
  exact zr_ireturn dX10_timberOf_8 rfl rfl k
def p_X10_timberOf (I : zFI) (v1 : Int32) : Int32 := (p_X11_pick I 14 48 v1)
set_option maxHeartbeats 2000000 in
theorem sp_X10_timberOf {G : Gp} {Q : zPost} {S : zSh} {I : zFI} {L : zFL} {v1 : Int32} (hS : zStd S)  (h : Q (some (.int (p_X10_timberOf I v1))) S I L) : ZC G mX10_timberOf fX10_timberOf lX10_timberOf [zo G 10, .int v1] S I L 0 0 Q := by
  refine ZC.of' (vX10_timberOf_0 hS  ?_) rfl (Nat.le_of_ble_eq_true rfl) rfl
  unfold p_X10_timberOf at h
  exact h
set_option maxHeartbeats 2000000 in
theorem vX4_partnerOf_0 {G : Gp} {bc bs : Nat} {Q : zPost} {S : zSh} {I : zFI} {L : zFL} {j : Nat} {v1 : Int32} (hS : zStd S) (hj : zJn j) (k : Q (some (.int (p_X11_pick I (j + 5) 48 v1))) S I L) : ZW G mX4_partnerOf fX4_partnerOf lX4_partnerOf 0 [zo G j, .int v1] [] S I L bc bs Q := by
  refine zr_aload_n dX4_partnerOf_0 rfl rfl ?_
  refine zr_getR dX4_partnerOf_1 zf_X4_42 rfl (hS.hasJ hj 0 rfl rfl rfl) (hS.refJ hj (d := 5) rfl rfl) ?_
  refine zr_iload_n dX4_partnerOf_4 rfl rfl ?_
  refine zr_callSN (As := [zo G (j + 5), .int v1]) (fr' := fX11_pick) (lo' := lX11_pick) (bc' := 0) (bs' := 0) (bcr := bc) (bsr := bs) dX4_partnerOf_5 zsn_X4_83 zst_X11_pick rfl rfl (Nat.le_of_ble_eq_true rfl) (Nat.le_of_ble_eq_true rfl) (Nat.le_of_ble_eq_true rfl) (Nat.le_refl _) (Nat.le_refl _) ?_
  refine sp_X11_pick hS (hS.hasJ hj 5 rfl rfl rfl) rfl ?_
  show ZW G mX4_partnerOf fX4_partnerOf lX4_partnerOf 8 [zo G j, .int v1] [.int (p_X11_pick I (j + 5) 48 v1)] S I L bc bs Q
  exact zr_ireturn dX4_partnerOf_8 rfl rfl k
def p_X4_partnerOf (I : zFI) (j : Nat) (v1 : Int32) : Int32 := (p_X11_pick I (j + 5) 48 v1)
set_option maxHeartbeats 2000000 in
theorem sp_X4_partnerOf {G : Gp} {Q : zPost} {S : zSh} {I : zFI} {L : zFL} {j : Nat} {v1 : Int32} (hS : zStd S) (hj : zJn j) (h : Q (some (.int (p_X4_partnerOf I j v1))) S I L) : ZC G mX4_partnerOf fX4_partnerOf lX4_partnerOf [zo G j, .int v1] S I L 0 0 Q := by
  refine ZC.of' (vX4_partnerOf_0 hS hj ?_) rfl (Nat.le_of_ble_eq_true rfl) rfl
  unfold p_X4_partnerOf at h
  exact h
set_option maxHeartbeats 2000000 in
theorem vX3_isMember_0 {G : Gp} {bc bs : Nat} {Q : zPost} {S : zSh} {I : zFI} {L : zFL} {v0 : Int32} (hS : zStd S)  (k : ((v0 < 0 → Q (some (.int (0 : Int32))) S I L) ∧ (¬ v0 < 0 → (((16 : Int32) ≤ v0 → Q (some (.int (0 : Int32))) S I L) ∧ (¬ (16 : Int32) ≤ v0 → Q (some (.int (1 : Int32))) S I L))))) : ZW G mX3_isMember fX3_isMember lX3_isMember 0 [.int v0] [] S I L bc bs Q := by
  refine zr_iload_n dX3_isMember_0 rfl rfl ?_
  refine zr_iflt (tgt := 14) dX3_isMember_1 (by decide) (fun hb => ?_) (fun hb => ?_)
  · have k := k.1 hb
    refine zr_iconst (v := 0) dX3_isMember_14 (by decide) ?_
    exact zr_ireturn dX3_isMember_15 rfl rfl k
  · have k := k.2 hb
    refine zr_iload_n dX3_isMember_4 rfl rfl ?_
    refine zr_bipush (v := 16) dX3_isMember_5 (by decide) ?_
    refine zr_icge (tgt := 14) dX3_isMember_7 (by decide) (fun hb => ?_) (fun hb => ?_)
    · have k := k.1 hb
      refine zr_iconst (v := 0) dX3_isMember_14 (by decide) ?_
      exact zr_ireturn dX3_isMember_15 rfl rfl k
    · have k := k.2 hb
      refine zr_iconst (v := 1) dX3_isMember_10 (by decide) ?_
      refine zr_goto (tgt := 15) dX3_isMember_11 (by decide) ?_
      exact zr_ireturn dX3_isMember_15 rfl rfl k
def p_X3_isMember  (v0 : Int32) : Int32 := (if v0 < 0 then (0 : Int32) else (if (16 : Int32) ≤ v0 then (0 : Int32) else (1 : Int32)))
set_option maxHeartbeats 2000000 in
theorem sp_X3_isMember {G : Gp} {Q : zPost} {S : zSh} {I : zFI} {L : zFL} {v0 : Int32} (hS : zStd S)  (h : Q (some (.int (p_X3_isMember  v0))) S I L) : ZC G mX3_isMember fX3_isMember lX3_isMember [.int v0] S I L 0 0 Q := by
  refine ZC.of' (vX3_isMember_0 hS  ?_) rfl (Nat.le_of_ble_eq_true rfl) rfl
  unfold p_X3_isMember at h
  refine ⟨fun hb1 => ?_, fun hb1 => ?_⟩
  · rw [if_pos hb1] at h
    exact h
  · rw [if_neg hb1] at h
    refine ⟨fun hb2 => ?_, fun hb2 => ?_⟩
    · rw [if_pos hb2] at h
      exact h
    · rw [if_neg hb2] at h
      exact h
theorem pb_X3_isMember  (v0 : Int32) : p_X3_isMember  v0 = 0 ∨ p_X3_isMember  v0 = 1 := by
  unfold p_X3_isMember
  repeat' split
  all_goals first | exact Or.inl rfl | exact Or.inr rfl | assumption
set_option maxHeartbeats 2000000 in
theorem vX3_addFrame_0 {G : Gp} {bc bs : Nat} {Q : zPost} {S : zSh} {I : zFI} {L : zFL} {f : Nat} {v1 : Int32} (hS : zStd S) (hf : zFm f) (k : (((I f 0) < (8 : Int32) → ZW G mX3_addFrame fX3_addFrame lX3_addFrame 16 [zo G f, .int v1, .int ((1 : Int32) <<< (v1 &&& 31)), .int (0 : Int32), .null] [] S I L bc bs Q) ∧ (¬ (I f 0) < (8 : Int32) → Q none S I L))) : ZW G mX3_addFrame fX3_addFrame lX3_addFrame 0 [zo G f, .int v1, .null, .null, .null] [] S I L bc bs Q := by
  refine zr_aload_n dX3_addFrame_0 rfl rfl ?_
  refine zr_getIv (x := (I f 0)) dX3_addFrame_1 zf_X3_9 rfl (hS.hasF hf 0 rfl rfl rfl) rfl ?_
  refine zr_bipush (v := 8) dX3_addFrame_4 (by decide) ?_
  refine zr_iclt (tgt := 10) dX3_addFrame_6 (by decide) (fun hb => ?_) (fun hb => ?_)
  · have k := k.1 hb
    refine zr_iconst (v := 1) dX3_addFrame_10 (by decide) ?_
    refine zr_iload_n dX3_addFrame_11 rfl rfl ?_
    refine zr_ishl dX3_addFrame_12 ?_
    refine zr_istore_n dX3_addFrame_13 rfl (Nat.le_of_ble_eq_true rfl) rfl ?_
    refine zr_iconst (v := 0) dX3_addFrame_14 (by decide) ?_
    refine zr_istore_n dX3_addFrame_15 rfl (Nat.le_of_ble_eq_true rfl) rfl ?_
    exact k
  · have k := k.2 hb
    exact zr_return_ dX3_addFrame_9 rfl k
set_option maxHeartbeats 2000000 in
theorem vX3_addFrame_16 {G : Gp} {bc bs : Nat} {Q : zPost} {S : zSh} {I : zFI} {L : zFL} {f : Nat} {v1 : Int32} {v2 : Int32} {v3 : Int32} (hS : zStd S) (hf : zFm f) (k : (((16 : Int32) ≤ v3 → ZW G mX3_addFrame fX3_addFrame lX3_addFrame 66 [zo G f, .int v1, .int v2, .int (0 : Int32), .null] [] S I L bc bs Q) ∧ (¬ (16 : Int32) ≤ v3 → ZW G mX3_addFrame fX3_addFrame lX3_addFrame 25 [zo G f, .int v1, .int v2, .int v3, .int (0 : Int32)] [] S I L bc bs Q))) : ZW G mX3_addFrame fX3_addFrame lX3_addFrame 16 [zo G f, .int v1, .int v2, .int v3, .null] [] S I L bc bs Q := by
  refine zr_iload_n dX3_addFrame_16 rfl rfl ?_
  refine zr_bipush (v := 16) dX3_addFrame_17 (by decide) ?_
  refine zr_icge (tgt := 64) dX3_addFrame_19 (by decide) (fun hb => ?_) (fun hb => ?_)
  · have k := k.1 hb
    refine zr_iconst (v := 0) dX3_addFrame_64 (by decide) ?_
    refine zr_istore_n dX3_addFrame_65 rfl (Nat.le_of_ble_eq_true rfl) rfl ?_
    exact k
  · have k := k.2 hb
    refine zr_iconst (v := 0) dX3_addFrame_22 (by decide) ?_
    refine zr_istore dX3_addFrame_23 (Nat.le_of_ble_eq_true rfl) rfl ?_
    exact k
set_option maxHeartbeats 2000000 in
theorem vX3_addFrame_25 {G : Gp} {bc bs : Nat} {Q : zPost} {S : zSh} {I : zFI} {L : zFL} {f : Nat} {v1 : Int32} {v2 : Int32} {v3 : Int32} {v4 : Int32} (hS : zStd S) (hf : zFm f) (k : (((16 : Int32) ≤ v4 → ZW G mX3_addFrame fX3_addFrame lX3_addFrame 16 [zo G f, .int v1, .int v2, .int (v3 + 1), .null] [] S I L bc bs Q) ∧ (¬ (16 : Int32) ≤ v4 → ((¬ ((v2 >>> (v4 &&& 31)) &&& (1 : Int32)) = (1 : Int32) → ZW G mX3_addFrame fX3_addFrame lX3_addFrame 25 [zo G f, .int v1, .int v2, .int v3, .int (v4 + 1)] [] S I L bc bs Q) ∧ (((v2 >>> (v4 &&& 31)) &&& (1 : Int32)) = (1 : Int32) → vp_in v4 16 ∧ ZW G mX3_addFrame fX3_addFrame lX3_addFrame 25 [zo G f, .int v1, .int (v2 ||| (I (f + 1) v4.toNatClampNeg)), .int v3, .int (v4 + 1)] [] S I L bc bs Q))))) : ZW G mX3_addFrame fX3_addFrame lX3_addFrame 25 [zo G f, .int v1, .int v2, .int v3, .int v4] [] S I L bc bs Q := by
  refine zr_iload dX3_addFrame_25 rfl ?_
  refine zr_bipush (v := 16) dX3_addFrame_27 (by decide) ?_
  refine zr_icge (tgt := 58) dX3_addFrame_29 (by decide) (fun hb => ?_) (fun hb => ?_)
  · have k := k.1 hb
    refine zr_iinc (v := (v3 + 1)) dX3_addFrame_58 rfl rfl (Nat.le_of_ble_eq_true rfl) rfl ?_
    refine zr_goto (tgt := 16) dX3_addFrame_61 (by decide) ?_
    exact zr_mask [true, true, true, true, false] rfl k
  · have k := k.2 hb
    refine zr_iload_n dX3_addFrame_32 rfl rfl ?_
    refine zr_iload dX3_addFrame_33 rfl ?_
    refine zr_ishr dX3_addFrame_35 ?_
    refine zr_iconst (v := 1) dX3_addFrame_36 (by decide) ?_
    refine zr_iand dX3_addFrame_37 ?_
    refine zr_iconst (v := 1) dX3_addFrame_38 (by decide) ?_
    refine zr_icne (tgt := 52) dX3_addFrame_39 (by decide) (fun hb => ?_) (fun hb => ?_)
    · have k := k.1 hb
      refine zr_iinc (v := (v4 + 1)) dX3_addFrame_52 rfl rfl (Nat.le_of_ble_eq_true rfl) rfl ?_
      refine zr_goto (tgt := 25) dX3_addFrame_55 (by decide) ?_
      exact k
    · have k := k.2 hb
      refine zr_iload_n dX3_addFrame_42 rfl rfl ?_
      refine zr_aload_n dX3_addFrame_43 rfl rfl ?_
      refine zr_getR dX3_addFrame_44 zf_X3_15 rfl (hS.hasF hf 0 rfl rfl rfl) (hS.refF hf (d := 1) rfl rfl) ?_
      refine zr_iload dX3_addFrame_47 rfl ?_
      obtain ⟨hi1, k⟩ := k
      refine zr_ialdv (x := (I (f + 1) v4.toNatClampNeg)) dX3_addFrame_49 (hS.hasF hf 1 rfl rfl rfl) hi1 rfl ?_
      refine zr_ior dX3_addFrame_50 ?_
      refine zr_istore_n dX3_addFrame_51 rfl (Nat.le_of_ble_eq_true rfl) rfl ?_
      refine zr_iinc (v := (v4 + 1)) dX3_addFrame_52 rfl rfl (Nat.le_of_ble_eq_true rfl) rfl ?_
      refine zr_goto (tgt := 25) dX3_addFrame_55 (by decide) ?_
      exact k
set_option maxHeartbeats 2000000 in
theorem vX3_addFrame_66 {G : Gp} {bc bs : Nat} {Q : zPost} {S : zSh} {I : zFI} {L : zFL} {f : Nat} {v1 : Int32} {v2 : Int32} {v3 : Int32} (hS : zStd S) (hf : zFm f) (k : (((16 : Int32) ≤ v3 → vp_in (I f 0) 8 ∧ Q none S (u2 (u2 I (f + 3) (I f 0).toNatClampNeg v2) f 0 (((u2 I (f + 3) (I f 0).toNatClampNeg v2) f 0) + (1 : Int32))) L) ∧ (¬ (16 : Int32) ≤ v3 → ((¬ ((v2 >>> (v3 &&& 31)) &&& (1 : Int32)) = (1 : Int32) → ZW G mX3_addFrame fX3_addFrame lX3_addFrame 66 [zo G f, .int v1, .int v2, .int (v3 + 1), .null] [] S I L bc bs Q) ∧ (((v2 >>> (v3 &&& 31)) &&& (1 : Int32)) = (1 : Int32) → vp_in v3 16 ∧ ZW G mX3_addFrame fX3_addFrame lX3_addFrame 66 [zo G f, .int v1, .int v2, .int (v3 + 1), .null] [] S (u2 I (f + 2) v3.toNatClampNeg (I f 0)) L bc bs Q))))) : ZW G mX3_addFrame fX3_addFrame lX3_addFrame 66 [zo G f, .int v1, .int v2, .int v3, .null] [] S I L bc bs Q := by
  refine zr_iload_n dX3_addFrame_66 rfl rfl ?_
  refine zr_bipush (v := 16) dX3_addFrame_67 (by decide) ?_
  refine zr_icge (tgt := 97) dX3_addFrame_69 (by decide) (fun hb => ?_) (fun hb => ?_)
  · have k := k.1 hb
    refine zr_aload_n dX3_addFrame_97 rfl rfl ?_
    refine zr_getR dX3_addFrame_98 zf_X3_22 rfl (hS.hasF hf 0 rfl rfl rfl) (hS.refF hf (d := 3) rfl rfl) ?_
    refine zr_aload_n dX3_addFrame_101 rfl rfl ?_
    refine zr_getIv (x := (I f 0)) dX3_addFrame_102 zf_X3_9 rfl (hS.hasF hf 0 rfl rfl rfl) rfl ?_
    refine zr_iload_n dX3_addFrame_105 rfl rfl ?_
    obtain ⟨hi2, k⟩ := k
    refine zr_iast dX3_addFrame_106 (hS.hasF hf 3 rfl rfl rfl) hi2 ?_
    refine zr_aload_n dX3_addFrame_107 rfl rfl ?_
    refine zr_dup dX3_addFrame_108 rfl ?_
    refine zr_getIv (x := ((u2 I (f + 3) (I f 0).toNatClampNeg v2) f 0)) dX3_addFrame_109 zf_X3_9 rfl (hS.hasF hf 0 rfl rfl rfl) rfl ?_
    refine zr_iconst (v := 1) dX3_addFrame_112 (by decide) ?_
    refine zr_iadd dX3_addFrame_113 ?_
    refine zr_putI dX3_addFrame_114 zf_X3_9 rfl (hS.hasF hf 0 rfl rfl rfl) rfl rfl ?_
    exact zr_return_ dX3_addFrame_117 rfl k
  · have k := k.2 hb
    refine zr_iload_n dX3_addFrame_72 rfl rfl ?_
    refine zr_iload_n dX3_addFrame_73 rfl rfl ?_
    refine zr_ishr dX3_addFrame_74 ?_
    refine zr_iconst (v := 1) dX3_addFrame_75 (by decide) ?_
    refine zr_iand dX3_addFrame_76 ?_
    refine zr_iconst (v := 1) dX3_addFrame_77 (by decide) ?_
    refine zr_icne (tgt := 91) dX3_addFrame_78 (by decide) (fun hb => ?_) (fun hb => ?_)
    · have k := k.1 hb
      refine zr_iinc (v := (v3 + 1)) dX3_addFrame_91 rfl rfl (Nat.le_of_ble_eq_true rfl) rfl ?_
      refine zr_goto (tgt := 66) dX3_addFrame_94 (by decide) ?_
      exact k
    · have k := k.2 hb
      refine zr_aload_n dX3_addFrame_81 rfl rfl ?_
      refine zr_getR dX3_addFrame_82 zf_X3_19 rfl (hS.hasF hf 0 rfl rfl rfl) (hS.refF hf (d := 2) rfl rfl) ?_
      refine zr_iload_n dX3_addFrame_85 rfl rfl ?_
      refine zr_aload_n dX3_addFrame_86 rfl rfl ?_
      refine zr_getIv (x := (I f 0)) dX3_addFrame_87 zf_X3_9 rfl (hS.hasF hf 0 rfl rfl rfl) rfl ?_
      obtain ⟨hi3, k⟩ := k
      refine zr_iast dX3_addFrame_90 (hS.hasF hf 2 rfl rfl rfl) hi3 ?_
      refine zr_iinc (v := (v3 + 1)) dX3_addFrame_91 rfl rfl (Nat.le_of_ble_eq_true rfl) rfl ?_
      refine zr_goto (tgt := 66) dX3_addFrame_94 (by decide) ?_
      exact k
set_option maxHeartbeats 2000000 in
theorem vX3_holding_0 {G : Gp} {bc bs : Nat} {Q : zPost} {S : zSh} {I : zFI} {L : zFL} {f : Nat} {v1 : Int32} (hS : zStd S) (hf : zFm f) (k : Q (some (.int (p_X11_pick I (f + 2) 16 v1))) S I L) : ZW G mX3_holding fX3_holding lX3_holding 0 [zo G f, .int v1] [] S I L bc bs Q := by
  refine zr_aload_n dX3_holding_0 rfl rfl ?_
  refine zr_getR dX3_holding_1 zf_X3_19 rfl (hS.hasF hf 0 rfl rfl rfl) (hS.refF hf (d := 2) rfl rfl) ?_
  refine zr_iload_n dX3_holding_4 rfl rfl ?_
  refine zr_callSN (As := [zo G (f + 2), .int v1]) (fr' := fX11_pick) (lo' := lX11_pick) (bc' := 0) (bs' := 0) (bcr := bc) (bsr := bs) dX3_holding_5 zsn_X3_76 zst_X11_pick rfl rfl (Nat.le_of_ble_eq_true rfl) (Nat.le_of_ble_eq_true rfl) (Nat.le_of_ble_eq_true rfl) (Nat.le_refl _) (Nat.le_refl _) ?_
  refine sp_X11_pick hS (hS.hasF hf 2 rfl rfl rfl) rfl ?_
  show ZW G mX3_holding fX3_holding lX3_holding 8 [zo G f, .int v1] [.int (p_X11_pick I (f + 2) 16 v1)] S I L bc bs Q
  exact zr_ireturn dX3_holding_8 rfl rfl k
def p_X3_holding (I : zFI) (f : Nat) (v1 : Int32) : Int32 := (p_X11_pick I (f + 2) 16 v1)
set_option maxHeartbeats 2000000 in
theorem sp_X3_holding {G : Gp} {Q : zPost} {S : zSh} {I : zFI} {L : zFL} {f : Nat} {v1 : Int32} (hS : zStd S) (hf : zFm f) (h : Q (some (.int (p_X3_holding I f v1))) S I L) : ZC G mX3_holding fX3_holding lX3_holding [zo G f, .int v1] S I L 0 0 Q := by
  refine ZC.of' (vX3_holding_0 hS hf ?_) rfl (Nat.le_of_ble_eq_true rfl) rfl
  unfold p_X3_holding at h
  exact h
set_option maxHeartbeats 2000000 in
theorem vX10_sortOf_0 {G : Gp} {bc bs : Nat} {Q : zPost} {S : zSh} {I : zFI} {L : zFL} {v1 : Int32} (hS : zStd S)  (k : Q (some (.int (p_X11_pick I 16 48 v1))) S I L) : ZW G mX10_sortOf fX10_sortOf lX10_sortOf 0 [zo G 10, .int v1] [] S I L bc bs Q := by
  refine zr_aload_n dX10_sortOf_0 rfl rfl ?_
  refine zr_getR dX10_sortOf_1 zf_X10_34 rfl (hS.has (a := 10) rfl rfl) (hS.ref (a := 16) rfl) ?_
  refine zr_iload_n dX10_sortOf_4 rfl rfl ?_
  refine zr_callSN (As := [zo G 16, .int v1]) (fr' := fX11_pick) (lo' := lX11_pick) (bc' := 0) (bs' := 0) (bcr := bc) (bsr := bs) dX10_sortOf_5 zsn_X10_51 zst_X11_pick rfl rfl (Nat.le_of_ble_eq_true rfl) (Nat.le_of_ble_eq_true rfl) (Nat.le_of_ble_eq_true rfl) (Nat.le_refl _) (Nat.le_refl _) ?_
  refine sp_X11_pick hS (hS.has (a := 16) rfl rfl) rfl ?_
  show ZW G mX10_sortOf fX10_sortOf lX10_sortOf 8 [zo G 10, .int v1] [.int (p_X11_pick I 16 48 v1)] S I L bc bs Q
  exact zr_ireturn dX10_sortOf_8 rfl rfl k
def p_X10_sortOf (I : zFI) (v1 : Int32) : Int32 := (p_X11_pick I 16 48 v1)
set_option maxHeartbeats 2000000 in
theorem sp_X10_sortOf {G : Gp} {Q : zPost} {S : zSh} {I : zFI} {L : zFL} {v1 : Int32} (hS : zStd S)  (h : Q (some (.int (p_X10_sortOf I v1))) S I L) : ZC G mX10_sortOf fX10_sortOf lX10_sortOf [zo G 10, .int v1] S I L 0 0 Q := by
  refine ZC.of' (vX10_sortOf_0 hS  ?_) rfl (Nat.le_of_ble_eq_true rfl) rfl
  unfold p_X10_sortOf at h
  exact h
set_option maxHeartbeats 2000000 in
theorem vX3_countPairs_0 {G : Gp} {bc bs : Nat} {Q : zPost} {S : zSh} {I : zFI} {L : zFL} {f : Nat} {j1 : Nat} (hS : zStd S) (hf : zFm f) (hj1 : zJn j1) (k : ZW G mX3_countPairs fX3_countPairs lX3_countPairs 2 [zo G f, zo G j1, zo G 10, .int (0 : Int32), .null] [] S I L bc bs Q) : ZW G mX3_countPairs fX3_countPairs lX3_countPairs 0 [zo G f, zo G j1, zo G 10, .null, .null] [] S I L bc bs Q := by
  refine zr_iconst (v := 0) dX3_countPairs_0 (by decide) ?_
  refine zr_istore_n dX3_countPairs_1 rfl (Nat.le_of_ble_eq_true rfl) rfl ?_
  exact k
set_option maxHeartbeats 2000000 in
theorem vX3_countPairs_2 {G : Gp} {bc bs : Nat} {Q : zPost} {S : zSh} {I : zFI} {L : zFL} {f : Nat} {j1 : Nat} {v3 : Int32} (hS : zStd S) (hf : zFm f) (hj1 : zJn j1) (k : (((48 : Int32) ≤ v3 → Q none S I L) ∧ (¬ (48 : Int32) ≤ v3 → (((p_X4_partnerOf I j1 v3) = (-1 : Int32) → ZW G mX3_countPairs fX3_countPairs lX3_countPairs 2 [zo G f, zo G j1, zo G 10, .int (v3 + 1), .null] [] S I L bc bs Q) ∧ (¬ (p_X4_partnerOf I j1 v3) = (-1 : Int32) → ((¬ (p_X10_sortOf I v3) = 0 → ZW G mX3_countPairs fX3_countPairs lX3_countPairs 2 [zo G f, zo G j1, zo G 10, .int (v3 + 1), .null] [] S I L bc bs Q) ∧ ((p_X10_sortOf I v3) = 0 → (((p_X3_holding I f (p_X10_timberOf I v3)) < 0 → ZW G mX3_countPairs fX3_countPairs lX3_countPairs 2 [zo G f, zo G j1, zo G 10, .int (v3 + 1), .null] [] S I L bc bs Q) ∧ (¬ (p_X3_holding I f (p_X10_timberOf I v3)) < 0 → (((8 : Int32) ≤ (p_X3_holding I f (p_X10_timberOf I v3)) → ZW G mX3_countPairs fX3_countPairs lX3_countPairs 2 [zo G f, zo G j1, zo G 10, .int (v3 + 1), .null] [] S I L bc bs Q) ∧ (¬ (8 : Int32) ≤ (p_X3_holding I f (p_X10_timberOf I v3)) → vp_in (p_X3_holding I f (p_X10_timberOf I v3)) 8 ∧ ZW G mX3_countPairs fX3_countPairs lX3_countPairs 2 [zo G f, zo G j1, zo G 10, .int (v3 + 1), .null] [] S (u2 I (f + 4) (p_X3_holding I f (p_X10_timberOf I v3)).toNatClampNeg ((I (f + 4) (p_X3_holding I f (p_X10_timberOf I v3)).toNatClampNeg) + (1 : Int32))) L bc bs Q))))))))))) : ZW G mX3_countPairs fX3_countPairs lX3_countPairs 2 [zo G f, zo G j1, zo G 10, .int v3, .null] [] S I L bc bs Q := by
  refine zr_iload_n dX3_countPairs_2 rfl rfl ?_
  refine zr_bipush (v := 48) dX3_countPairs_3 (by decide) ?_
  refine zr_icge (tgt := 65) dX3_countPairs_5 (by decide) (fun hb => ?_) (fun hb => ?_)
  · have k := k.1 hb
    exact zr_return_ dX3_countPairs_65 rfl k
  · have k := k.2 hb
    refine zr_aload_n dX3_countPairs_8 rfl rfl ?_
    refine zr_aload_n dX3_countPairs_9 rfl rfl ?_
    refine zr_iload_n dX3_countPairs_10 rfl rfl ?_
    refine zr_callV (As := [.int v3]) (fr' := fX10_timberOf) (lo' := lX10_timberOf) (bc' := 0) (bs' := 0) (bcr := bc) (bsr := bs) dX3_countPairs_11 zs_X3_47 zi_X10_timberOf zcl_10 (hS.has (a := 10) rfl rfl) rfl rfl (Nat.le_of_ble_eq_true rfl) (Nat.le_of_ble_eq_true rfl) (Nat.le_of_ble_eq_true rfl) (Nat.le_refl _) (Nat.le_refl _) ?_
    refine sp_X10_timberOf hS  ?_
    show ZW G mX3_countPairs fX3_countPairs lX3_countPairs 14 [zo G f, zo G j1, zo G 10, .int v3, .null] [.int (p_X10_timberOf I v3), zo G f] S I L bc bs Q
    refine zr_callV (As := [.int (p_X10_timberOf I v3)]) (fr' := fX3_holding) (lo' := lX3_holding) (bc' := 0) (bs' := 0) (bcr := bc) (bsr := bs) dX3_countPairs_14 zs_X3_70 zi_X3_holding zcl_3 (hS.hasF hf 0 rfl rfl rfl) rfl rfl (Nat.le_of_ble_eq_true rfl) (Nat.le_of_ble_eq_true rfl) (Nat.le_of_ble_eq_true rfl) (Nat.le_refl _) (Nat.le_refl _) ?_
    refine sp_X3_holding hS hf ?_
    show ZW G mX3_countPairs fX3_countPairs lX3_countPairs 17 [zo G f, zo G j1, zo G 10, .int v3, .null] [.int (p_X3_holding I f (p_X10_timberOf I v3))] S I L bc bs Q
    refine zr_istore dX3_countPairs_17 (Nat.le_of_ble_eq_true rfl) rfl ?_
    refine zr_aload_n dX3_countPairs_19 rfl rfl ?_
    refine zr_iload_n dX3_countPairs_20 rfl rfl ?_
    refine zr_callV (As := [.int v3]) (fr' := fX4_partnerOf) (lo' := lX4_partnerOf) (bc' := 0) (bs' := 0) (bcr := bc) (bsr := bs) dX3_countPairs_21 zs_X3_53 zi_X4_partnerOf zcl_4 (hS.hasJ hj1 0 rfl rfl rfl) rfl rfl (Nat.le_of_ble_eq_true rfl) (Nat.le_of_ble_eq_true rfl) (Nat.le_of_ble_eq_true rfl) (Nat.le_refl _) (Nat.le_refl _) ?_
    refine sp_X4_partnerOf hS hj1 ?_
    show ZW G mX3_countPairs fX3_countPairs lX3_countPairs 24 [zo G f, zo G j1, zo G 10, .int v3, .int (p_X3_holding I f (p_X10_timberOf I v3))] [.int (p_X4_partnerOf I j1 v3)] S I L bc bs Q
    refine zr_iconst (v := -1) dX3_countPairs_24 (by decide) ?_
    refine zr_iceq (tgt := 59) dX3_countPairs_25 (by decide) (fun hb => ?_) (fun hb => ?_)
    · have k := k.1 hb
      refine zr_iinc (v := (v3 + 1)) dX3_countPairs_59 rfl rfl (Nat.le_of_ble_eq_true rfl) rfl ?_
      refine zr_goto (tgt := 2) dX3_countPairs_62 (by decide) ?_
      exact zr_mask [true, true, true, true, false] rfl k
    · have k := k.2 hb
      refine zr_aload_n dX3_countPairs_28 rfl rfl ?_
      refine zr_iload_n dX3_countPairs_29 rfl rfl ?_
      refine zr_callV (As := [.int v3]) (fr' := fX10_sortOf) (lo' := lX10_sortOf) (bc' := 0) (bs' := 0) (bcr := bc) (bsr := bs) dX3_countPairs_30 zs_X3_73 zi_X10_sortOf zcl_10 (hS.has (a := 10) rfl rfl) rfl rfl (Nat.le_of_ble_eq_true rfl) (Nat.le_of_ble_eq_true rfl) (Nat.le_of_ble_eq_true rfl) (Nat.le_refl _) (Nat.le_refl _) ?_
      refine sp_X10_sortOf hS  ?_
      show ZW G mX3_countPairs fX3_countPairs lX3_countPairs 33 [zo G f, zo G j1, zo G 10, .int v3, .int (p_X3_holding I f (p_X10_timberOf I v3))] [.int (p_X10_sortOf I v3)] S I L bc bs Q
      refine zr_ifne (tgt := 59) dX3_countPairs_33 (by decide) (fun hb => ?_) (fun hb => ?_)
      · have k := k.1 hb
        refine zr_iinc (v := (v3 + 1)) dX3_countPairs_59 rfl rfl (Nat.le_of_ble_eq_true rfl) rfl ?_
        refine zr_goto (tgt := 2) dX3_countPairs_62 (by decide) ?_
        exact zr_mask [true, true, true, true, false] rfl k
      · have k := k.2 hb
        refine zr_iload dX3_countPairs_36 rfl ?_
        refine zr_iflt (tgt := 59) dX3_countPairs_38 (by decide) (fun hb => ?_) (fun hb => ?_)
        · have k := k.1 hb
          refine zr_iinc (v := (v3 + 1)) dX3_countPairs_59 rfl rfl (Nat.le_of_ble_eq_true rfl) rfl ?_
          refine zr_goto (tgt := 2) dX3_countPairs_62 (by decide) ?_
          exact zr_mask [true, true, true, true, false] rfl k
        · have k := k.2 hb
          refine zr_iload dX3_countPairs_41 rfl ?_
          refine zr_bipush (v := 8) dX3_countPairs_43 (by decide) ?_
          refine zr_icge (tgt := 59) dX3_countPairs_45 (by decide) (fun hb => ?_) (fun hb => ?_)
          · have k := k.1 hb
            refine zr_iinc (v := (v3 + 1)) dX3_countPairs_59 rfl rfl (Nat.le_of_ble_eq_true rfl) rfl ?_
            refine zr_goto (tgt := 2) dX3_countPairs_62 (by decide) ?_
            exact zr_mask [true, true, true, true, false] rfl k
          · have k := k.2 hb
            refine zr_aload_n dX3_countPairs_48 rfl rfl ?_
            refine zr_getR dX3_countPairs_49 zf_X3_25 rfl (hS.hasF hf 0 rfl rfl rfl) (hS.refF hf (d := 4) rfl rfl) ?_
            refine zr_iload dX3_countPairs_52 rfl ?_
            refine zr_dup2 dX3_countPairs_54 rfl rfl ?_
            obtain ⟨hi1, k⟩ := k
            refine zr_ialdv (x := (I (f + 4) (p_X3_holding I f (p_X10_timberOf I v3)).toNatClampNeg)) dX3_countPairs_55 (hS.hasF hf 4 rfl rfl rfl) hi1 rfl ?_
            refine zr_iconst (v := 1) dX3_countPairs_56 (by decide) ?_
            refine zr_iadd dX3_countPairs_57 ?_
            refine zr_iast dX3_countPairs_58 (hS.hasF hf 4 rfl rfl rfl) hi1 ?_
            refine zr_iinc (v := (v3 + 1)) dX3_countPairs_59 rfl rfl (Nat.le_of_ble_eq_true rfl) rfl ?_
            refine zr_goto (tgt := 2) dX3_countPairs_62 (by decide) ?_
            exact zr_mask [true, true, true, true, false] rfl k
set_option maxHeartbeats 2000000 in
theorem vX3_gather_0 {G : Gp} {bc bs : Nat} {Q : zPost} {S : zSh} {I : zFI} {L : zFL} {f : Nat} {j1 : Nat} (hS : zStd S) (hf : zFm f) (hj1 : zJn j1) (k : ZC G mJ7_fill_53178 fJ7_fill_53178 lJ7_fill_53178 [zo G (f + 1), .int (0 : Int32)] S (u2 (u2 I f 0 (0 : Int32)) f 5 (0 : Int32)) L 0 0 (fun w S' I1 L1 => w = none ∧ S = S' ∧ ZC G mJ7_fill_53178 fJ7_fill_53178 lJ7_fill_53178 [zo G (f + 2), .int (-1 : Int32)] S I1 L1 0 0 (fun w S' I2 L2 => w = none ∧ S = S' ∧ ZC G mJ7_fill_53178 fJ7_fill_53178 lJ7_fill_53178 [zo G (f + 4), .int (0 : Int32)] S I2 L2 0 0 (fun w S' I3 L3 => w = none ∧ S = S' ∧ ZW G mX3_gather fX3_gather lX3_gather 36 [zo G f, zo G j1, zo G 10, .int (0 : Int32), .null, .null] [] S I3 L3 bc bs Q)))) : ZW G mX3_gather fX3_gather lX3_gather 0 [zo G f, zo G j1, zo G 10, .null, .null, .null] [] S I L bc bs Q := by
  refine zr_aload_n dX3_gather_0 rfl rfl ?_
  refine zr_iconst (v := 0) dX3_gather_1 (by decide) ?_
  refine zr_putI dX3_gather_2 zf_X3_9 rfl (hS.hasF hf 0 rfl rfl rfl) rfl rfl ?_
  refine zr_aload_n dX3_gather_5 rfl rfl ?_
  refine zr_iconst (v := 0) dX3_gather_6 (by decide) ?_
  refine zr_putI dX3_gather_7 zf_X3_28 rfl (hS.hasF hf 0 rfl rfl rfl) rfl rfl ?_
  refine zr_aload_n dX3_gather_10 rfl rfl ?_
  refine zr_getR dX3_gather_11 zf_X3_15 rfl (hS.hasF hf 0 rfl rfl rfl) (hS.refF hf (d := 1) rfl rfl) ?_
  refine zr_iconst (v := 0) dX3_gather_14 (by decide) ?_
  refine zr_callS (As := [zo G (f + 1), .int (0 : Int32)]) (fr' := fJ7_fill_53178) (lo' := lJ7_fill_53178) (bc' := 0) (bs' := 0) (bcr := bc) (bsr := bs) dX3_gather_15 zs_X3_41 zst_J7_fill_53178 rfl rfl (Nat.le_of_ble_eq_true rfl) (Nat.le_of_ble_eq_true rfl) (Nat.le_of_ble_eq_true rfl) (Nat.le_refl _) (Nat.le_refl _) ?_
  refine ZC.mono (fun w S' I1 L1 k => ?_) k
  obtain ⟨rfl, rfl, k⟩ := k
  show ZW G mX3_gather fX3_gather lX3_gather 18 [zo G f, zo G j1, zo G 10, .null, .null, .null] [] S I1 L1 bc bs Q
  refine zr_aload_n dX3_gather_18 rfl rfl ?_
  refine zr_getR dX3_gather_19 zf_X3_19 rfl (hS.hasF hf 0 rfl rfl rfl) (hS.refF hf (d := 2) rfl rfl) ?_
  refine zr_iconst (v := -1) dX3_gather_22 (by decide) ?_
  refine zr_callS (As := [zo G (f + 2), .int (-1 : Int32)]) (fr' := fJ7_fill_53178) (lo' := lJ7_fill_53178) (bc' := 0) (bs' := 0) (bcr := bc) (bsr := bs) dX3_gather_23 zs_X3_41 zst_J7_fill_53178 rfl rfl (Nat.le_of_ble_eq_true rfl) (Nat.le_of_ble_eq_true rfl) (Nat.le_of_ble_eq_true rfl) (Nat.le_refl _) (Nat.le_refl _) ?_
  refine ZC.mono (fun w S' I2 L2 k => ?_) k
  obtain ⟨rfl, rfl, k⟩ := k
  show ZW G mX3_gather fX3_gather lX3_gather 26 [zo G f, zo G j1, zo G 10, .null, .null, .null] [] S I2 L2 bc bs Q
  refine zr_aload_n dX3_gather_26 rfl rfl ?_
  refine zr_getR dX3_gather_27 zf_X3_25 rfl (hS.hasF hf 0 rfl rfl rfl) (hS.refF hf (d := 4) rfl rfl) ?_
  refine zr_iconst (v := 0) dX3_gather_30 (by decide) ?_
  refine zr_callS (As := [zo G (f + 4), .int (0 : Int32)]) (fr' := fJ7_fill_53178) (lo' := lJ7_fill_53178) (bc' := 0) (bs' := 0) (bcr := bc) (bsr := bs) dX3_gather_31 zs_X3_41 zst_J7_fill_53178 rfl rfl (Nat.le_of_ble_eq_true rfl) (Nat.le_of_ble_eq_true rfl) (Nat.le_of_ble_eq_true rfl) (Nat.le_refl _) (Nat.le_refl _) ?_
  refine ZC.mono (fun w S' I3 L3 k => ?_) k
  obtain ⟨rfl, rfl, k⟩ := k
  show ZW G mX3_gather fX3_gather lX3_gather 34 [zo G f, zo G j1, zo G 10, .null, .null, .null] [] S I3 L3 bc bs Q
  refine zr_iconst (v := 0) dX3_gather_34 (by decide) ?_
  refine zr_istore_n dX3_gather_35 rfl (Nat.le_of_ble_eq_true rfl) rfl ?_
  exact k
set_option maxHeartbeats 2000000 in
theorem vX3_gather_36 {G : Gp} {bc bs : Nat} {Q : zPost} {S : zSh} {I : zFI} {L : zFL} {f : Nat} {j1 : Nat} {v3 : Int32} (hS : zStd S) (hf : zFm f) (hj1 : zJn j1) (k : (((48 : Int32) ≤ v3 → ZW G mX3_gather fX3_gather lX3_gather 98 [zo G f, zo G j1, zo G 10, .int (0 : Int32), .null, .null] [] S I L bc bs Q) ∧ (¬ (48 : Int32) ≤ v3 → (((p_X3_isMember (p_X10_timberOf I v3)) = 0 → ZW G mX3_gather fX3_gather lX3_gather 36 [zo G f, zo G j1, zo G 10, .int (v3 + 1), .null, .null] [] S I L bc bs Q) ∧ (¬ (p_X3_isMember (p_X10_timberOf I v3)) = 0 → (((p_X3_isMember (p_X10_timberOf I (p_X4_partnerOf I j1 v3))) = 0 → ZW G mX3_gather fX3_gather lX3_gather 36 [zo G f, zo G j1, zo G 10, .int (v3 + 1), .null, .null] [] S I L bc bs Q) ∧ (¬ (p_X3_isMember (p_X10_timberOf I (p_X4_partnerOf I j1 v3))) = 0 → vp_in (p_X10_timberOf I v3) 16 ∧ ZW G mX3_gather fX3_gather lX3_gather 36 [zo G f, zo G j1, zo G 10, .int (v3 + 1), .null, .null] [] S (u2 I (f + 1) (p_X10_timberOf I v3).toNatClampNeg ((I (f + 1) (p_X10_timberOf I v3).toNatClampNeg) ||| ((1 : Int32) <<< ((p_X10_timberOf I (p_X4_partnerOf I j1 v3)) &&& 31)))) L bc bs Q))))))) : ZW G mX3_gather fX3_gather lX3_gather 36 [zo G f, zo G j1, zo G 10, .int v3, .null, .null] [] S I L bc bs Q := by
  refine zr_iload_n dX3_gather_36 rfl rfl ?_
  refine zr_bipush (v := 48) dX3_gather_37 (by decide) ?_
  refine zr_icge (tgt := 96) dX3_gather_39 (by decide) (fun hb => ?_) (fun hb => ?_)
  · have k := k.1 hb
    refine zr_iconst (v := 0) dX3_gather_96 (by decide) ?_
    refine zr_istore_n dX3_gather_97 rfl (Nat.le_of_ble_eq_true rfl) rfl ?_
    exact k
  · have k := k.2 hb
    refine zr_aload_n dX3_gather_42 rfl rfl ?_
    refine zr_iload_n dX3_gather_43 rfl rfl ?_
    refine zr_callV (As := [.int v3]) (fr' := fX10_timberOf) (lo' := lX10_timberOf) (bc' := 0) (bs' := 0) (bcr := bc) (bsr := bs) dX3_gather_44 zs_X3_47 zi_X10_timberOf zcl_10 (hS.has (a := 10) rfl rfl) rfl rfl (Nat.le_of_ble_eq_true rfl) (Nat.le_of_ble_eq_true rfl) (Nat.le_of_ble_eq_true rfl) (Nat.le_refl _) (Nat.le_refl _) ?_
    refine sp_X10_timberOf hS  ?_
    show ZW G mX3_gather fX3_gather lX3_gather 47 [zo G f, zo G j1, zo G 10, .int v3, .null, .null] [.int (p_X10_timberOf I v3)] S I L bc bs Q
    refine zr_istore dX3_gather_47 (Nat.le_of_ble_eq_true rfl) rfl ?_
    refine zr_aload_n dX3_gather_49 rfl rfl ?_
    refine zr_aload_n dX3_gather_50 rfl rfl ?_
    refine zr_iload_n dX3_gather_51 rfl rfl ?_
    refine zr_callV (As := [.int v3]) (fr' := fX4_partnerOf) (lo' := lX4_partnerOf) (bc' := 0) (bs' := 0) (bcr := bc) (bsr := bs) dX3_gather_52 zs_X3_53 zi_X4_partnerOf zcl_4 (hS.hasJ hj1 0 rfl rfl rfl) rfl rfl (Nat.le_of_ble_eq_true rfl) (Nat.le_of_ble_eq_true rfl) (Nat.le_of_ble_eq_true rfl) (Nat.le_refl _) (Nat.le_refl _) ?_
    refine sp_X4_partnerOf hS hj1 ?_
    show ZW G mX3_gather fX3_gather lX3_gather 55 [zo G f, zo G j1, zo G 10, .int v3, .int (p_X10_timberOf I v3), .null] [.int (p_X4_partnerOf I j1 v3), zo G 10] S I L bc bs Q
    refine zr_callV (As := [.int (p_X4_partnerOf I j1 v3)]) (fr' := fX10_timberOf) (lo' := lX10_timberOf) (bc' := 0) (bs' := 0) (bcr := bc) (bsr := bs) dX3_gather_55 zs_X3_47 zi_X10_timberOf zcl_10 (hS.has (a := 10) rfl rfl) rfl rfl (Nat.le_of_ble_eq_true rfl) (Nat.le_of_ble_eq_true rfl) (Nat.le_of_ble_eq_true rfl) (Nat.le_refl _) (Nat.le_refl _) ?_
    refine sp_X10_timberOf hS  ?_
    show ZW G mX3_gather fX3_gather lX3_gather 58 [zo G f, zo G j1, zo G 10, .int v3, .int (p_X10_timberOf I v3), .null] [.int (p_X10_timberOf I (p_X4_partnerOf I j1 v3))] S I L bc bs Q
    refine zr_istore dX3_gather_58 (Nat.le_of_ble_eq_true rfl) rfl ?_
    refine zr_iload dX3_gather_60 rfl ?_
    refine zr_callS (As := [.int (p_X10_timberOf I v3)]) (fr' := fX3_isMember) (lo' := lX3_isMember) (bc' := 0) (bs' := 0) (bcr := bc) (bsr := bs) dX3_gather_62 zs_X3_58 zst_X3_isMember rfl rfl (Nat.le_of_ble_eq_true rfl) (Nat.le_of_ble_eq_true rfl) (Nat.le_of_ble_eq_true rfl) (Nat.le_refl _) (Nat.le_refl _) ?_
    refine sp_X3_isMember hS  ?_
    show ZW G mX3_gather fX3_gather lX3_gather 65 [zo G f, zo G j1, zo G 10, .int v3, .int (p_X10_timberOf I v3), .int (p_X10_timberOf I (p_X4_partnerOf I j1 v3))] [.int (p_X3_isMember (p_X10_timberOf I v3))] S I L bc bs Q
    refine zr_ifeq (tgt := 90) dX3_gather_65 (by decide) (fun hb => ?_) (fun hb => ?_)
    · have k := k.1 hb
      refine zr_iinc (v := (v3 + 1)) dX3_gather_90 rfl rfl (Nat.le_of_ble_eq_true rfl) rfl ?_
      refine zr_goto (tgt := 36) dX3_gather_93 (by decide) ?_
      exact zr_mask [true, true, true, true, false, false] rfl k
    · have k := k.2 hb
      refine zr_iload dX3_gather_68 rfl ?_
      refine zr_callS (As := [.int (p_X10_timberOf I (p_X4_partnerOf I j1 v3))]) (fr' := fX3_isMember) (lo' := lX3_isMember) (bc' := 0) (bs' := 0) (bcr := bc) (bsr := bs) dX3_gather_70 zs_X3_58 zst_X3_isMember rfl rfl (Nat.le_of_ble_eq_true rfl) (Nat.le_of_ble_eq_true rfl) (Nat.le_of_ble_eq_true rfl) (Nat.le_refl _) (Nat.le_refl _) ?_
      refine sp_X3_isMember hS  ?_
      show ZW G mX3_gather fX3_gather lX3_gather 73 [zo G f, zo G j1, zo G 10, .int v3, .int (p_X10_timberOf I v3), .int (p_X10_timberOf I (p_X4_partnerOf I j1 v3))] [.int (p_X3_isMember (p_X10_timberOf I (p_X4_partnerOf I j1 v3)))] S I L bc bs Q
      refine zr_ifeq (tgt := 90) dX3_gather_73 (by decide) (fun hb => ?_) (fun hb => ?_)
      · have k := k.1 hb
        refine zr_iinc (v := (v3 + 1)) dX3_gather_90 rfl rfl (Nat.le_of_ble_eq_true rfl) rfl ?_
        refine zr_goto (tgt := 36) dX3_gather_93 (by decide) ?_
        exact zr_mask [true, true, true, true, false, false] rfl k
      · have k := k.2 hb
        refine zr_aload_n dX3_gather_76 rfl rfl ?_
        refine zr_getR dX3_gather_77 zf_X3_15 rfl (hS.hasF hf 0 rfl rfl rfl) (hS.refF hf (d := 1) rfl rfl) ?_
        refine zr_iload dX3_gather_80 rfl ?_
        refine zr_dup2 dX3_gather_82 rfl rfl ?_
        obtain ⟨hi1, k⟩ := k
        refine zr_ialdv (x := (I (f + 1) (p_X10_timberOf I v3).toNatClampNeg)) dX3_gather_83 (hS.hasF hf 1 rfl rfl rfl) hi1 rfl ?_
        refine zr_iconst (v := 1) dX3_gather_84 (by decide) ?_
        refine zr_iload dX3_gather_85 rfl ?_
        refine zr_ishl dX3_gather_87 ?_
        refine zr_ior dX3_gather_88 ?_
        refine zr_iast dX3_gather_89 (hS.hasF hf 1 rfl rfl rfl) hi1 ?_
        refine zr_iinc (v := (v3 + 1)) dX3_gather_90 rfl rfl (Nat.le_of_ble_eq_true rfl) rfl ?_
        refine zr_goto (tgt := 36) dX3_gather_93 (by decide) ?_
        exact zr_mask [true, true, true, true, false, false] rfl k
set_option maxHeartbeats 2000000 in
theorem vX3_gather_98 {G : Gp} {bc bs : Nat} {Q : zPost} {S : zSh} {I : zFI} {L : zFL} {f : Nat} {j1 : Nat} {v3 : Int32} (hS : zStd S) (hf : zFm f) (hj1 : zJn j1) (k : (((16 : Int32) ≤ v3 → ZC G mX3_countPairs fX3_countPairs lX3_countPairs [zo G f, zo G j1, zo G 10] S I L 0 0 (fun w S' I1 L1 => w = none ∧ S = S' ∧ Q none S I1 L1)) ∧ (¬ (16 : Int32) ≤ v3 → vp_in v3 16 ∧ (((I (f + 1) v3.toNatClampNeg) = 0 → ZW G mX3_gather fX3_gather lX3_gather 98 [zo G f, zo G j1, zo G 10, .int (v3 + 1), .null, .null] [] S I L bc bs Q) ∧ (¬ (I (f + 1) v3.toNatClampNeg) = 0 → ((¬ (I (f + 2) v3.toNatClampNeg) = (-1 : Int32) → ZW G mX3_gather fX3_gather lX3_gather 98 [zo G f, zo G j1, zo G 10, .int (v3 + 1), .null, .null] [] S I L bc bs Q) ∧ ((I (f + 2) v3.toNatClampNeg) = (-1 : Int32) → ZC G mX3_addFrame fX3_addFrame lX3_addFrame [zo G f, .int v3] S I L 0 0 (fun w S' I2 L2 => w = none ∧ S = S' ∧ ZW G mX3_gather fX3_gather lX3_gather 98 [zo G f, zo G j1, zo G 10, .int (v3 + 1), .null, .null] [] S I2 L2 bc bs Q)))))))) : ZW G mX3_gather fX3_gather lX3_gather 98 [zo G f, zo G j1, zo G 10, .int v3, .null, .null] [] S I L bc bs Q := by
  refine zr_iload_n dX3_gather_98 rfl rfl ?_
  refine zr_bipush (v := 16) dX3_gather_99 (by decide) ?_
  refine zr_icge (tgt := 134) dX3_gather_101 (by decide) (fun hb => ?_) (fun hb => ?_)
  · have k := k.1 hb
    refine zr_aload_n dX3_gather_134 rfl rfl ?_
    refine zr_aload_n dX3_gather_135 rfl rfl ?_
    refine zr_aload_n dX3_gather_136 rfl rfl ?_
    refine zr_callV (As := [zo G j1, zo G 10]) (fr' := fX3_countPairs) (lo' := lX3_countPairs) (bc' := 0) (bs' := 0) (bcr := bc) (bsr := bs) dX3_gather_137 zs_X3_66 zi_X3_countPairs zcl_3 (hS.hasF hf 0 rfl rfl rfl) rfl rfl (Nat.le_of_ble_eq_true rfl) (Nat.le_of_ble_eq_true rfl) (Nat.le_of_ble_eq_true rfl) (Nat.le_refl _) (Nat.le_refl _) ?_
    refine ZC.mono (fun w S' I1 L1 k => ?_) k
    obtain ⟨rfl, rfl, k⟩ := k
    show ZW G mX3_gather fX3_gather lX3_gather 140 [zo G f, zo G j1, zo G 10, .int v3, .null, .null] [] S I1 L1 bc bs Q
    exact zr_return_ dX3_gather_140 rfl k
  · have k := k.2 hb
    refine zr_aload_n dX3_gather_104 rfl rfl ?_
    refine zr_getR dX3_gather_105 zf_X3_15 rfl (hS.hasF hf 0 rfl rfl rfl) (hS.refF hf (d := 1) rfl rfl) ?_
    refine zr_iload_n dX3_gather_108 rfl rfl ?_
    obtain ⟨hi2, k⟩ := k
    refine zr_ialdv (x := (I (f + 1) v3.toNatClampNeg)) dX3_gather_109 (hS.hasF hf 1 rfl rfl rfl) hi2 rfl ?_
    refine zr_ifeq (tgt := 128) dX3_gather_110 (by decide) (fun hb => ?_) (fun hb => ?_)
    · have k := k.1 hb
      refine zr_iinc (v := (v3 + 1)) dX3_gather_128 rfl rfl (Nat.le_of_ble_eq_true rfl) rfl ?_
      refine zr_goto (tgt := 98) dX3_gather_131 (by decide) ?_
      exact k
    · have k := k.2 hb
      refine zr_aload_n dX3_gather_113 rfl rfl ?_
      refine zr_getR dX3_gather_114 zf_X3_19 rfl (hS.hasF hf 0 rfl rfl rfl) (hS.refF hf (d := 2) rfl rfl) ?_
      refine zr_iload_n dX3_gather_117 rfl rfl ?_
      refine zr_ialdv (x := (I (f + 2) v3.toNatClampNeg)) dX3_gather_118 (hS.hasF hf 2 rfl rfl rfl) hi2 rfl ?_
      refine zr_iconst (v := -1) dX3_gather_119 (by decide) ?_
      refine zr_icne (tgt := 128) dX3_gather_120 (by decide) (fun hb => ?_) (fun hb => ?_)
      · have k := k.1 hb
        refine zr_iinc (v := (v3 + 1)) dX3_gather_128 rfl rfl (Nat.le_of_ble_eq_true rfl) rfl ?_
        refine zr_goto (tgt := 98) dX3_gather_131 (by decide) ?_
        exact k
      · have k := k.2 hb
        refine zr_aload_n dX3_gather_123 rfl rfl ?_
        refine zr_iload_n dX3_gather_124 rfl rfl ?_
        refine zr_callV (As := [.int v3]) (fr' := fX3_addFrame) (lo' := lX3_addFrame) (bc' := 0) (bs' := 0) (bcr := bc) (bsr := bs) dX3_gather_125 zs_X3_62 zi_X3_addFrame zcl_3 (hS.hasF hf 0 rfl rfl rfl) rfl rfl (Nat.le_of_ble_eq_true rfl) (Nat.le_of_ble_eq_true rfl) (Nat.le_of_ble_eq_true rfl) (Nat.le_refl _) (Nat.le_refl _) ?_
        refine ZC.mono (fun w S' I2 L2 k => ?_) k
        obtain ⟨rfl, rfl, k⟩ := k
        show ZW G mX3_gather fX3_gather lX3_gather 128 [zo G f, zo G j1, zo G 10, .int v3, .null, .null] [] S I2 L2 bc bs Q
        refine zr_iinc (v := (v3 + 1)) dX3_gather_128 rfl rfl (Nat.le_of_ble_eq_true rfl) rfl ?_
        refine zr_goto (tgt := 98) dX3_gather_131 (by decide) ?_
        exact k
set_option maxHeartbeats 2000000 in
theorem vX3_size_0 {G : Gp} {bc bs : Nat} {Q : zPost} {S : zSh} {I : zFI} {L : zFL} {f : Nat} (hS : zStd S) (hf : zFm f) (k : Q (some (.int (I f 0))) S I L) : ZW G mX3_size fX3_size lX3_size 0 [zo G f] [] S I L bc bs Q := by
  refine zr_aload_n dX3_size_0 rfl rfl ?_
  refine zr_getIv (x := (I f 0)) dX3_size_1 zf_X3_9 rfl (hS.hasF hf 0 rfl rfl rfl) rfl ?_
  exact zr_ireturn dX3_size_4 rfl rfl k
def p_X3_size (I : zFI) (f : Nat) : Int32 := (I f 0)
set_option maxHeartbeats 2000000 in
theorem sp_X3_size {G : Gp} {Q : zPost} {S : zSh} {I : zFI} {L : zFL} {f : Nat} (hS : zStd S) (hf : zFm f) (h : Q (some (.int (p_X3_size I f))) S I L) : ZC G mX3_size fX3_size lX3_size [zo G f] S I L 0 0 Q := by
  refine ZC.of' (vX3_size_0 hS hf ?_) rfl (Nat.le_of_ble_eq_true rfl) rfl
  unfold p_X3_size at h
  exact h
set_option maxHeartbeats 2000000 in
theorem vX3_membersOf_0 {G : Gp} {bc bs : Nat} {Q : zPost} {S : zSh} {I : zFI} {L : zFL} {f : Nat} {v1 : Int32} (hS : zStd S) (hf : zFm f) (k : Q (some (.int (p_X11_pick I (f + 3) 8 v1))) S I L) : ZW G mX3_membersOf fX3_membersOf lX3_membersOf 0 [zo G f, .int v1] [] S I L bc bs Q := by
  refine zr_aload_n dX3_membersOf_0 rfl rfl ?_
  refine zr_getR dX3_membersOf_1 zf_X3_22 rfl (hS.hasF hf 0 rfl rfl rfl) (hS.refF hf (d := 3) rfl rfl) ?_
  refine zr_iload_n dX3_membersOf_4 rfl rfl ?_
  refine zr_callSN (As := [zo G (f + 3), .int v1]) (fr' := fX11_pick) (lo' := lX11_pick) (bc' := 0) (bs' := 0) (bcr := bc) (bsr := bs) dX3_membersOf_5 zsn_X3_76 zst_X11_pick rfl rfl (Nat.le_of_ble_eq_true rfl) (Nat.le_of_ble_eq_true rfl) (Nat.le_of_ble_eq_true rfl) (Nat.le_refl _) (Nat.le_refl _) ?_
  refine sp_X11_pick hS (hS.hasF hf 3 rfl rfl rfl) rfl ?_
  show ZW G mX3_membersOf fX3_membersOf lX3_membersOf 8 [zo G f, .int v1] [.int (p_X11_pick I (f + 3) 8 v1)] S I L bc bs Q
  exact zr_ireturn dX3_membersOf_8 rfl rfl k
def p_X3_membersOf (I : zFI) (f : Nat) (v1 : Int32) : Int32 := (p_X11_pick I (f + 3) 8 v1)
set_option maxHeartbeats 2000000 in
theorem sp_X3_membersOf {G : Gp} {Q : zPost} {S : zSh} {I : zFI} {L : zFL} {f : Nat} {v1 : Int32} (hS : zStd S) (hf : zFm f) (h : Q (some (.int (p_X3_membersOf I f v1))) S I L) : ZC G mX3_membersOf fX3_membersOf lX3_membersOf [zo G f, .int v1] S I L 0 0 Q := by
  refine ZC.of' (vX3_membersOf_0 hS hf ?_) rfl (Nat.le_of_ble_eq_true rfl) rfl
  unfold p_X3_membersOf at h
  exact h
set_option maxHeartbeats 2000000 in
theorem vX3_matesOf_0 {G : Gp} {bc bs : Nat} {Q : zPost} {S : zSh} {I : zFI} {L : zFL} {f : Nat} {v1 : Int32} (hS : zStd S) (hf : zFm f) (k : (((p_X3_isMember v1) = 0 → Q (some (.int (0 : Int32))) S I L) ∧ (¬ (p_X3_isMember v1) = 0 → vp_in v1 16 ∧ Q (some (.int (I (f + 1) v1.toNatClampNeg))) S I L))) : ZW G mX3_matesOf fX3_matesOf lX3_matesOf 0 [zo G f, .int v1] [] S I L bc bs Q := by
  refine zr_iload_n dX3_matesOf_0 rfl rfl ?_
  refine zr_callS (As := [.int v1]) (fr' := fX3_isMember) (lo' := lX3_isMember) (bc' := 0) (bs' := 0) (bcr := bc) (bsr := bs) dX3_matesOf_1 zs_X3_58 zst_X3_isMember rfl rfl (Nat.le_of_ble_eq_true rfl) (Nat.le_of_ble_eq_true rfl) (Nat.le_of_ble_eq_true rfl) (Nat.le_refl _) (Nat.le_refl _) ?_
  refine sp_X3_isMember hS  ?_
  show ZW G mX3_matesOf fX3_matesOf lX3_matesOf 4 [zo G f, .int v1] [.int (p_X3_isMember v1)] S I L bc bs Q
  refine zr_ifeq (tgt := 16) dX3_matesOf_4 (by decide) (fun hb => ?_) (fun hb => ?_)
  · have k := k.1 hb
    refine zr_iconst (v := 0) dX3_matesOf_16 (by decide) ?_
    exact zr_ireturn dX3_matesOf_17 rfl rfl k
  · have k := k.2 hb
    refine zr_aload_n dX3_matesOf_7 rfl rfl ?_
    refine zr_getR dX3_matesOf_8 zf_X3_15 rfl (hS.hasF hf 0 rfl rfl rfl) (hS.refF hf (d := 1) rfl rfl) ?_
    refine zr_iload_n dX3_matesOf_11 rfl rfl ?_
    obtain ⟨hi1, k⟩ := k
    refine zr_ialdv (x := (I (f + 1) v1.toNatClampNeg)) dX3_matesOf_12 (hS.hasF hf 1 rfl rfl rfl) hi1 rfl ?_
    refine zr_goto (tgt := 17) dX3_matesOf_13 (by decide) ?_
    exact zr_ireturn dX3_matesOf_17 rfl rfl k
def p_X3_matesOf (I : zFI) (f : Nat) (v1 : Int32) : Int32 := (if (p_X3_isMember v1) = 0 then (0 : Int32) else (I (f + 1) v1.toNatClampNeg))
set_option maxHeartbeats 2000000 in
theorem sp_X3_matesOf {G : Gp} {Q : zPost} {S : zSh} {I : zFI} {L : zFL} {f : Nat} {v1 : Int32} (hS : zStd S) (hf : zFm f) (h : Q (some (.int (p_X3_matesOf I f v1))) S I L) : ZC G mX3_matesOf fX3_matesOf lX3_matesOf [zo G f, .int v1] S I L 0 0 Q := by
  refine ZC.of' (vX3_matesOf_0 hS hf ?_) rfl (Nat.le_of_ble_eq_true rfl) rfl
  unfold p_X3_matesOf at h
  refine ⟨fun hb1 => ?_, fun hb1 => ?_⟩
  · rw [if_pos hb1] at h
    exact h
  · rw [if_neg hb1] at h
    refine ⟨zvin (m := 16) rfl (by first | lia | grind [p_X3_isMember]) (by first | lia | grind [p_X3_isMember]), ?_⟩
    exact h
set_option maxHeartbeats 2000000 in
theorem vX3_pairsOf_0 {G : Gp} {bc bs : Nat} {Q : zPost} {S : zSh} {I : zFI} {L : zFL} {f : Nat} {v1 : Int32} (hS : zStd S) (hf : zFm f) (k : Q (some (.int (p_X11_pick I (f + 4) 8 v1))) S I L) : ZW G mX3_pairsOf fX3_pairsOf lX3_pairsOf 0 [zo G f, .int v1] [] S I L bc bs Q := by
  refine zr_aload_n dX3_pairsOf_0 rfl rfl ?_
  refine zr_getR dX3_pairsOf_1 zf_X3_25 rfl (hS.hasF hf 0 rfl rfl rfl) (hS.refF hf (d := 4) rfl rfl) ?_
  refine zr_iload_n dX3_pairsOf_4 rfl rfl ?_
  refine zr_callSN (As := [zo G (f + 4), .int v1]) (fr' := fX11_pick) (lo' := lX11_pick) (bc' := 0) (bs' := 0) (bcr := bc) (bsr := bs) dX3_pairsOf_5 zsn_X3_76 zst_X11_pick rfl rfl (Nat.le_of_ble_eq_true rfl) (Nat.le_of_ble_eq_true rfl) (Nat.le_of_ble_eq_true rfl) (Nat.le_refl _) (Nat.le_refl _) ?_
  refine sp_X11_pick hS (hS.hasF hf 4 rfl rfl rfl) rfl ?_
  show ZW G mX3_pairsOf fX3_pairsOf lX3_pairsOf 8 [zo G f, .int v1] [.int (p_X11_pick I (f + 4) 8 v1)] S I L bc bs Q
  exact zr_ireturn dX3_pairsOf_8 rfl rfl k
def p_X3_pairsOf (I : zFI) (f : Nat) (v1 : Int32) : Int32 := (p_X11_pick I (f + 4) 8 v1)
set_option maxHeartbeats 2000000 in
theorem sp_X3_pairsOf {G : Gp} {Q : zPost} {S : zSh} {I : zFI} {L : zFL} {f : Nat} {v1 : Int32} (hS : zStd S) (hf : zFm f) (h : Q (some (.int (p_X3_pairsOf I f v1))) S I L) : ZC G mX3_pairsOf fX3_pairsOf lX3_pairsOf [zo G f, .int v1] S I L 0 0 Q := by
  refine ZC.of' (vX3_pairsOf_0 hS hf ?_) rfl (Nat.le_of_ble_eq_true rfl) rfl
  unfold p_X3_pairsOf at h
  exact h
set_option maxHeartbeats 2000000 in
theorem vX3_isRaised_0 {G : Gp} {bc bs : Nat} {Q : zPost} {S : zSh} {I : zFI} {L : zFL} {f : Nat} {v1 : Int32} (hS : zStd S) (hf : zFm f) (k : ((v1 < 0 → Q (some (.int (0 : Int32))) S I L) ∧ (¬ v1 < 0 → (((8 : Int32) ≤ v1 → Q (some (.int (0 : Int32))) S I L) ∧ (¬ (8 : Int32) ≤ v1 → ((¬ (((I f 5) >>> (v1 &&& 31)) &&& (1 : Int32)) = (1 : Int32) → Q (some (.int (0 : Int32))) S I L) ∧ ((((I f 5) >>> (v1 &&& 31)) &&& (1 : Int32)) = (1 : Int32) → Q (some (.int (1 : Int32))) S I L))))))) : ZW G mX3_isRaised fX3_isRaised lX3_isRaised 0 [zo G f, .int v1] [] S I L bc bs Q := by
  refine zr_iload_n dX3_isRaised_0 rfl rfl ?_
  refine zr_iflt (tgt := 26) dX3_isRaised_1 (by decide) (fun hb => ?_) (fun hb => ?_)
  · have k := k.1 hb
    refine zr_iconst (v := 0) dX3_isRaised_26 (by decide) ?_
    exact zr_ireturn dX3_isRaised_27 rfl rfl k
  · have k := k.2 hb
    refine zr_iload_n dX3_isRaised_4 rfl rfl ?_
    refine zr_bipush (v := 8) dX3_isRaised_5 (by decide) ?_
    refine zr_icge (tgt := 26) dX3_isRaised_7 (by decide) (fun hb => ?_) (fun hb => ?_)
    · have k := k.1 hb
      refine zr_iconst (v := 0) dX3_isRaised_26 (by decide) ?_
      exact zr_ireturn dX3_isRaised_27 rfl rfl k
    · have k := k.2 hb
      refine zr_aload_n dX3_isRaised_10 rfl rfl ?_
      refine zr_getIv (x := (I f 5)) dX3_isRaised_11 zf_X3_28 rfl (hS.hasF hf 0 rfl rfl rfl) rfl ?_
      refine zr_iload_n dX3_isRaised_14 rfl rfl ?_
      refine zr_ishr dX3_isRaised_15 ?_
      refine zr_iconst (v := 1) dX3_isRaised_16 (by decide) ?_
      refine zr_iand dX3_isRaised_17 ?_
      refine zr_iconst (v := 1) dX3_isRaised_18 (by decide) ?_
      refine zr_icne (tgt := 26) dX3_isRaised_19 (by decide) (fun hb => ?_) (fun hb => ?_)
      · have k := k.1 hb
        refine zr_iconst (v := 0) dX3_isRaised_26 (by decide) ?_
        exact zr_ireturn dX3_isRaised_27 rfl rfl k
      · have k := k.2 hb
        refine zr_iconst (v := 1) dX3_isRaised_22 (by decide) ?_
        refine zr_goto (tgt := 27) dX3_isRaised_23 (by decide) ?_
        exact zr_ireturn dX3_isRaised_27 rfl rfl k
def p_X3_isRaised (I : zFI) (f : Nat) (v1 : Int32) : Int32 := (if v1 < 0 then (0 : Int32) else (if (8 : Int32) ≤ v1 then (0 : Int32) else (if (((I f 5) >>> (v1 &&& 31)) &&& (1 : Int32)) = (1 : Int32) then (1 : Int32) else (0 : Int32))))
set_option maxHeartbeats 2000000 in
theorem sp_X3_isRaised {G : Gp} {Q : zPost} {S : zSh} {I : zFI} {L : zFL} {f : Nat} {v1 : Int32} (hS : zStd S) (hf : zFm f) (h : Q (some (.int (p_X3_isRaised I f v1))) S I L) : ZC G mX3_isRaised fX3_isRaised lX3_isRaised [zo G f, .int v1] S I L 0 0 Q := by
  refine ZC.of' (vX3_isRaised_0 hS hf ?_) rfl (Nat.le_of_ble_eq_true rfl) rfl
  unfold p_X3_isRaised at h
  refine ⟨fun hb1 => ?_, fun hb1 => ?_⟩
  · rw [if_pos hb1] at h
    exact h
  · rw [if_neg hb1] at h
    refine ⟨fun hb2 => ?_, fun hb2 => ?_⟩
    · rw [if_pos hb2] at h
      exact h
    · rw [if_neg hb2] at h
      refine ⟨fun hb3 => ?_, fun hb3 => ?_⟩
      · rw [if_neg hb3] at h
        exact h
      · rw [if_pos hb3] at h
        exact h
theorem pb_X3_isRaised (I : zFI) (f : Nat) (v1 : Int32) : p_X3_isRaised I f v1 = 0 ∨ p_X3_isRaised I f v1 = 1 := by
  unfold p_X3_isRaised
  repeat' split
  all_goals first | exact Or.inl rfl | exact Or.inr rfl | assumption
set_option maxHeartbeats 2000000 in
theorem vX3_keepRaising_0 {G : Gp} {bc bs : Nat} {Q : zPost} {S : zSh} {I : zFI} {L : zFL} {f : Nat} {v1 : Int32} {v2 : Int32} {v3 : Int64} (hS : zStd S) (hf : zFm f) (k : ((v1 < 0 → Q none S I L) ∧ (¬ v1 < 0 → (((8 : Int32) ≤ v1 → Q none S I L) ∧ (¬ (8 : Int32) ≤ v1 → vp_in v1 8 ∧ ZW G mX3_keepRaising fX3_keepRaising lX3_keepRaising 39 [zo G f, .int v1, .int v2, .long v3, .null, .int (0 : Int32)] [] S (u2 (u2 I f 5 ((I f 5) ||| ((1 : Int32) <<< (v1 &&& 31)))) (f + 5) v1.toNatClampNeg v2) (u2 L (f + 6) v1.toNatClampNeg v3) bc bs Q))))) : ZW G mX3_keepRaising fX3_keepRaising lX3_keepRaising 0 [zo G f, .int v1, .int v2, .long v3, .null, .null] [] S I L bc bs Q := by
  refine zr_iload_n dX3_keepRaising_0 rfl rfl ?_
  refine zr_iflt (tgt := 65) dX3_keepRaising_1 (by decide) (fun hb => ?_) (fun hb => ?_)
  · have k := k.1 hb
    exact zr_return_ dX3_keepRaising_65 rfl k
  · have k := k.2 hb
    refine zr_iload_n dX3_keepRaising_4 rfl rfl ?_
    refine zr_bipush (v := 8) dX3_keepRaising_5 (by decide) ?_
    refine zr_icge (tgt := 65) dX3_keepRaising_7 (by decide) (fun hb => ?_) (fun hb => ?_)
    · have k := k.1 hb
      exact zr_return_ dX3_keepRaising_65 rfl k
    · have k := k.2 hb
      refine zr_aload_n dX3_keepRaising_10 rfl rfl ?_
      refine zr_dup dX3_keepRaising_11 rfl ?_
      refine zr_getIv (x := (I f 5)) dX3_keepRaising_12 zf_X3_28 rfl (hS.hasF hf 0 rfl rfl rfl) rfl ?_
      refine zr_iconst (v := 1) dX3_keepRaising_15 (by decide) ?_
      refine zr_iload_n dX3_keepRaising_16 rfl rfl ?_
      refine zr_ishl dX3_keepRaising_17 ?_
      refine zr_ior dX3_keepRaising_18 ?_
      refine zr_putI dX3_keepRaising_19 zf_X3_28 rfl (hS.hasF hf 0 rfl rfl rfl) rfl rfl ?_
      refine zr_aload_n dX3_keepRaising_22 rfl rfl ?_
      refine zr_getR dX3_keepRaising_23 zf_X3_31 rfl (hS.hasF hf 0 rfl rfl rfl) (hS.refF hf (d := 5) rfl rfl) ?_
      refine zr_iload_n dX3_keepRaising_26 rfl rfl ?_
      refine zr_iload_n dX3_keepRaising_27 rfl rfl ?_
      obtain ⟨hi1, k⟩ := k
      refine zr_iast dX3_keepRaising_28 (hS.hasF hf 5 rfl rfl rfl) hi1 ?_
      refine zr_aload_n dX3_keepRaising_29 rfl rfl ?_
      refine zr_getR dX3_keepRaising_30 zf_X3_34 rfl (hS.hasF hf 0 rfl rfl rfl) (hS.refF hf (d := 6) rfl rfl) ?_
      refine zr_iload_n dX3_keepRaising_33 rfl rfl ?_
      refine zr_lload_n dX3_keepRaising_34 rfl rfl ?_
      refine zr_last dX3_keepRaising_35 (hS.hasF hf 6 rfl rfl rfl) hi1 ?_
      refine zr_iconst (v := 0) dX3_keepRaising_36 (by decide) ?_
      refine zr_istore dX3_keepRaising_37 (Nat.le_of_ble_eq_true rfl) rfl ?_
      exact k
set_option maxHeartbeats 2000000 in
theorem vX3_keepRaising_39 {G : Gp} {bc bs : Nat} {Q : zPost} {S : zSh} {I : zFI} {L : zFL} {f : Nat} {v1 : Int32} {v2 : Int32} {v3 : Int64} {v5 : Int32} (hS : zStd S) (hf : zFm f) (k : (((16 : Int32) ≤ v5 → Q none S I L) ∧ (¬ (16 : Int32) ≤ v5 → vp_in ((v1 * (16 : Int32)) + v5) 128 ∧ ZW G mX3_keepRaising fX3_keepRaising lX3_keepRaising 39 [zo G f, .int v1, .int v2, .long v3, .null, .int (v5 + 1)] [] S (u2 I (f + 7) ((v1 * (16 : Int32)) + v5).toNatClampNeg (-1 : Int32)) L bc bs Q))) : ZW G mX3_keepRaising fX3_keepRaising lX3_keepRaising 39 [zo G f, .int v1, .int v2, .long v3, .null, .int v5] [] S I L bc bs Q := by
  refine zr_iload dX3_keepRaising_39 rfl ?_
  refine zr_bipush (v := 16) dX3_keepRaising_41 (by decide) ?_
  refine zr_icge (tgt := 65) dX3_keepRaising_43 (by decide) (fun hb => ?_) (fun hb => ?_)
  · have k := k.1 hb
    exact zr_return_ dX3_keepRaising_65 rfl k
  · have k := k.2 hb
    refine zr_aload_n dX3_keepRaising_46 rfl rfl ?_
    refine zr_getR dX3_keepRaising_47 zf_X3_38 rfl (hS.hasF hf 0 rfl rfl rfl) (hS.refF hf (d := 7) rfl rfl) ?_
    refine zr_iload_n dX3_keepRaising_50 rfl rfl ?_
    refine zr_bipush (v := 16) dX3_keepRaising_51 (by decide) ?_
    refine zr_imul dX3_keepRaising_53 ?_
    refine zr_iload dX3_keepRaising_54 rfl ?_
    refine zr_iadd dX3_keepRaising_56 ?_
    refine zr_iconst (v := -1) dX3_keepRaising_57 (by decide) ?_
    obtain ⟨hi2, k⟩ := k
    refine zr_iast dX3_keepRaising_58 (hS.hasF hf 7 rfl rfl rfl) hi2 ?_
    refine zr_iinc (v := (v5 + 1)) dX3_keepRaising_59 rfl rfl (Nat.le_of_ble_eq_true rfl) rfl ?_
    refine zr_goto (tgt := 39) dX3_keepRaising_62 (by decide) ?_
    exact k
