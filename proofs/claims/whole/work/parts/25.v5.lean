set_option maxHeartbeats 2000000 in
theorem vX12_numbers_0 {G : Gp} {bc bs : Nat} {Q : zPost} {S : zSh} {I : zFI} {L : zFL} {v1 : Int32} {v2 : Int32} (hS : zStd S)  (k : ZC G mX12_markOf fX12_markOf lX12_markOf [zo G 84, .int v2] S I L 0 0 (fun w S' I1 L1 => ∃ r1 : Int32, w = some (.int r1) ∧ S = S' ∧ ZW G mX12_numbers fX12_numbers lX12_numbers 12 [zo G 84, .int v1, .int v2, .int r1, .long (0 : Int64), .null, .int (1 : Int32)] [] S I1 L1 bc bs Q)) : ZW G mX12_numbers fX12_numbers lX12_numbers 0 [zo G 84, .int v1, .int v2, .null, .null, .null, .null] [] S I L bc bs Q := by
  refine zr_aload_n dX12_numbers_0 rfl rfl ?_
  refine zr_iload_n dX12_numbers_1 rfl rfl ?_
  refine zr_callV (As := [.int v2]) (fr' := fX12_markOf) (lo' := lX12_markOf) (bc' := 0) (bs' := 0) (bcr := bc) (bsr := bs) dX12_numbers_2 zs_X12_221 zi_X12_markOf zcl_12 (hS.has (a := 84) rfl rfl) rfl rfl (Nat.le_of_ble_eq_true rfl) (Nat.le_of_ble_eq_true rfl) (Nat.le_of_ble_eq_true rfl) (Nat.le_refl _) (Nat.le_refl _) ?_
  refine ZC.mono (fun w S' I1 L1 k => ?_) k
  obtain ⟨r1, rfl, rfl, k⟩ := k
  show ZW G mX12_numbers fX12_numbers lX12_numbers 5 [zo G 84, .int v1, .int v2, .null, .null, .null, .null] [.int r1] S I1 L1 bc bs Q
  refine zr_istore_n dX12_numbers_5 rfl (Nat.le_of_ble_eq_true rfl) rfl ?_
  refine zr_lconst (v := 0) dX12_numbers_6 (by decide) ?_
  refine zr_lstore dX12_numbers_7 (Nat.le_of_ble_eq_true rfl) rfl ?_
  refine zr_iconst (v := 1) dX12_numbers_9 (by decide) ?_
  refine zr_istore dX12_numbers_10 (Nat.le_of_ble_eq_true rfl) rfl ?_
  exact k
set_option maxHeartbeats 2000000 in
theorem vX12_numbers_12 {G : Gp} {bc bs : Nat} {Q : zPost} {S : zSh} {I : zFI} {L : zFL} {v1 : Int32} {v2 : Int32} {v3 : Int32} {v4 : Int64} {v6 : Int32} (hS : zStd S)  (k : (((40 : Int32) ≤ v6 → Q (some (.long v4)) S I L) ∧ (¬ (40 : Int32) ≤ v6 → ((v3 = (-1 : Int32) → ZW G mX12_numbers fX12_numbers lX12_numbers 12 [zo G 84, .int v1, .int v2, .int v3, .long (v4 ||| ((1 : Int64) <<< (v6.toInt64 &&& 63))), .null, .int (v6 + 1)] [] S I L bc bs Q) ∧ (¬ v3 = (-1 : Int32) → vp_in v3 200 ∧ (((I 101 v3.toNatClampNeg) = 0 → ZW G mX12_numbers fX12_numbers lX12_numbers 12 [zo G 84, .int v1, .int v2, .int v3, .long (v4 ||| ((1 : Int64) <<< (v6.toInt64 &&& 63))), .null, .int (v6 + 1)] [] S I L bc bs Q) ∧ (¬ (I 101 v3.toNatClampNeg) = 0 → ZC G mX12_isNumber fX12_isNumber lX12_isNumber [zo G 84, .int v1, .int v3, .int v6] S I L 0 0 (fun w S' I1 L1 => ∃ r1 : Int32, w = some (.int r1) ∧ S = S' ∧ ((r1 = 0 → ZW G mX12_numbers fX12_numbers lX12_numbers 12 [zo G 84, .int v1, .int v2, .int v3, .long v4, .null, .int (v6 + 1)] [] S I1 L1 bc bs Q) ∧ (¬ r1 = 0 → ZW G mX12_numbers fX12_numbers lX12_numbers 12 [zo G 84, .int v1, .int v2, .int v3, .long (v4 ||| ((1 : Int64) <<< (v6.toInt64 &&& 63))), .null, .int (v6 + 1)] [] S I1 L1 bc bs Q)))))))))) : ZW G mX12_numbers fX12_numbers lX12_numbers 12 [zo G 84, .int v1, .int v2, .int v3, .long v4, .null, .int v6] [] S I L bc bs Q := by
  refine zr_iload dX12_numbers_12 rfl ?_
  refine zr_bipush (v := 40) dX12_numbers_14 (by decide) ?_
  refine zr_icge (tgt := 59) dX12_numbers_16 (by decide) (fun hb => ?_) (fun hb => ?_)
  · have k := k.1 hb
    refine zr_lload dX12_numbers_59 rfl ?_
    exact zr_lreturn dX12_numbers_61 rfl k
  · have k := k.2 hb
    refine zr_iload_n dX12_numbers_19 rfl rfl ?_
    refine zr_iconst (v := -1) dX12_numbers_20 (by decide) ?_
    refine zr_iceq (tgt := 44) dX12_numbers_21 (by decide) (fun hb => ?_) (fun hb => ?_)
    · have k := k.1 hb
      refine zr_lload dX12_numbers_44 rfl ?_
      refine zr_lconst (v := 1) dX12_numbers_46 (by decide) ?_
      refine zr_iload dX12_numbers_47 rfl ?_
      refine zr_lshl dX12_numbers_49 rfl ?_
      refine zr_lor dX12_numbers_50 ?_
      refine zr_lstore dX12_numbers_51 (Nat.le_of_ble_eq_true rfl) rfl ?_
      refine zr_iinc (v := (v6 + 1)) dX12_numbers_53 rfl rfl (Nat.le_of_ble_eq_true rfl) rfl ?_
      refine zr_goto (tgt := 12) dX12_numbers_56 (by decide) ?_
      exact k
    · have k := k.2 hb
      refine zr_aload_n dX12_numbers_24 rfl rfl ?_
      refine zr_getR dX12_numbers_25 zf_X12_63 rfl (hS.has (a := 84) rfl rfl) (hS.ref (a := 101) rfl) ?_
      refine zr_iload_n dX12_numbers_28 rfl rfl ?_
      obtain ⟨hi1, k⟩ := k
      refine zr_ialdv (x := (I 101 v3.toNatClampNeg)) dX12_numbers_29 (hS.has (a := 101) rfl rfl) hi1 rfl ?_
      refine zr_ifeq (tgt := 44) dX12_numbers_30 (by decide) (fun hb => ?_) (fun hb => ?_)
      · have k := k.1 hb
        refine zr_lload dX12_numbers_44 rfl ?_
        refine zr_lconst (v := 1) dX12_numbers_46 (by decide) ?_
        refine zr_iload dX12_numbers_47 rfl ?_
        refine zr_lshl dX12_numbers_49 rfl ?_
        refine zr_lor dX12_numbers_50 ?_
        refine zr_lstore dX12_numbers_51 (Nat.le_of_ble_eq_true rfl) rfl ?_
        refine zr_iinc (v := (v6 + 1)) dX12_numbers_53 rfl rfl (Nat.le_of_ble_eq_true rfl) rfl ?_
        refine zr_goto (tgt := 12) dX12_numbers_56 (by decide) ?_
        exact k
      · have k := k.2 hb
        refine zr_aload_n dX12_numbers_33 rfl rfl ?_
        refine zr_iload_n dX12_numbers_34 rfl rfl ?_
        refine zr_iload_n dX12_numbers_35 rfl rfl ?_
        refine zr_iload dX12_numbers_36 rfl ?_
        refine zr_callV (As := [.int v1, .int v3, .int v6]) (fr' := fX12_isNumber) (lo' := lX12_isNumber) (bc' := 0) (bs' := 0) (bcr := bc) (bsr := bs) dX12_numbers_38 zs_X12_319 zi_X12_isNumber zcl_12 (hS.has (a := 84) rfl rfl) rfl rfl (Nat.le_of_ble_eq_true rfl) (Nat.le_of_ble_eq_true rfl) (Nat.le_of_ble_eq_true rfl) (Nat.le_refl _) (Nat.le_refl _) ?_
        refine ZC.mono (fun w S' I1 L1 k => ?_) k
        obtain ⟨r1, rfl, rfl, k⟩ := k
        show ZW G mX12_numbers fX12_numbers lX12_numbers 41 [zo G 84, .int v1, .int v2, .int v3, .long v4, .null, .int v6] [.int r1] S I1 L1 bc bs Q
        refine zr_ifeq (tgt := 53) dX12_numbers_41 (by decide) (fun hb => ?_) (fun hb => ?_)
        · have k := k.1 hb
          refine zr_iinc (v := (v6 + 1)) dX12_numbers_53 rfl rfl (Nat.le_of_ble_eq_true rfl) rfl ?_
          refine zr_goto (tgt := 12) dX12_numbers_56 (by decide) ?_
          exact k
        · have k := k.2 hb
          refine zr_lload dX12_numbers_44 rfl ?_
          refine zr_lconst (v := 1) dX12_numbers_46 (by decide) ?_
          refine zr_iload dX12_numbers_47 rfl ?_
          refine zr_lshl dX12_numbers_49 rfl ?_
          refine zr_lor dX12_numbers_50 ?_
          refine zr_lstore dX12_numbers_51 (Nat.le_of_ble_eq_true rfl) rfl ?_
          refine zr_iinc (v := (v6 + 1)) dX12_numbers_53 rfl rfl (Nat.le_of_ble_eq_true rfl) rfl ?_
          refine zr_goto (tgt := 12) dX12_numbers_56 (by decide) ?_
          exact k
set_option maxHeartbeats 2000000 in
theorem vX12_reads__0 {G : Gp} {bc bs : Nat} {Q : zPost} {S : zSh} {I : zFI} {L : zFL} {v1 : Int32} {v2 : Int32} (hS : zStd S)  (k : (((p_X12_isIn v1 (0 : Int32) (1 : Int32)) = 0 → Q (some (.long (-1 : Int64))) S (u2 I 84 0 (0 : Int32)) L) ∧ (¬ (p_X12_isIn v1 (0 : Int32) (1 : Int32)) = 0 → (¬ v2 < 0 → ¬ ((u2 I 84 0 (0 : Int32)) 84 13) ≤ v2 → vp_in v2 48) ∧ (((p_X12_isJoint (u2 I 84 0 (0 : Int32)) v2) = 0 → Q (some (.long (-1 : Int64))) S (u2 I 84 0 (0 : Int32)) L) ∧ (¬ (p_X12_isJoint (u2 I 84 0 (0 : Int32)) v2) = 0 → ZC G mX12_numbers fX12_numbers lX12_numbers [zo G 84, .int v1, .int v2] S (u2 I 84 0 (0 : Int32)) L 0 0 (fun w S' I1 L1 => ∃ r1 : Int64, w = some (.long r1) ∧ S = S' ∧ Q (some (.long r1)) S I1 L1)))))) : ZW G mX12_reads_ fX12_reads_ lX12_reads_ 0 [zo G 84, .int v1, .int v2] [] S I L bc bs Q := by
  refine zr_aload_n dX12_reads__0 rfl rfl ?_
  refine zr_iconst (v := 0) dX12_reads__1 (by decide) ?_
  refine zr_putI dX12_reads__2 zf_X12_188 rfl (hS.has (a := 84) rfl rfl) rfl rfl ?_
  refine zr_aload_n dX12_reads__5 rfl rfl ?_
  refine zr_iload_n dX12_reads__6 rfl rfl ?_
  refine zr_iconst (v := 0) dX12_reads__7 (by decide) ?_
  refine zr_iconst (v := 1) dX12_reads__8 (by decide) ?_
  refine zr_callV (As := [.int v1, .int (0 : Int32), .int (1 : Int32)]) (fr' := fX12_isIn) (lo' := lX12_isIn) (bc' := 0) (bs' := 0) (bcr := bc) (bsr := bs) dX12_reads__9 zs_X12_201 zi_X12_isIn zcl_12 (hS.has (a := 84) rfl rfl) rfl rfl (Nat.le_of_ble_eq_true rfl) (Nat.le_of_ble_eq_true rfl) (Nat.le_of_ble_eq_true rfl) (Nat.le_refl _) (Nat.le_refl _) ?_
  refine sp_X12_isIn hS  ?_
  show ZW G mX12_reads_ fX12_reads_ lX12_reads_ 12 [zo G 84, .int v1, .int v2] [.int (p_X12_isIn v1 (0 : Int32) (1 : Int32))] S (u2 I 84 0 (0 : Int32)) L bc bs Q
  refine zr_ifeq (tgt := 32) dX12_reads__12 (by decide) (fun hb => ?_) (fun hb => ?_)
  · have k := k.1 hb
    refine zr_ldc2_w dX12_reads__32 zk_X12_326 ?_
    exact zr_lreturn dX12_reads__35 rfl k
  · have k := k.2 hb
    refine zr_aload_n dX12_reads__15 rfl rfl ?_
    refine zr_iload_n dX12_reads__16 rfl rfl ?_
    refine zr_callV (As := [.int v2]) (fr' := fX12_isJoint) (lo' := lX12_isJoint) (bc' := 0) (bs' := 0) (bcr := bc) (bsr := bs) dX12_reads__17 zs_X12_286 zi_X12_isJoint zcl_12 (hS.has (a := 84) rfl rfl) rfl rfl (Nat.le_of_ble_eq_true rfl) (Nat.le_of_ble_eq_true rfl) (Nat.le_of_ble_eq_true rfl) (Nat.le_refl _) (Nat.le_refl _) ?_
    obtain ⟨hq0, k⟩ := k
    refine sp_X12_isJoint hS hq0 ?_
    show ZW G mX12_reads_ fX12_reads_ lX12_reads_ 20 [zo G 84, .int v1, .int v2] [.int (p_X12_isJoint (u2 I 84 0 (0 : Int32)) v2)] S (u2 I 84 0 (0 : Int32)) L bc bs Q
    refine zr_ifeq (tgt := 32) dX12_reads__20 (by decide) (fun hb => ?_) (fun hb => ?_)
    · have k := k.1 hb
      refine zr_ldc2_w dX12_reads__32 zk_X12_326 ?_
      exact zr_lreturn dX12_reads__35 rfl k
    · have k := k.2 hb
      refine zr_aload_n dX12_reads__23 rfl rfl ?_
      refine zr_iload_n dX12_reads__24 rfl rfl ?_
      refine zr_iload_n dX12_reads__25 rfl rfl ?_
      refine zr_callV (As := [.int v1, .int v2]) (fr' := fX12_numbers) (lo' := lX12_numbers) (bc' := 0) (bs' := 0) (bcr := bc) (bsr := bs) dX12_reads__26 zs_X12_322 zi_X12_numbers zcl_12 (hS.has (a := 84) rfl rfl) rfl rfl (Nat.le_of_ble_eq_true rfl) (Nat.le_of_ble_eq_true rfl) (Nat.le_of_ble_eq_true rfl) (Nat.le_refl _) (Nat.le_refl _) ?_
      refine ZC.mono (fun w S' I1 L1 k => ?_) k
      obtain ⟨r1, rfl, rfl, k⟩ := k
      show ZW G mX12_reads_ fX12_reads_ lX12_reads_ 29 [zo G 84, .int v1, .int v2] [.long r1] S I1 L1 bc bs Q
      refine zr_goto (tgt := 35) dX12_reads__29 (by decide) ?_
      exact zr_lreturn dX12_reads__35 rfl k
set_option maxHeartbeats 2000000 in
theorem vX12_isFit_0 {G : Gp} {bc bs : Nat} {Q : zPost} {S : zSh} {I : zFI} {L : zFL} {v1 : Int32} {v2 : Int32} {v3 : Int32} (hS : zStd S)  (k : vp_in v2 48 ∧ vp_in v3 48 ∧ (((I 94 v2.toNatClampNeg) = (I 94 v3.toNatClampNeg) → Q (some (.int (0 : Int32))) S I L) ∧ (¬ (I 94 v2.toNatClampNeg) = (I 94 v3.toNatClampNeg) → vp_in (I 94 v2.toNatClampNeg) 16 ∧ vp_in (I 94 v3.toNatClampNeg) 16 ∧ vp_in (((((50 : Int32) * v1) + (10 : Int32)) + ((4 : Int32) * (I 85 (I 94 v2.toNatClampNeg).toNatClampNeg))) + (I 85 (I 94 v3.toNatClampNeg).toNatClampNeg)) 150 ∧ (((I 105 (((((50 : Int32) * v1) + (10 : Int32)) + ((4 : Int32) * (I 85 (I 94 v2.toNatClampNeg).toNatClampNeg))) + (I 85 (I 94 v3.toNatClampNeg).toNatClampNeg)).toNatClampNeg) = 0 → Q (some (.int (0 : Int32))) S I L) ∧ (¬ (I 105 (((((50 : Int32) * v1) + (10 : Int32)) + ((4 : Int32) * (I 85 (I 94 v2.toNatClampNeg).toNatClampNeg))) + (I 85 (I 94 v3.toNatClampNeg).toNatClampNeg)).toNatClampNeg) = 0 → vp_in (((50 : Int32) * v1) + (2 : Int32)) 150 ∧ ((¬ (p_X12_isIn ((I 97 v3.toNatClampNeg) - (I 97 v2.toNatClampNeg)) (0 : Int32) (I 105 (((50 : Int32) * v1) + (2 : Int32)).toNatClampNeg)) = 0 → ZC G mX12_signsOf fX12_signsOf lX12_signsOf [zo G 84, .int v2] S I L 0 0 (fun w S' I1 L1 => ∃ r1 : Int32, w = some (.int r1) ∧ S = S' ∧ ((r1 ≤ 0 → ZC G mX12_numbers fX12_numbers lX12_numbers [zo G 84, .int v1, .int v2] S I1 L1 0 0 (fun w S' I2 L2 => ∃ r2 : Int64, w = some (.long r2) ∧ S = S' ∧ ZC G mX12_numbers fX12_numbers lX12_numbers [zo G 84, .int v1, .int v3] S I2 L2 0 0 (fun w S' I3 L3 => ∃ r3 : Int64, w = some (.long r3) ∧ S = S' ∧ (((lg_cmp (r2 &&& r3) (0 : Int64)) = 0 → Q (some (.int (0 : Int32))) S I3 L3) ∧ (¬ (lg_cmp (r2 &&& r3) (0 : Int64)) = 0 → Q (some (.int (1 : Int32))) S I3 L3))))) ∧ (¬ r1 ≤ 0 → ZC G mX12_signsOf fX12_signsOf lX12_signsOf [zo G 84, .int v3] S I1 L1 0 0 (fun w S' I4 L4 => ∃ r4 : Int32, w = some (.int r4) ∧ S = S' ∧ ((r4 ≤ 0 → ZC G mX12_numbers fX12_numbers lX12_numbers [zo G 84, .int v1, .int v2] S I4 L4 0 0 (fun w S' I5 L5 => ∃ r5 : Int64, w = some (.long r5) ∧ S = S' ∧ ZC G mX12_numbers fX12_numbers lX12_numbers [zo G 84, .int v1, .int v3] S I5 L5 0 0 (fun w S' I6 L6 => ∃ r6 : Int64, w = some (.long r6) ∧ S = S' ∧ (((lg_cmp (r5 &&& r6) (0 : Int64)) = 0 → Q (some (.int (0 : Int32))) S I6 L6) ∧ (¬ (lg_cmp (r5 &&& r6) (0 : Int64)) = 0 → Q (some (.int (1 : Int32))) S I6 L6))))) ∧ (¬ r4 ≤ 0 → ZC G mX12_sideOf fX12_sideOf lX12_sideOf [zo G 84, .int v2] S I4 L4 0 0 (fun w S' I7 L7 => ∃ r7 : Int32, w = some (.int r7) ∧ S = S' ∧ ZC G mX12_sideOf fX12_sideOf lX12_sideOf [zo G 84, .int v3] S I7 L7 0 0 (fun w S' I8 L8 => ∃ r8 : Int32, w = some (.int r8) ∧ S = S' ∧ ((r7 = r8 → ZC G mX12_numbers fX12_numbers lX12_numbers [zo G 84, .int v1, .int v2] S I8 L8 0 0 (fun w S' I9 L9 => ∃ r9 : Int64, w = some (.long r9) ∧ S = S' ∧ ZC G mX12_numbers fX12_numbers lX12_numbers [zo G 84, .int v1, .int v3] S I9 L9 0 0 (fun w S' I10 L10 => ∃ r10 : Int64, w = some (.long r10) ∧ S = S' ∧ (((lg_cmp (r9 &&& r10) (0 : Int64)) = 0 → Q (some (.int (0 : Int32))) S I10 L10) ∧ (¬ (lg_cmp (r9 &&& r10) (0 : Int64)) = 0 → Q (some (.int (1 : Int32))) S I10 L10))))) ∧ (¬ r7 = r8 → Q (some (.int (0 : Int32))) S I8 L8))))))))))) ∧ ((p_X12_isIn ((I 97 v3.toNatClampNeg) - (I 97 v2.toNatClampNeg)) (0 : Int32) (I 105 (((50 : Int32) * v1) + (2 : Int32)).toNatClampNeg)) = 0 → Q (some (.int (0 : Int32))) S I L))))))) : ZW G mX12_isFit fX12_isFit lX12_isFit 0 [zo G 84, .int v1, .int v2, .int v3, .null, .null, .null] [] S I L bc bs Q := by
  refine zr_aload_n dX12_isFit_0 rfl rfl ?_
  refine zr_getR dX12_isFit_1 zf_X12_42 rfl (hS.has (a := 84) rfl rfl) (hS.ref (a := 94) rfl) ?_
  refine zr_iload_n dX12_isFit_4 rfl rfl ?_
  obtain ⟨hi1, k⟩ := k
  refine zr_ialdv (x := (I 94 v2.toNatClampNeg)) dX12_isFit_5 (hS.has (a := 94) rfl rfl) hi1 rfl ?_
  refine zr_istore dX12_isFit_6 (Nat.le_of_ble_eq_true rfl) rfl ?_
  refine zr_aload_n dX12_isFit_8 rfl rfl ?_
  refine zr_getR dX12_isFit_9 zf_X12_42 rfl (hS.has (a := 84) rfl rfl) (hS.ref (a := 94) rfl) ?_
  refine zr_iload_n dX12_isFit_12 rfl rfl ?_
  obtain ⟨hi2, k⟩ := k
  refine zr_ialdv (x := (I 94 v3.toNatClampNeg)) dX12_isFit_13 (hS.has (a := 94) rfl rfl) hi2 rfl ?_
  refine zr_istore dX12_isFit_14 (Nat.le_of_ble_eq_true rfl) rfl ?_
  refine zr_aload_n dX12_isFit_16 rfl rfl ?_
  refine zr_getR dX12_isFit_17 zf_X12_51 rfl (hS.has (a := 84) rfl rfl) (hS.ref (a := 97) rfl) ?_
  refine zr_iload_n dX12_isFit_20 rfl rfl ?_
  refine zr_ialdv (x := (I 97 v3.toNatClampNeg)) dX12_isFit_21 (hS.has (a := 97) rfl rfl) hi2 rfl ?_
  refine zr_aload_n dX12_isFit_22 rfl rfl ?_
  refine zr_getR dX12_isFit_23 zf_X12_51 rfl (hS.has (a := 84) rfl rfl) (hS.ref (a := 97) rfl) ?_
  refine zr_iload_n dX12_isFit_26 rfl rfl ?_
  refine zr_ialdv (x := (I 97 v2.toNatClampNeg)) dX12_isFit_27 (hS.has (a := 97) rfl rfl) hi1 rfl ?_
  refine zr_isub dX12_isFit_28 ?_
  refine zr_istore dX12_isFit_29 (Nat.le_of_ble_eq_true rfl) rfl ?_
  refine zr_iload dX12_isFit_31 rfl ?_
  refine zr_iload dX12_isFit_33 rfl ?_
  refine zr_iceq (tgt := 92) dX12_isFit_35 (by decide) (fun hb => ?_) (fun hb => ?_)
  · have k := k.1 hb
    refine zr_iconst (v := 0) dX12_isFit_92 (by decide) ?_
    exact zr_ireturn dX12_isFit_93 rfl rfl k
  · have k := k.2 hb
    refine zr_aload_n dX12_isFit_38 rfl rfl ?_
    refine zr_getR dX12_isFit_39 zf_X12_75 rfl (hS.has (a := 84) rfl rfl) (hS.ref (a := 105) rfl) ?_
    refine zr_bipush (v := 50) dX12_isFit_42 (by decide) ?_
    refine zr_iload_n dX12_isFit_44 rfl rfl ?_
    refine zr_imul dX12_isFit_45 ?_
    refine zr_bipush (v := 10) dX12_isFit_46 (by decide) ?_
    refine zr_iadd dX12_isFit_48 ?_
    refine zr_iconst (v := 4) dX12_isFit_49 (by decide) ?_
    refine zr_aload_n dX12_isFit_50 rfl rfl ?_
    refine zr_getR dX12_isFit_51 zf_X12_13 rfl (hS.has (a := 84) rfl rfl) (hS.ref (a := 85) rfl) ?_
    refine zr_iload dX12_isFit_54 rfl ?_
    obtain ⟨hi3, k⟩ := k
    refine zr_ialdv (x := (I 85 (I 94 v2.toNatClampNeg).toNatClampNeg)) dX12_isFit_56 (hS.has (a := 85) rfl rfl) hi3 rfl ?_
    refine zr_imul dX12_isFit_57 ?_
    refine zr_iadd dX12_isFit_58 ?_
    refine zr_aload_n dX12_isFit_59 rfl rfl ?_
    refine zr_getR dX12_isFit_60 zf_X12_13 rfl (hS.has (a := 84) rfl rfl) (hS.ref (a := 85) rfl) ?_
    refine zr_iload dX12_isFit_63 rfl ?_
    obtain ⟨hi4, k⟩ := k
    refine zr_ialdv (x := (I 85 (I 94 v3.toNatClampNeg).toNatClampNeg)) dX12_isFit_65 (hS.has (a := 85) rfl rfl) hi4 rfl ?_
    refine zr_iadd dX12_isFit_66 ?_
    obtain ⟨hi5, k⟩ := k
    refine zr_ialdv (x := (I 105 (((((50 : Int32) * v1) + (10 : Int32)) + ((4 : Int32) * (I 85 (I 94 v2.toNatClampNeg).toNatClampNeg))) + (I 85 (I 94 v3.toNatClampNeg).toNatClampNeg)).toNatClampNeg)) dX12_isFit_67 (hS.has (a := 105) rfl rfl) hi5 rfl ?_
    refine zr_ifeq (tgt := 92) dX12_isFit_68 (by decide) (fun hb => ?_) (fun hb => ?_)
    · have k := k.1 hb
      refine zr_iconst (v := 0) dX12_isFit_92 (by decide) ?_
      exact zr_ireturn dX12_isFit_93 rfl rfl k
    · have k := k.2 hb
      refine zr_aload_n dX12_isFit_71 rfl rfl ?_
      refine zr_iload dX12_isFit_72 rfl ?_
      refine zr_iconst (v := 0) dX12_isFit_74 (by decide) ?_
      refine zr_aload_n dX12_isFit_75 rfl rfl ?_
      refine zr_getR dX12_isFit_76 zf_X12_75 rfl (hS.has (a := 84) rfl rfl) (hS.ref (a := 105) rfl) ?_
      refine zr_bipush (v := 50) dX12_isFit_79 (by decide) ?_
      refine zr_iload_n dX12_isFit_81 rfl rfl ?_
      refine zr_imul dX12_isFit_82 ?_
      refine zr_iconst (v := 2) dX12_isFit_83 (by decide) ?_
      refine zr_iadd dX12_isFit_84 ?_
      obtain ⟨hi6, k⟩ := k
      refine zr_ialdv (x := (I 105 (((50 : Int32) * v1) + (2 : Int32)).toNatClampNeg)) dX12_isFit_85 (hS.has (a := 105) rfl rfl) hi6 rfl ?_
      refine zr_callV (As := [.int ((I 97 v3.toNatClampNeg) - (I 97 v2.toNatClampNeg)), .int (0 : Int32), .int (I 105 (((50 : Int32) * v1) + (2 : Int32)).toNatClampNeg)]) (fr' := fX12_isIn) (lo' := lX12_isIn) (bc' := 0) (bs' := 0) (bcr := bc) (bsr := bs) dX12_isFit_86 zs_X12_201 zi_X12_isIn zcl_12 (hS.has (a := 84) rfl rfl) rfl rfl (Nat.le_of_ble_eq_true rfl) (Nat.le_of_ble_eq_true rfl) (Nat.le_of_ble_eq_true rfl) (Nat.le_refl _) (Nat.le_refl _) ?_
      refine sp_X12_isIn hS  ?_
      show ZW G mX12_isFit fX12_isFit lX12_isFit 89 [zo G 84, .int v1, .int v2, .int v3, .int (I 94 v2.toNatClampNeg), .int (I 94 v3.toNatClampNeg), .int ((I 97 v3.toNatClampNeg) - (I 97 v2.toNatClampNeg))] [.int (p_X12_isIn ((I 97 v3.toNatClampNeg) - (I 97 v2.toNatClampNeg)) (0 : Int32) (I 105 (((50 : Int32) * v1) + (2 : Int32)).toNatClampNeg))] S I L bc bs Q
      refine zr_ifne (tgt := 94) dX12_isFit_89 (by decide) (fun hb => ?_) (fun hb => ?_)
      · have k := k.1 hb
        refine zr_aload_n dX12_isFit_94 rfl rfl ?_
        refine zr_iload_n dX12_isFit_95 rfl rfl ?_
        refine zr_callV (As := [.int v2]) (fr' := fX12_signsOf) (lo' := lX12_signsOf) (bc' := 0) (bs' := 0) (bcr := bc) (bsr := bs) dX12_isFit_96 zs_X12_298 zi_X12_signsOf zcl_12 (hS.has (a := 84) rfl rfl) rfl rfl (Nat.le_of_ble_eq_true rfl) (Nat.le_of_ble_eq_true rfl) (Nat.le_of_ble_eq_true rfl) (Nat.le_refl _) (Nat.le_refl _) ?_
        refine ZC.mono (fun w S' I1 L1 k => ?_) k
        obtain ⟨r1, rfl, rfl, k⟩ := k
        show ZW G mX12_isFit fX12_isFit lX12_isFit 99 [zo G 84, .int v1, .int v2, .int v3, .int (I 94 v2.toNatClampNeg), .int (I 94 v3.toNatClampNeg), .int ((I 97 v3.toNatClampNeg) - (I 97 v2.toNatClampNeg))] [.int r1] S I1 L1 bc bs Q
        refine zr_ifle (tgt := 125) dX12_isFit_99 (by decide) (fun hb => ?_) (fun hb => ?_)
        · have k := k.1 hb
          refine zr_aload_n dX12_isFit_125 rfl rfl ?_
          refine zr_iload_n dX12_isFit_126 rfl rfl ?_
          refine zr_iload_n dX12_isFit_127 rfl rfl ?_
          refine zr_callV (As := [.int v1, .int v2]) (fr' := fX12_numbers) (lo' := lX12_numbers) (bc' := 0) (bs' := 0) (bcr := bc) (bsr := bs) dX12_isFit_128 zs_X12_322 zi_X12_numbers zcl_12 (hS.has (a := 84) rfl rfl) rfl rfl (Nat.le_of_ble_eq_true rfl) (Nat.le_of_ble_eq_true rfl) (Nat.le_of_ble_eq_true rfl) (Nat.le_refl _) (Nat.le_refl _) ?_
          refine ZC.mono (fun w S' I2 L2 k => ?_) k
          obtain ⟨r2, rfl, rfl, k⟩ := k
          show ZW G mX12_isFit fX12_isFit lX12_isFit 131 [zo G 84, .int v1, .int v2, .int v3, .int (I 94 v2.toNatClampNeg), .int (I 94 v3.toNatClampNeg), .int ((I 97 v3.toNatClampNeg) - (I 97 v2.toNatClampNeg))] [.long r2] S I2 L2 bc bs Q
          refine zr_aload_n dX12_isFit_131 rfl rfl ?_
          refine zr_iload_n dX12_isFit_132 rfl rfl ?_
          refine zr_iload_n dX12_isFit_133 rfl rfl ?_
          refine zr_callV (As := [.int v1, .int v3]) (fr' := fX12_numbers) (lo' := lX12_numbers) (bc' := 0) (bs' := 0) (bcr := bc) (bsr := bs) dX12_isFit_134 zs_X12_322 zi_X12_numbers zcl_12 (hS.has (a := 84) rfl rfl) rfl rfl (Nat.le_of_ble_eq_true rfl) (Nat.le_of_ble_eq_true rfl) (Nat.le_of_ble_eq_true rfl) (Nat.le_refl _) (Nat.le_refl _) ?_
          refine ZC.mono (fun w S' I3 L3 k => ?_) k
          obtain ⟨r3, rfl, rfl, k⟩ := k
          show ZW G mX12_isFit fX12_isFit lX12_isFit 137 [zo G 84, .int v1, .int v2, .int v3, .int (I 94 v2.toNatClampNeg), .int (I 94 v3.toNatClampNeg), .int ((I 97 v3.toNatClampNeg) - (I 97 v2.toNatClampNeg))] [.long r3, .long r2] S I3 L3 bc bs Q
          refine zr_land dX12_isFit_137 ?_
          refine zr_lconst (v := 0) dX12_isFit_138 (by decide) ?_
          refine zr_lcmp dX12_isFit_139 ?_
          refine zr_ifeq (tgt := 147) dX12_isFit_140 (by decide) (fun hb => ?_) (fun hb => ?_)
          · have k := k.1 hb
            refine zr_iconst (v := 0) dX12_isFit_147 (by decide) ?_
            exact zr_ireturn dX12_isFit_148 rfl rfl k
          · have k := k.2 hb
            refine zr_iconst (v := 1) dX12_isFit_143 (by decide) ?_
            refine zr_goto (tgt := 148) dX12_isFit_144 (by decide) ?_
            exact zr_ireturn dX12_isFit_148 rfl rfl k
        · have k := k.2 hb
          refine zr_aload_n dX12_isFit_102 rfl rfl ?_
          refine zr_iload_n dX12_isFit_103 rfl rfl ?_
          refine zr_callV (As := [.int v3]) (fr' := fX12_signsOf) (lo' := lX12_signsOf) (bc' := 0) (bs' := 0) (bcr := bc) (bsr := bs) dX12_isFit_104 zs_X12_298 zi_X12_signsOf zcl_12 (hS.has (a := 84) rfl rfl) rfl rfl (Nat.le_of_ble_eq_true rfl) (Nat.le_of_ble_eq_true rfl) (Nat.le_of_ble_eq_true rfl) (Nat.le_refl _) (Nat.le_refl _) ?_
          refine ZC.mono (fun w S' I4 L4 k => ?_) k
          obtain ⟨r4, rfl, rfl, k⟩ := k
          show ZW G mX12_isFit fX12_isFit lX12_isFit 107 [zo G 84, .int v1, .int v2, .int v3, .int (I 94 v2.toNatClampNeg), .int (I 94 v3.toNatClampNeg), .int ((I 97 v3.toNatClampNeg) - (I 97 v2.toNatClampNeg))] [.int r4] S I4 L4 bc bs Q
          refine zr_ifle (tgt := 125) dX12_isFit_107 (by decide) (fun hb => ?_) (fun hb => ?_)
          · have k := k.1 hb
            refine zr_aload_n dX12_isFit_125 rfl rfl ?_
            refine zr_iload_n dX12_isFit_126 rfl rfl ?_
            refine zr_iload_n dX12_isFit_127 rfl rfl ?_
            refine zr_callV (As := [.int v1, .int v2]) (fr' := fX12_numbers) (lo' := lX12_numbers) (bc' := 0) (bs' := 0) (bcr := bc) (bsr := bs) dX12_isFit_128 zs_X12_322 zi_X12_numbers zcl_12 (hS.has (a := 84) rfl rfl) rfl rfl (Nat.le_of_ble_eq_true rfl) (Nat.le_of_ble_eq_true rfl) (Nat.le_of_ble_eq_true rfl) (Nat.le_refl _) (Nat.le_refl _) ?_
            refine ZC.mono (fun w S' I5 L5 k => ?_) k
            obtain ⟨r5, rfl, rfl, k⟩ := k
            show ZW G mX12_isFit fX12_isFit lX12_isFit 131 [zo G 84, .int v1, .int v2, .int v3, .int (I 94 v2.toNatClampNeg), .int (I 94 v3.toNatClampNeg), .int ((I 97 v3.toNatClampNeg) - (I 97 v2.toNatClampNeg))] [.long r5] S I5 L5 bc bs Q
            refine zr_aload_n dX12_isFit_131 rfl rfl ?_
            refine zr_iload_n dX12_isFit_132 rfl rfl ?_
            refine zr_iload_n dX12_isFit_133 rfl rfl ?_
            refine zr_callV (As := [.int v1, .int v3]) (fr' := fX12_numbers) (lo' := lX12_numbers) (bc' := 0) (bs' := 0) (bcr := bc) (bsr := bs) dX12_isFit_134 zs_X12_322 zi_X12_numbers zcl_12 (hS.has (a := 84) rfl rfl) rfl rfl (Nat.le_of_ble_eq_true rfl) (Nat.le_of_ble_eq_true rfl) (Nat.le_of_ble_eq_true rfl) (Nat.le_refl _) (Nat.le_refl _) ?_
            refine ZC.mono (fun w S' I6 L6 k => ?_) k
            obtain ⟨r6, rfl, rfl, k⟩ := k
            show ZW G mX12_isFit fX12_isFit lX12_isFit 137 [zo G 84, .int v1, .int v2, .int v3, .int (I 94 v2.toNatClampNeg), .int (I 94 v3.toNatClampNeg), .int ((I 97 v3.toNatClampNeg) - (I 97 v2.toNatClampNeg))] [.long r6, .long r5] S I6 L6 bc bs Q
            refine zr_land dX12_isFit_137 ?_
            refine zr_lconst (v := 0) dX12_isFit_138 (by decide) ?_
            refine zr_lcmp dX12_isFit_139 ?_
            refine zr_ifeq (tgt := 147) dX12_isFit_140 (by decide) (fun hb => ?_) (fun hb => ?_)
            · have k := k.1 hb
              refine zr_iconst (v := 0) dX12_isFit_147 (by decide) ?_
              exact zr_ireturn dX12_isFit_148 rfl rfl k
            · have k := k.2 hb
              refine zr_iconst (v := 1) dX12_isFit_143 (by decide) ?_
              refine zr_goto (tgt := 148) dX12_isFit_144 (by decide) ?_
              exact zr_ireturn dX12_isFit_148 rfl rfl k
          · have k := k.2 hb
            refine zr_aload_n dX12_isFit_110 rfl rfl ?_
            refine zr_iload_n dX12_isFit_111 rfl rfl ?_
            refine zr_callV (As := [.int v2]) (fr' := fX12_sideOf) (lo' := lX12_sideOf) (bc' := 0) (bs' := 0) (bcr := bc) (bsr := bs) dX12_isFit_112 zs_X12_301 zi_X12_sideOf zcl_12 (hS.has (a := 84) rfl rfl) rfl rfl (Nat.le_of_ble_eq_true rfl) (Nat.le_of_ble_eq_true rfl) (Nat.le_of_ble_eq_true rfl) (Nat.le_refl _) (Nat.le_refl _) ?_
            refine ZC.mono (fun w S' I7 L7 k => ?_) k
            obtain ⟨r7, rfl, rfl, k⟩ := k
            show ZW G mX12_isFit fX12_isFit lX12_isFit 115 [zo G 84, .int v1, .int v2, .int v3, .int (I 94 v2.toNatClampNeg), .int (I 94 v3.toNatClampNeg), .int ((I 97 v3.toNatClampNeg) - (I 97 v2.toNatClampNeg))] [.int r7] S I7 L7 bc bs Q
            refine zr_aload_n dX12_isFit_115 rfl rfl ?_
            refine zr_iload_n dX12_isFit_116 rfl rfl ?_
            refine zr_callV (As := [.int v3]) (fr' := fX12_sideOf) (lo' := lX12_sideOf) (bc' := 0) (bs' := 0) (bcr := bc) (bsr := bs) dX12_isFit_117 zs_X12_301 zi_X12_sideOf zcl_12 (hS.has (a := 84) rfl rfl) rfl rfl (Nat.le_of_ble_eq_true rfl) (Nat.le_of_ble_eq_true rfl) (Nat.le_of_ble_eq_true rfl) (Nat.le_refl _) (Nat.le_refl _) ?_
            refine ZC.mono (fun w S' I8 L8 k => ?_) k
            obtain ⟨r8, rfl, rfl, k⟩ := k
            show ZW G mX12_isFit fX12_isFit lX12_isFit 120 [zo G 84, .int v1, .int v2, .int v3, .int (I 94 v2.toNatClampNeg), .int (I 94 v3.toNatClampNeg), .int ((I 97 v3.toNatClampNeg) - (I 97 v2.toNatClampNeg))] [.int r8, .int r7] S I8 L8 bc bs Q
            refine zr_iceq (tgt := 125) dX12_isFit_120 (by decide) (fun hb => ?_) (fun hb => ?_)
            · have k := k.1 hb
              refine zr_aload_n dX12_isFit_125 rfl rfl ?_
              refine zr_iload_n dX12_isFit_126 rfl rfl ?_
              refine zr_iload_n dX12_isFit_127 rfl rfl ?_
              refine zr_callV (As := [.int v1, .int v2]) (fr' := fX12_numbers) (lo' := lX12_numbers) (bc' := 0) (bs' := 0) (bcr := bc) (bsr := bs) dX12_isFit_128 zs_X12_322 zi_X12_numbers zcl_12 (hS.has (a := 84) rfl rfl) rfl rfl (Nat.le_of_ble_eq_true rfl) (Nat.le_of_ble_eq_true rfl) (Nat.le_of_ble_eq_true rfl) (Nat.le_refl _) (Nat.le_refl _) ?_
              refine ZC.mono (fun w S' I9 L9 k => ?_) k
              obtain ⟨r9, rfl, rfl, k⟩ := k
              show ZW G mX12_isFit fX12_isFit lX12_isFit 131 [zo G 84, .int v1, .int v2, .int v3, .int (I 94 v2.toNatClampNeg), .int (I 94 v3.toNatClampNeg), .int ((I 97 v3.toNatClampNeg) - (I 97 v2.toNatClampNeg))] [.long r9] S I9 L9 bc bs Q
              refine zr_aload_n dX12_isFit_131 rfl rfl ?_
              refine zr_iload_n dX12_isFit_132 rfl rfl ?_
              refine zr_iload_n dX12_isFit_133 rfl rfl ?_
              refine zr_callV (As := [.int v1, .int v3]) (fr' := fX12_numbers) (lo' := lX12_numbers) (bc' := 0) (bs' := 0) (bcr := bc) (bsr := bs) dX12_isFit_134 zs_X12_322 zi_X12_numbers zcl_12 (hS.has (a := 84) rfl rfl) rfl rfl (Nat.le_of_ble_eq_true rfl) (Nat.le_of_ble_eq_true rfl) (Nat.le_of_ble_eq_true rfl) (Nat.le_refl _) (Nat.le_refl _) ?_
              refine ZC.mono (fun w S' I10 L10 k => ?_) k
              obtain ⟨r10, rfl, rfl, k⟩ := k
              show ZW G mX12_isFit fX12_isFit lX12_isFit 137 [zo G 84, .int v1, .int v2, .int v3, .int (I 94 v2.toNatClampNeg), .int (I 94 v3.toNatClampNeg), .int ((I 97 v3.toNatClampNeg) - (I 97 v2.toNatClampNeg))] [.long r10, .long r9] S I10 L10 bc bs Q
              refine zr_land dX12_isFit_137 ?_
              refine zr_lconst (v := 0) dX12_isFit_138 (by decide) ?_
              refine zr_lcmp dX12_isFit_139 ?_
              refine zr_ifeq (tgt := 147) dX12_isFit_140 (by decide) (fun hb => ?_) (fun hb => ?_)
              · have k := k.1 hb
                refine zr_iconst (v := 0) dX12_isFit_147 (by decide) ?_
                exact zr_ireturn dX12_isFit_148 rfl rfl k
              · have k := k.2 hb
                refine zr_iconst (v := 1) dX12_isFit_143 (by decide) ?_
                refine zr_goto (tgt := 148) dX12_isFit_144 (by decide) ?_
                exact zr_ireturn dX12_isFit_148 rfl rfl k
            · have k := k.2 hb
              refine zr_iconst (v := 0) dX12_isFit_123 (by decide) ?_
              exact zr_ireturn dX12_isFit_124 rfl rfl k
      · have k := k.2 hb
        refine zr_iconst (v := 0) dX12_isFit_92 (by decide) ?_
        exact zr_ireturn dX12_isFit_93 rfl rfl k
set_option maxHeartbeats 2000000 in
theorem vX12_fits_0 {G : Gp} {bc bs : Nat} {Q : zPost} {S : zSh} {I : zFI} {L : zFL} {v1 : Int32} {v2 : Int32} {v3 : Int32} (hS : zStd S)  (k : (((p_X12_isIn v1 (0 : Int32) (1 : Int32)) = 0 → Q (some (.int (-1 : Int32))) S (u2 I 84 0 (0 : Int32)) L) ∧ (¬ (p_X12_isIn v1 (0 : Int32) (1 : Int32)) = 0 → (¬ v2 < 0 → ¬ ((u2 I 84 0 (0 : Int32)) 84 13) ≤ v2 → vp_in v2 48) ∧ (((p_X12_isJoint (u2 I 84 0 (0 : Int32)) v2) = 0 → Q (some (.int (-1 : Int32))) S (u2 I 84 0 (0 : Int32)) L) ∧ (¬ (p_X12_isJoint (u2 I 84 0 (0 : Int32)) v2) = 0 → (¬ v3 < 0 → ¬ ((u2 I 84 0 (0 : Int32)) 84 13) ≤ v3 → vp_in v3 48) ∧ (((p_X12_isJoint (u2 I 84 0 (0 : Int32)) v3) = 0 → Q (some (.int (-1 : Int32))) S (u2 I 84 0 (0 : Int32)) L) ∧ (¬ (p_X12_isJoint (u2 I 84 0 (0 : Int32)) v3) = 0 → vp_in v2 48 ∧ ((¬ (I 96 v2.toNatClampNeg) = 0 → Q (some (.int (-1 : Int32))) S (u2 I 84 0 (0 : Int32)) L) ∧ ((I 96 v2.toNatClampNeg) = 0 → vp_in v3 48 ∧ (((I 96 v3.toNatClampNeg) = (1 : Int32) → ZC G mX12_isFit fX12_isFit lX12_isFit [zo G 84, .int v1, .int v2, .int v3] S (u2 I 84 0 (0 : Int32)) L 0 0 (fun w S' I1 L1 => ∃ r1 : Int32, w = some (.int r1) ∧ S = S' ∧ ((r1 = 0 → Q (some (.int (0 : Int32))) S I1 L1) ∧ (¬ r1 = 0 → Q (some (.int (1 : Int32))) S I1 L1)))) ∧ (¬ (I 96 v3.toNatClampNeg) = (1 : Int32) → Q (some (.int (-1 : Int32))) S (u2 I 84 0 (0 : Int32)) L))))))))))) : ZW G mX12_fits fX12_fits lX12_fits 0 [zo G 84, .int v1, .int v2, .int v3] [] S I L bc bs Q := by
  refine zr_aload_n dX12_fits_0 rfl rfl ?_
  refine zr_iconst (v := 0) dX12_fits_1 (by decide) ?_
  refine zr_putI dX12_fits_2 zf_X12_188 rfl (hS.has (a := 84) rfl rfl) rfl rfl ?_
  refine zr_aload_n dX12_fits_5 rfl rfl ?_
  refine zr_iload_n dX12_fits_6 rfl rfl ?_
  refine zr_iconst (v := 0) dX12_fits_7 (by decide) ?_
  refine zr_iconst (v := 1) dX12_fits_8 (by decide) ?_
  refine zr_callV (As := [.int v1, .int (0 : Int32), .int (1 : Int32)]) (fr' := fX12_isIn) (lo' := lX12_isIn) (bc' := 0) (bs' := 0) (bcr := bc) (bsr := bs) dX12_fits_9 zs_X12_201 zi_X12_isIn zcl_12 (hS.has (a := 84) rfl rfl) rfl rfl (Nat.le_of_ble_eq_true rfl) (Nat.le_of_ble_eq_true rfl) (Nat.le_of_ble_eq_true rfl) (Nat.le_refl _) (Nat.le_refl _) ?_
  refine sp_X12_isIn hS  ?_
  show ZW G mX12_fits fX12_fits lX12_fits 12 [zo G 84, .int v1, .int v2, .int v3] [.int (p_X12_isIn v1 (0 : Int32) (1 : Int32))] S (u2 I 84 0 (0 : Int32)) L bc bs Q
  refine zr_ifeq (tgt := 50) dX12_fits_12 (by decide) (fun hb => ?_) (fun hb => ?_)
  · have k := k.1 hb
    refine zr_iconst (v := -1) dX12_fits_50 (by decide) ?_
    exact zr_ireturn dX12_fits_51 rfl rfl k
  · have k := k.2 hb
    refine zr_aload_n dX12_fits_15 rfl rfl ?_
    refine zr_iload_n dX12_fits_16 rfl rfl ?_
    refine zr_callV (As := [.int v2]) (fr' := fX12_isJoint) (lo' := lX12_isJoint) (bc' := 0) (bs' := 0) (bcr := bc) (bsr := bs) dX12_fits_17 zs_X12_286 zi_X12_isJoint zcl_12 (hS.has (a := 84) rfl rfl) rfl rfl (Nat.le_of_ble_eq_true rfl) (Nat.le_of_ble_eq_true rfl) (Nat.le_of_ble_eq_true rfl) (Nat.le_refl _) (Nat.le_refl _) ?_
    obtain ⟨hq0, k⟩ := k
    refine sp_X12_isJoint hS hq0 ?_
    show ZW G mX12_fits fX12_fits lX12_fits 20 [zo G 84, .int v1, .int v2, .int v3] [.int (p_X12_isJoint (u2 I 84 0 (0 : Int32)) v2)] S (u2 I 84 0 (0 : Int32)) L bc bs Q
    refine zr_ifeq (tgt := 50) dX12_fits_20 (by decide) (fun hb => ?_) (fun hb => ?_)
    · have k := k.1 hb
      refine zr_iconst (v := -1) dX12_fits_50 (by decide) ?_
      exact zr_ireturn dX12_fits_51 rfl rfl k
    · have k := k.2 hb
      refine zr_aload_n dX12_fits_23 rfl rfl ?_
      refine zr_iload_n dX12_fits_24 rfl rfl ?_
      refine zr_callV (As := [.int v3]) (fr' := fX12_isJoint) (lo' := lX12_isJoint) (bc' := 0) (bs' := 0) (bcr := bc) (bsr := bs) dX12_fits_25 zs_X12_286 zi_X12_isJoint zcl_12 (hS.has (a := 84) rfl rfl) rfl rfl (Nat.le_of_ble_eq_true rfl) (Nat.le_of_ble_eq_true rfl) (Nat.le_of_ble_eq_true rfl) (Nat.le_refl _) (Nat.le_refl _) ?_
      obtain ⟨hq0, k⟩ := k
      refine sp_X12_isJoint hS hq0 ?_
      show ZW G mX12_fits fX12_fits lX12_fits 28 [zo G 84, .int v1, .int v2, .int v3] [.int (p_X12_isJoint (u2 I 84 0 (0 : Int32)) v3)] S (u2 I 84 0 (0 : Int32)) L bc bs Q
      refine zr_ifeq (tgt := 50) dX12_fits_28 (by decide) (fun hb => ?_) (fun hb => ?_)
      · have k := k.1 hb
        refine zr_iconst (v := -1) dX12_fits_50 (by decide) ?_
        exact zr_ireturn dX12_fits_51 rfl rfl k
      · have k := k.2 hb
        refine zr_aload_n dX12_fits_31 rfl rfl ?_
        refine zr_getR dX12_fits_32 zf_X12_48 rfl (hS.has (a := 84) rfl rfl) (hS.ref (a := 96) rfl) ?_
        refine zr_iload_n dX12_fits_35 rfl rfl ?_
        obtain ⟨hi1, k⟩ := k
        refine zr_ialdv (x := (I 96 v2.toNatClampNeg)) dX12_fits_36 (hS.has (a := 96) rfl rfl) hi1 rfl ?_
        refine zr_ifne (tgt := 50) dX12_fits_37 (by decide) (fun hb => ?_) (fun hb => ?_)
        · have k := k.1 hb
          refine zr_iconst (v := -1) dX12_fits_50 (by decide) ?_
          exact zr_ireturn dX12_fits_51 rfl rfl k
        · have k := k.2 hb
          refine zr_aload_n dX12_fits_40 rfl rfl ?_
          refine zr_getR dX12_fits_41 zf_X12_48 rfl (hS.has (a := 84) rfl rfl) (hS.ref (a := 96) rfl) ?_
          refine zr_iload_n dX12_fits_44 rfl rfl ?_
          obtain ⟨hi2, k⟩ := k
          refine zr_ialdv (x := (I 96 v3.toNatClampNeg)) dX12_fits_45 (hS.has (a := 96) rfl rfl) hi2 rfl ?_
          refine zr_iconst (v := 1) dX12_fits_46 (by decide) ?_
          refine zr_iceq (tgt := 52) dX12_fits_47 (by decide) (fun hb => ?_) (fun hb => ?_)
          · have k := k.1 hb
            refine zr_aload_n dX12_fits_52 rfl rfl ?_
            refine zr_iload_n dX12_fits_53 rfl rfl ?_
            refine zr_iload_n dX12_fits_54 rfl rfl ?_
            refine zr_iload_n dX12_fits_55 rfl rfl ?_
            refine zr_callV (As := [.int v1, .int v2, .int v3]) (fr' := fX12_isFit) (lo' := lX12_isFit) (bc' := 0) (bs' := 0) (bcr := bc) (bsr := bs) dX12_fits_56 zs_X12_328 zi_X12_isFit zcl_12 (hS.has (a := 84) rfl rfl) rfl rfl (Nat.le_of_ble_eq_true rfl) (Nat.le_of_ble_eq_true rfl) (Nat.le_of_ble_eq_true rfl) (Nat.le_refl _) (Nat.le_refl _) ?_
            refine ZC.mono (fun w S' I1 L1 k => ?_) k
            obtain ⟨r1, rfl, rfl, k⟩ := k
            show ZW G mX12_fits fX12_fits lX12_fits 59 [zo G 84, .int v1, .int v2, .int v3] [.int r1] S I1 L1 bc bs Q
            refine zr_ifeq (tgt := 66) dX12_fits_59 (by decide) (fun hb => ?_) (fun hb => ?_)
            · have k := k.1 hb
              refine zr_iconst (v := 0) dX12_fits_66 (by decide) ?_
              exact zr_ireturn dX12_fits_67 rfl rfl k
            · have k := k.2 hb
              refine zr_iconst (v := 1) dX12_fits_62 (by decide) ?_
              refine zr_goto (tgt := 67) dX12_fits_63 (by decide) ?_
              exact zr_ireturn dX12_fits_67 rfl rfl k
          · have k := k.2 hb
            refine zr_iconst (v := -1) dX12_fits_50 (by decide) ?_
            exact zr_ireturn dX12_fits_51 rfl rfl k
set_option maxHeartbeats 2000000 in
theorem vX12_findRows_0 {G : Gp} {bc bs : Nat} {Q : zPost} {S : zSh} {I : zFI} {L : zFL} {v1 : Int32} (hS : zStd S)  (k : ZW G mX12_findRows fX12_findRows lX12_findRows 12 [zo G 84, .int v1, .int (0 : Int32), .null] [] S (u2 (u2 I 84 42 (0 : Int32)) 84 43 (0 : Int32)) L bc bs Q) : ZW G mX12_findRows fX12_findRows lX12_findRows 0 [zo G 84, .int v1, .null, .null] [] S I L bc bs Q := by
  refine zr_aload_n dX12_findRows_0 rfl rfl ?_
  refine zr_iconst (v := 0) dX12_findRows_1 (by decide) ?_
  refine zr_putI dX12_findRows_2 zf_X12_331 rfl (hS.has (a := 84) rfl rfl) rfl rfl ?_
  refine zr_aload_n dX12_findRows_5 rfl rfl ?_
  refine zr_iconst (v := 0) dX12_findRows_6 (by decide) ?_
  refine zr_putI dX12_findRows_7 zf_X12_334 rfl (hS.has (a := 84) rfl rfl) rfl rfl ?_
  refine zr_iconst (v := 0) dX12_findRows_10 (by decide) ?_
  refine zr_istore_n dX12_findRows_11 rfl (Nat.le_of_ble_eq_true rfl) rfl ?_
  exact k
set_option maxHeartbeats 2000000 in
theorem vX12_findRows_12 {G : Gp} {bc bs : Nat} {Q : zPost} {S : zSh} {I : zFI} {L : zFL} {v1 : Int32} {v2 : Int32} (hS : zStd S)  (k : (((I 84 13) ≤ v2 → ZW G mX12_findRows fX12_findRows lX12_findRows 106 [zo G 84, .int v1, .int (0 : Int32), .null] [] S I L bc bs Q) ∧ (¬ (I 84 13) ≤ v2 → (¬ v2 < 0 → ¬ (I 84 13) ≤ v2 → vp_in v2 48) ∧ (((p_X12_isJoint I v2) = 0 → ZW G mX12_findRows fX12_findRows lX12_findRows 12 [zo G 84, .int v1, .int (v2 + 1), .null] [] S I L bc bs Q) ∧ (¬ (p_X12_isJoint I v2) = 0 → ((¬ v1 = (1 : Int32) → vp_in v2 48 ∧ ((¬ (I 96 v2.toNatClampNeg) = 0 → vp_in (I 84 43) 48 ∧ ZW G mX12_findRows fX12_findRows lX12_findRows 12 [zo G 84, .int v1, .int (v2 + 1), .null] [] S (u2 (u2 I 109 (I 84 43).toNatClampNeg v2) 84 43 ((I 84 43) + (1 : Int32))) L bc bs Q) ∧ ((I 96 v2.toNatClampNeg) = 0 → vp_in (I 84 42) 48 ∧ ZW G mX12_findRows fX12_findRows lX12_findRows 12 [zo G 84, .int v1, .int (v2 + 1), .null] [] S (u2 (u2 I 108 (I 84 42).toNatClampNeg v2) 84 42 ((I 84 42) + (1 : Int32))) L bc bs Q))) ∧ (v1 = (1 : Int32) → vp_in v2 96 ∧ (((I 119 v2.toNatClampNeg) = (-1 : Int32) → vp_in v2 48 ∧ ((¬ (I 96 v2.toNatClampNeg) = 0 → vp_in (I 84 43) 48 ∧ ZW G mX12_findRows fX12_findRows lX12_findRows 12 [zo G 84, .int v1, .int (v2 + 1), .null] [] S (u2 (u2 I 109 (I 84 43).toNatClampNeg v2) 84 43 ((I 84 43) + (1 : Int32))) L bc bs Q) ∧ ((I 96 v2.toNatClampNeg) = 0 → vp_in (I 84 42) 48 ∧ ZW G mX12_findRows fX12_findRows lX12_findRows 12 [zo G 84, .int v1, .int (v2 + 1), .null] [] S (u2 (u2 I 108 (I 84 42).toNatClampNeg v2) 84 42 ((I 84 42) + (1 : Int32))) L bc bs Q))) ∧ (¬ (I 119 v2.toNatClampNeg) = (-1 : Int32) → ZW G mX12_findRows fX12_findRows lX12_findRows 12 [zo G 84, .int v1, .int (v2 + 1), .null] [] S I L bc bs Q))))))))) : ZW G mX12_findRows fX12_findRows lX12_findRows 12 [zo G 84, .int v1, .int v2, .null] [] S I L bc bs Q := by
  refine zr_iload_n dX12_findRows_12 rfl rfl ?_
  refine zr_aload_n dX12_findRows_13 rfl rfl ?_
  refine zr_getIv (x := (I 84 13)) dX12_findRows_14 zf_X12_198 rfl (hS.has (a := 84) rfl rfl) rfl ?_
  refine zr_icge (tgt := 104) dX12_findRows_17 (by decide) (fun hb => ?_) (fun hb => ?_)
  · have k := k.1 hb
    refine zr_iconst (v := 0) dX12_findRows_104 (by decide) ?_
    refine zr_istore_n dX12_findRows_105 rfl (Nat.le_of_ble_eq_true rfl) rfl ?_
    exact k
  · have k := k.2 hb
    refine zr_aload_n dX12_findRows_20 rfl rfl ?_
    refine zr_iload_n dX12_findRows_21 rfl rfl ?_
    refine zr_callV (As := [.int v2]) (fr' := fX12_isJoint) (lo' := lX12_isJoint) (bc' := 0) (bs' := 0) (bcr := bc) (bsr := bs) dX12_findRows_22 zs_X12_286 zi_X12_isJoint zcl_12 (hS.has (a := 84) rfl rfl) rfl rfl (Nat.le_of_ble_eq_true rfl) (Nat.le_of_ble_eq_true rfl) (Nat.le_of_ble_eq_true rfl) (Nat.le_refl _) (Nat.le_refl _) ?_
    obtain ⟨hq0, k⟩ := k
    refine sp_X12_isJoint hS hq0 ?_
    show ZW G mX12_findRows fX12_findRows lX12_findRows 25 [zo G 84, .int v1, .int v2, .null] [.int (p_X12_isJoint I v2)] S I L bc bs Q
    refine zr_ifeq (tgt := 98) dX12_findRows_25 (by decide) (fun hb => ?_) (fun hb => ?_)
    · have k := k.1 hb
      refine zr_iinc (v := (v2 + 1)) dX12_findRows_98 rfl rfl (Nat.le_of_ble_eq_true rfl) rfl ?_
      refine zr_goto (tgt := 12) dX12_findRows_101 (by decide) ?_
      exact k
    · have k := k.2 hb
      refine zr_iload_n dX12_findRows_28 rfl rfl ?_
      refine zr_iconst (v := 1) dX12_findRows_29 (by decide) ?_
      refine zr_icne (tgt := 46) dX12_findRows_30 (by decide) (fun hb => ?_) (fun hb => ?_)
      · have k := k.1 hb
        refine zr_aload_n dX12_findRows_46 rfl rfl ?_
        refine zr_getR dX12_findRows_47 zf_X12_48 rfl (hS.has (a := 84) rfl rfl) (hS.ref (a := 96) rfl) ?_
        refine zr_iload_n dX12_findRows_50 rfl rfl ?_
        obtain ⟨hi1, k⟩ := k
        refine zr_ialdv (x := (I 96 v2.toNatClampNeg)) dX12_findRows_51 (hS.has (a := 96) rfl rfl) hi1 rfl ?_
        refine zr_ifne (tgt := 78) dX12_findRows_52 (by decide) (fun hb => ?_) (fun hb => ?_)
        · have k := k.1 hb
          refine zr_aload_n dX12_findRows_78 rfl rfl ?_
          refine zr_getR dX12_findRows_79 zf_X12_90 rfl (hS.has (a := 84) rfl rfl) (hS.ref (a := 109) rfl) ?_
          refine zr_aload_n dX12_findRows_82 rfl rfl ?_
          refine zr_getIv (x := (I 84 43)) dX12_findRows_83 zf_X12_334 rfl (hS.has (a := 84) rfl rfl) rfl ?_
          refine zr_iload_n dX12_findRows_86 rfl rfl ?_
          obtain ⟨hi2, k⟩ := k
          refine zr_iast dX12_findRows_87 (hS.has (a := 109) rfl rfl) hi2 ?_
          refine zr_aload_n dX12_findRows_88 rfl rfl ?_
          refine zr_aload_n dX12_findRows_89 rfl rfl ?_
          refine zr_getIv (x := (I 84 43)) dX12_findRows_90 zf_X12_334 rfl (hS.has (a := 84) rfl rfl) rfl ?_
          refine zr_iconst (v := 1) dX12_findRows_93 (by decide) ?_
          refine zr_iadd dX12_findRows_94 ?_
          refine zr_putI dX12_findRows_95 zf_X12_334 rfl (hS.has (a := 84) rfl rfl) rfl rfl ?_
          refine zr_iinc (v := (v2 + 1)) dX12_findRows_98 rfl rfl (Nat.le_of_ble_eq_true rfl) rfl ?_
          refine zr_goto (tgt := 12) dX12_findRows_101 (by decide) ?_
          exact k
        · have k := k.2 hb
          refine zr_aload_n dX12_findRows_55 rfl rfl ?_
          refine zr_getR dX12_findRows_56 zf_X12_87 rfl (hS.has (a := 84) rfl rfl) (hS.ref (a := 108) rfl) ?_
          refine zr_aload_n dX12_findRows_59 rfl rfl ?_
          refine zr_getIv (x := (I 84 42)) dX12_findRows_60 zf_X12_331 rfl (hS.has (a := 84) rfl rfl) rfl ?_
          refine zr_iload_n dX12_findRows_63 rfl rfl ?_
          obtain ⟨hi3, k⟩ := k
          refine zr_iast dX12_findRows_64 (hS.has (a := 108) rfl rfl) hi3 ?_
          refine zr_aload_n dX12_findRows_65 rfl rfl ?_
          refine zr_aload_n dX12_findRows_66 rfl rfl ?_
          refine zr_getIv (x := (I 84 42)) dX12_findRows_67 zf_X12_331 rfl (hS.has (a := 84) rfl rfl) rfl ?_
          refine zr_iconst (v := 1) dX12_findRows_70 (by decide) ?_
          refine zr_iadd dX12_findRows_71 ?_
          refine zr_putI dX12_findRows_72 zf_X12_331 rfl (hS.has (a := 84) rfl rfl) rfl rfl ?_
          refine zr_goto (tgt := 98) dX12_findRows_75 (by decide) ?_
          refine zr_iinc (v := (v2 + 1)) dX12_findRows_98 rfl rfl (Nat.le_of_ble_eq_true rfl) rfl ?_
          refine zr_goto (tgt := 12) dX12_findRows_101 (by decide) ?_
          exact k
      · have k := k.2 hb
        refine zr_aload_n dX12_findRows_33 rfl rfl ?_
        refine zr_getR dX12_findRows_34 zf_X12_126 rfl (hS.has (a := 84) rfl rfl) (hS.ref (a := 119) rfl) ?_
        refine zr_iload_n dX12_findRows_37 rfl rfl ?_
        obtain ⟨hi4, k⟩ := k
        refine zr_ialdv (x := (I 119 v2.toNatClampNeg)) dX12_findRows_38 (hS.has (a := 119) rfl rfl) hi4 rfl ?_
        refine zr_iconst (v := -1) dX12_findRows_39 (by decide) ?_
        refine zr_iceq (tgt := 46) dX12_findRows_40 (by decide) (fun hb => ?_) (fun hb => ?_)
        · have k := k.1 hb
          refine zr_aload_n dX12_findRows_46 rfl rfl ?_
          refine zr_getR dX12_findRows_47 zf_X12_48 rfl (hS.has (a := 84) rfl rfl) (hS.ref (a := 96) rfl) ?_
          refine zr_iload_n dX12_findRows_50 rfl rfl ?_
          obtain ⟨hi5, k⟩ := k
          refine zr_ialdv (x := (I 96 v2.toNatClampNeg)) dX12_findRows_51 (hS.has (a := 96) rfl rfl) hi5 rfl ?_
          refine zr_ifne (tgt := 78) dX12_findRows_52 (by decide) (fun hb => ?_) (fun hb => ?_)
          · have k := k.1 hb
            refine zr_aload_n dX12_findRows_78 rfl rfl ?_
            refine zr_getR dX12_findRows_79 zf_X12_90 rfl (hS.has (a := 84) rfl rfl) (hS.ref (a := 109) rfl) ?_
            refine zr_aload_n dX12_findRows_82 rfl rfl ?_
            refine zr_getIv (x := (I 84 43)) dX12_findRows_83 zf_X12_334 rfl (hS.has (a := 84) rfl rfl) rfl ?_
            refine zr_iload_n dX12_findRows_86 rfl rfl ?_
            obtain ⟨hi6, k⟩ := k
            refine zr_iast dX12_findRows_87 (hS.has (a := 109) rfl rfl) hi6 ?_
            refine zr_aload_n dX12_findRows_88 rfl rfl ?_
            refine zr_aload_n dX12_findRows_89 rfl rfl ?_
            refine zr_getIv (x := (I 84 43)) dX12_findRows_90 zf_X12_334 rfl (hS.has (a := 84) rfl rfl) rfl ?_
            refine zr_iconst (v := 1) dX12_findRows_93 (by decide) ?_
            refine zr_iadd dX12_findRows_94 ?_
            refine zr_putI dX12_findRows_95 zf_X12_334 rfl (hS.has (a := 84) rfl rfl) rfl rfl ?_
            refine zr_iinc (v := (v2 + 1)) dX12_findRows_98 rfl rfl (Nat.le_of_ble_eq_true rfl) rfl ?_
            refine zr_goto (tgt := 12) dX12_findRows_101 (by decide) ?_
            exact k
          · have k := k.2 hb
            refine zr_aload_n dX12_findRows_55 rfl rfl ?_
            refine zr_getR dX12_findRows_56 zf_X12_87 rfl (hS.has (a := 84) rfl rfl) (hS.ref (a := 108) rfl) ?_
            refine zr_aload_n dX12_findRows_59 rfl rfl ?_
            refine zr_getIv (x := (I 84 42)) dX12_findRows_60 zf_X12_331 rfl (hS.has (a := 84) rfl rfl) rfl ?_
            refine zr_iload_n dX12_findRows_63 rfl rfl ?_
            obtain ⟨hi7, k⟩ := k
            refine zr_iast dX12_findRows_64 (hS.has (a := 108) rfl rfl) hi7 ?_
            refine zr_aload_n dX12_findRows_65 rfl rfl ?_
            refine zr_aload_n dX12_findRows_66 rfl rfl ?_
            refine zr_getIv (x := (I 84 42)) dX12_findRows_67 zf_X12_331 rfl (hS.has (a := 84) rfl rfl) rfl ?_
            refine zr_iconst (v := 1) dX12_findRows_70 (by decide) ?_
            refine zr_iadd dX12_findRows_71 ?_
            refine zr_putI dX12_findRows_72 zf_X12_331 rfl (hS.has (a := 84) rfl rfl) rfl rfl ?_
            refine zr_goto (tgt := 98) dX12_findRows_75 (by decide) ?_
            refine zr_iinc (v := (v2 + 1)) dX12_findRows_98 rfl rfl (Nat.le_of_ble_eq_true rfl) rfl ?_
            refine zr_goto (tgt := 12) dX12_findRows_101 (by decide) ?_
            exact k
        · have k := k.2 hb
          refine zr_goto (tgt := 98) dX12_findRows_43 (by decide) ?_
          refine zr_iinc (v := (v2 + 1)) dX12_findRows_98 rfl rfl (Nat.le_of_ble_eq_true rfl) rfl ?_
          refine zr_goto (tgt := 12) dX12_findRows_101 (by decide) ?_
          exact k
set_option maxHeartbeats 2000000 in
theorem vX12_findRows_106 {G : Gp} {bc bs : Nat} {Q : zPost} {S : zSh} {I : zFI} {L : zFL} {v1 : Int32} {v2 : Int32} (hS : zStd S)  (k : (((I 84 42) ≤ v2 → ZW G mX12_findRows fX12_findRows lX12_findRows 210 [zo G 84, .int v1, .int (0 : Int32), .null] [] S I L bc bs Q) ∧ (¬ (I 84 42) ≤ v2 → vp_in v2 48 ∧ ZW G mX12_findRows fX12_findRows lX12_findRows 130 [zo G 84, .int v1, .int v2, .int (0 : Int32)] [] S (u2 (u2 I 111 v2.toNatClampNeg (-1 : Int32)) 114 v2.toNatClampNeg (0 : Int32)) L bc bs Q))) : ZW G mX12_findRows fX12_findRows lX12_findRows 106 [zo G 84, .int v1, .int v2, .null] [] S I L bc bs Q := by
  refine zr_iload_n dX12_findRows_106 rfl rfl ?_
  refine zr_aload_n dX12_findRows_107 rfl rfl ?_
  refine zr_getIv (x := (I 84 42)) dX12_findRows_108 zf_X12_331 rfl (hS.has (a := 84) rfl rfl) rfl ?_
  refine zr_icge (tgt := 208) dX12_findRows_111 (by decide) (fun hb => ?_) (fun hb => ?_)
  · have k := k.1 hb
    refine zr_iconst (v := 0) dX12_findRows_208 (by decide) ?_
    refine zr_istore_n dX12_findRows_209 rfl (Nat.le_of_ble_eq_true rfl) rfl ?_
    exact k
  · have k := k.2 hb
    refine zr_aload_n dX12_findRows_114 rfl rfl ?_
    refine zr_getR dX12_findRows_115 zf_X12_96 rfl (hS.has (a := 84) rfl rfl) (hS.ref (a := 111) rfl) ?_
    refine zr_iload_n dX12_findRows_118 rfl rfl ?_
    refine zr_iconst (v := -1) dX12_findRows_119 (by decide) ?_
    obtain ⟨hi8, k⟩ := k
    refine zr_iast dX12_findRows_120 (hS.has (a := 111) rfl rfl) hi8 ?_
    refine zr_aload_n dX12_findRows_121 rfl rfl ?_
    refine zr_getR dX12_findRows_122 zf_X12_105 rfl (hS.has (a := 84) rfl rfl) (hS.ref (a := 114) rfl) ?_
    refine zr_iload_n dX12_findRows_125 rfl rfl ?_
    refine zr_iconst (v := 0) dX12_findRows_126 (by decide) ?_
    refine zr_zast dX12_findRows_127 (hS.has (a := 114) rfl rfl) hi8 rfl ?_
    refine zr_iconst (v := 0) dX12_findRows_128 (by decide) ?_
    refine zr_istore_n dX12_findRows_129 rfl (Nat.le_of_ble_eq_true rfl) rfl ?_
    exact k
set_option maxHeartbeats 2000000 in
theorem vX12_findRows_130 {G : Gp} {bc bs : Nat} {Q : zPost} {S : zSh} {I : zFI} {L : zFL} {v1 : Int32} {v2 : Int32} {v3 : Int32} (hS : zStd S)  (k : (((I 84 43) ≤ v3 → ZW G mX12_findRows fX12_findRows lX12_findRows 106 [zo G 84, .int v1, .int (v2 + 1), .null] [] S I L bc bs Q) ∧ (¬ (I 84 43) ≤ v3 → vp_in v2 48 ∧ vp_in v3 48 ∧ ZC G mX12_isFit fX12_isFit lX12_isFit [zo G 84, .int v1, .int (I 108 v2.toNatClampNeg), .int (I 109 v3.toNatClampNeg)] S I L 0 0 (fun w S' I1 L1 => ∃ r1 : Int32, w = some (.int r1) ∧ S = S' ∧ ((r1 = 0 → vp_in (((48 : Int32) * v2) + v3) 2304 ∧ ZW G mX12_findRows fX12_findRows lX12_findRows 130 [zo G 84, .int v1, .int v2, .int (v3 + 1)] [] S (u2 I1 110 (((48 : Int32) * v2) + v3).toNatClampNeg (-1 : Int32)) L1 bc bs Q) ∧ (¬ r1 = 0 → vp_in (I1 109 v3.toNatClampNeg) 48 ∧ vp_in (I1 108 v2.toNatClampNeg) 48 ∧ vp_in (((48 : Int32) * v2) + v3) 2304 ∧ ZW G mX12_findRows fX12_findRows lX12_findRows 130 [zo G 84, .int v1, .int v2, .int (v3 + 1)] [] S (u2 I1 110 (((48 : Int32) * v2) + v3).toNatClampNeg ((I1 97 (I1 109 v3.toNatClampNeg).toNatClampNeg) - (I1 97 (I1 108 v2.toNatClampNeg).toNatClampNeg))) L1 bc bs Q)))))) : ZW G mX12_findRows fX12_findRows lX12_findRows 130 [zo G 84, .int v1, .int v2, .int v3] [] S I L bc bs Q := by
  refine zr_iload_n dX12_findRows_130 rfl rfl ?_
  refine zr_aload_n dX12_findRows_131 rfl rfl ?_
  refine zr_getIv (x := (I 84 43)) dX12_findRows_132 zf_X12_334 rfl (hS.has (a := 84) rfl rfl) rfl ?_
  refine zr_icge (tgt := 202) dX12_findRows_135 (by decide) (fun hb => ?_) (fun hb => ?_)
  · have k := k.1 hb
    refine zr_iinc (v := (v2 + 1)) dX12_findRows_202 rfl rfl (Nat.le_of_ble_eq_true rfl) rfl ?_
    refine zr_goto (tgt := 106) dX12_findRows_205 (by decide) ?_
    exact zr_mask [true, true, true, false] rfl k
  · have k := k.2 hb
    refine zr_aload_n dX12_findRows_138 rfl rfl ?_
    refine zr_getR dX12_findRows_139 zf_X12_93 rfl (hS.has (a := 84) rfl rfl) (hS.ref (a := 110) rfl) ?_
    refine zr_bipush (v := 48) dX12_findRows_142 (by decide) ?_
    refine zr_iload_n dX12_findRows_144 rfl rfl ?_
    refine zr_imul dX12_findRows_145 ?_
    refine zr_iload_n dX12_findRows_146 rfl rfl ?_
    refine zr_iadd dX12_findRows_147 ?_
    refine zr_aload_n dX12_findRows_148 rfl rfl ?_
    refine zr_iload_n dX12_findRows_149 rfl rfl ?_
    refine zr_aload_n dX12_findRows_150 rfl rfl ?_
    refine zr_getR dX12_findRows_151 zf_X12_87 rfl (hS.has (a := 84) rfl rfl) (hS.ref (a := 108) rfl) ?_
    refine zr_iload_n dX12_findRows_154 rfl rfl ?_
    obtain ⟨hi9, k⟩ := k
    refine zr_ialdv (x := (I 108 v2.toNatClampNeg)) dX12_findRows_155 (hS.has (a := 108) rfl rfl) hi9 rfl ?_
    refine zr_aload_n dX12_findRows_156 rfl rfl ?_
    refine zr_getR dX12_findRows_157 zf_X12_90 rfl (hS.has (a := 84) rfl rfl) (hS.ref (a := 109) rfl) ?_
    refine zr_iload_n dX12_findRows_160 rfl rfl ?_
    obtain ⟨hi10, k⟩ := k
    refine zr_ialdv (x := (I 109 v3.toNatClampNeg)) dX12_findRows_161 (hS.has (a := 109) rfl rfl) hi10 rfl ?_
    refine zr_callV (As := [.int v1, .int (I 108 v2.toNatClampNeg), .int (I 109 v3.toNatClampNeg)]) (fr' := fX12_isFit) (lo' := lX12_isFit) (bc' := 0) (bs' := 0) (bcr := bc) (bsr := bs) dX12_findRows_162 zs_X12_328 zi_X12_isFit zcl_12 (hS.has (a := 84) rfl rfl) rfl rfl (Nat.le_of_ble_eq_true rfl) (Nat.le_of_ble_eq_true rfl) (Nat.le_of_ble_eq_true rfl) (Nat.le_refl _) (Nat.le_refl _) ?_
    refine ZC.mono (fun w S' I1 L1 k => ?_) k
    obtain ⟨r1, rfl, rfl, k⟩ := k
    show ZW G mX12_findRows fX12_findRows lX12_findRows 165 [zo G 84, .int v1, .int v2, .int v3] [.int r1, .int (((48 : Int32) * v2) + v3), zo G 110] S I1 L1 bc bs Q
    refine zr_ifeq (tgt := 194) dX12_findRows_165 (by decide) (fun hb => ?_) (fun hb => ?_)
    · have k := k.1 hb
      refine zr_iconst (v := -1) dX12_findRows_194 (by decide) ?_
      obtain ⟨hi11, k⟩ := k
      refine zr_iast dX12_findRows_195 (hS.has (a := 110) rfl rfl) hi11 ?_
      refine zr_iinc (v := (v3 + 1)) dX12_findRows_196 rfl rfl (Nat.le_of_ble_eq_true rfl) rfl ?_
      refine zr_goto (tgt := 130) dX12_findRows_199 (by decide) ?_
      exact k
    · have k := k.2 hb
      refine zr_aload_n dX12_findRows_168 rfl rfl ?_
      refine zr_getR dX12_findRows_169 zf_X12_51 rfl (hS.has (a := 84) rfl rfl) (hS.ref (a := 97) rfl) ?_
      refine zr_aload_n dX12_findRows_172 rfl rfl ?_
      refine zr_getR dX12_findRows_173 zf_X12_90 rfl (hS.has (a := 84) rfl rfl) (hS.ref (a := 109) rfl) ?_
      refine zr_iload_n dX12_findRows_176 rfl rfl ?_
      refine zr_ialdv (x := (I1 109 v3.toNatClampNeg)) dX12_findRows_177 (hS.has (a := 109) rfl rfl) hi10 rfl ?_
      obtain ⟨hi12, k⟩ := k
      refine zr_ialdv (x := (I1 97 (I1 109 v3.toNatClampNeg).toNatClampNeg)) dX12_findRows_178 (hS.has (a := 97) rfl rfl) hi12 rfl ?_
      refine zr_aload_n dX12_findRows_179 rfl rfl ?_
      refine zr_getR dX12_findRows_180 zf_X12_51 rfl (hS.has (a := 84) rfl rfl) (hS.ref (a := 97) rfl) ?_
      refine zr_aload_n dX12_findRows_183 rfl rfl ?_
      refine zr_getR dX12_findRows_184 zf_X12_87 rfl (hS.has (a := 84) rfl rfl) (hS.ref (a := 108) rfl) ?_
      refine zr_iload_n dX12_findRows_187 rfl rfl ?_
      refine zr_ialdv (x := (I1 108 v2.toNatClampNeg)) dX12_findRows_188 (hS.has (a := 108) rfl rfl) hi9 rfl ?_
      obtain ⟨hi13, k⟩ := k
      refine zr_ialdv (x := (I1 97 (I1 108 v2.toNatClampNeg).toNatClampNeg)) dX12_findRows_189 (hS.has (a := 97) rfl rfl) hi13 rfl ?_
      refine zr_isub dX12_findRows_190 ?_
      refine zr_goto (tgt := 195) dX12_findRows_191 (by decide) ?_
      obtain ⟨hi14, k⟩ := k
      refine zr_iast dX12_findRows_195 (hS.has (a := 110) rfl rfl) hi14 ?_
      refine zr_iinc (v := (v3 + 1)) dX12_findRows_196 rfl rfl (Nat.le_of_ble_eq_true rfl) rfl ?_
      refine zr_goto (tgt := 130) dX12_findRows_199 (by decide) ?_
      exact k
set_option maxHeartbeats 2000000 in
theorem vX12_findRows_210 {G : Gp} {bc bs : Nat} {Q : zPost} {S : zSh} {I : zFI} {L : zFL} {v1 : Int32} {v2 : Int32} (hS : zStd S)  (k : (((I 84 43) ≤ v2 → Q none S (u2 (u2 (u2 (u2 I 84 50 (0 : Int32)) 84 51 (0 : Int32)) 84 52 (-1 : Int32)) 84 53 (-1 : Int32)) L) ∧ (¬ (I 84 43) ≤ v2 → vp_in v2 48 ∧ ZW G mX12_findRows fX12_findRows lX12_findRows 210 [zo G 84, .int v1, .int (v2 + 1), .null] [] S (u2 (u2 I 112 v2.toNatClampNeg (-1 : Int32)) 115 v2.toNatClampNeg (0 : Int32)) L bc bs Q))) : ZW G mX12_findRows fX12_findRows lX12_findRows 210 [zo G 84, .int v1, .int v2, .null] [] S I L bc bs Q := by
  refine zr_iload_n dX12_findRows_210 rfl rfl ?_
  refine zr_aload_n dX12_findRows_211 rfl rfl ?_
  refine zr_getIv (x := (I 84 43)) dX12_findRows_212 zf_X12_334 rfl (hS.has (a := 84) rfl rfl) rfl ?_
  refine zr_icge (tgt := 238) dX12_findRows_215 (by decide) (fun hb => ?_) (fun hb => ?_)
  · have k := k.1 hb
    refine zr_aload_n dX12_findRows_238 rfl rfl ?_
    refine zr_iconst (v := 0) dX12_findRows_239 (by decide) ?_
    refine zr_putI dX12_findRows_240 zf_X12_337 rfl (hS.has (a := 84) rfl rfl) rfl rfl ?_
    refine zr_aload_n dX12_findRows_243 rfl rfl ?_
    refine zr_iconst (v := 0) dX12_findRows_244 (by decide) ?_
    refine zr_putI dX12_findRows_245 zf_X12_340 rfl (hS.has (a := 84) rfl rfl) rfl rfl ?_
    refine zr_aload_n dX12_findRows_248 rfl rfl ?_
    refine zr_iconst (v := -1) dX12_findRows_249 (by decide) ?_
    refine zr_putI dX12_findRows_250 zf_X12_111 rfl (hS.has (a := 84) rfl rfl) rfl rfl ?_
    refine zr_aload_n dX12_findRows_253 rfl rfl ?_
    refine zr_iconst (v := -1) dX12_findRows_254 (by decide) ?_
    refine zr_putI dX12_findRows_255 zf_X12_114 rfl (hS.has (a := 84) rfl rfl) rfl rfl ?_
    exact zr_return_ dX12_findRows_258 rfl k
  · have k := k.2 hb
    refine zr_aload_n dX12_findRows_218 rfl rfl ?_
    refine zr_getR dX12_findRows_219 zf_X12_99 rfl (hS.has (a := 84) rfl rfl) (hS.ref (a := 112) rfl) ?_
    refine zr_iload_n dX12_findRows_222 rfl rfl ?_
    refine zr_iconst (v := -1) dX12_findRows_223 (by decide) ?_
    obtain ⟨hi15, k⟩ := k
    refine zr_iast dX12_findRows_224 (hS.has (a := 112) rfl rfl) hi15 ?_
    refine zr_aload_n dX12_findRows_225 rfl rfl ?_
    refine zr_getR dX12_findRows_226 zf_X12_108 rfl (hS.has (a := 84) rfl rfl) (hS.ref (a := 115) rfl) ?_
    refine zr_iload_n dX12_findRows_229 rfl rfl ?_
    refine zr_iconst (v := 0) dX12_findRows_230 (by decide) ?_
    refine zr_zast dX12_findRows_231 (hS.has (a := 115) rfl rfl) hi15 rfl ?_
    refine zr_iinc (v := (v2 + 1)) dX12_findRows_232 rfl rfl (Nat.le_of_ble_eq_true rfl) rfl ?_
    refine zr_goto (tgt := 210) dX12_findRows_235 (by decide) ?_
    exact k
set_option maxHeartbeats 2000000 in
theorem vX12_findFars_0 {G : Gp} {bc bs : Nat} {Q : zPost} {S : zSh} {I : zFI} {L : zFL}  (hS : zStd S)  (k : ZW G mX12_findFars fX12_findFars lX12_findFars 2 [zo G 84, .int (0 : Int32), .null, .null, .null, .null] [] S I L bc bs Q) : ZW G mX12_findFars fX12_findFars lX12_findFars 0 [zo G 84, .null, .null, .null, .null, .null] [] S I L bc bs Q := by
  refine zr_iconst (v := 0) dX12_findFars_0 (by decide) ?_
  refine zr_istore_n dX12_findFars_1 rfl (Nat.le_of_ble_eq_true rfl) rfl ?_
  exact k
set_option maxHeartbeats 2000000 in
theorem vX12_findFars_2 {G : Gp} {bc bs : Nat} {Q : zPost} {S : zSh} {I : zFI} {L : zFL} {v1 : Int32} (hS : zStd S)  (k : (((I 84 42) ≤ v1 → ZW G mX12_findFars fX12_findFars lX12_findFars 50 [zo G 84, .int (0 : Int32), .null, .null, .null, .null] [] S I L bc bs Q) ∧ (¬ (I 84 42) ≤ v1 → vp_in v1 48 ∧ ((¬ (I 114 v1.toNatClampNeg) = 0 → ZW G mX12_findFars fX12_findFars lX12_findFars 2 [zo G 84, .int (v1 + 1), .null, .null, .null, .null] [] S (u2 I 116 v1.toNatClampNeg (1000000 : Int32)) L bc bs Q) ∧ ((I 114 v1.toNatClampNeg) = 0 → ((¬ (I 111 v1.toNatClampNeg) = (-1 : Int32) → ZW G mX12_findFars fX12_findFars lX12_findFars 2 [zo G 84, .int (v1 + 1), .null, .null, .null, .null] [] S (u2 I 116 v1.toNatClampNeg (1000000 : Int32)) L bc bs Q) ∧ ((I 111 v1.toNatClampNeg) = (-1 : Int32) → ZW G mX12_findFars fX12_findFars lX12_findFars 2 [zo G 84, .int (v1 + 1), .null, .null, .null, .null] [] S (u2 I 116 v1.toNatClampNeg (0 : Int32)) L bc bs Q))))))) : ZW G mX12_findFars fX12_findFars lX12_findFars 2 [zo G 84, .int v1, .null, .null, .null, .null] [] S I L bc bs Q := by
  refine zr_iload_n dX12_findFars_2 rfl rfl ?_
  refine zr_aload_n dX12_findFars_3 rfl rfl ?_
  refine zr_getIv (x := (I 84 42)) dX12_findFars_4 zf_X12_331 rfl (hS.has (a := 84) rfl rfl) rfl ?_
  refine zr_icge (tgt := 48) dX12_findFars_7 (by decide) (fun hb => ?_) (fun hb => ?_)
  · have k := k.1 hb
    refine zr_iconst (v := 0) dX12_findFars_48 (by decide) ?_
    refine zr_istore_n dX12_findFars_49 rfl (Nat.le_of_ble_eq_true rfl) rfl ?_
    exact k
  · have k := k.2 hb
    refine zr_aload_n dX12_findFars_10 rfl rfl ?_
    refine zr_getR dX12_findFars_11 zf_X12_117 rfl (hS.has (a := 84) rfl rfl) (hS.ref (a := 116) rfl) ?_
    refine zr_iload_n dX12_findFars_14 rfl rfl ?_
    refine zr_aload_n dX12_findFars_15 rfl rfl ?_
    refine zr_getR dX12_findFars_16 zf_X12_105 rfl (hS.has (a := 84) rfl rfl) (hS.ref (a := 114) rfl) ?_
    refine zr_iload_n dX12_findFars_19 rfl rfl ?_
    obtain ⟨hi1, k⟩ := k
    refine zr_zaldv (x := (I 114 v1.toNatClampNeg)) dX12_findFars_20 (hS.has (a := 114) rfl rfl) hi1 rfl ?_
    refine zr_ifne (tgt := 38) dX12_findFars_21 (by decide) (fun hb => ?_) (fun hb => ?_)
    · have k := k.1 hb
      refine zr_ldc_w dX12_findFars_38 zk_X12_343 ?_
      refine zr_iast dX12_findFars_41 (hS.has (a := 116) rfl rfl) hi1 ?_
      refine zr_iinc (v := (v1 + 1)) dX12_findFars_42 rfl rfl (Nat.le_of_ble_eq_true rfl) rfl ?_
      refine zr_goto (tgt := 2) dX12_findFars_45 (by decide) ?_
      exact k
    · have k := k.2 hb
      refine zr_aload_n dX12_findFars_24 rfl rfl ?_
      refine zr_getR dX12_findFars_25 zf_X12_96 rfl (hS.has (a := 84) rfl rfl) (hS.ref (a := 111) rfl) ?_
      refine zr_iload_n dX12_findFars_28 rfl rfl ?_
      refine zr_ialdv (x := (I 111 v1.toNatClampNeg)) dX12_findFars_29 (hS.has (a := 111) rfl rfl) hi1 rfl ?_
      refine zr_iconst (v := -1) dX12_findFars_30 (by decide) ?_
      refine zr_icne (tgt := 38) dX12_findFars_31 (by decide) (fun hb => ?_) (fun hb => ?_)
      · have k := k.1 hb
        refine zr_ldc_w dX12_findFars_38 zk_X12_343 ?_
        refine zr_iast dX12_findFars_41 (hS.has (a := 116) rfl rfl) hi1 ?_
        refine zr_iinc (v := (v1 + 1)) dX12_findFars_42 rfl rfl (Nat.le_of_ble_eq_true rfl) rfl ?_
        refine zr_goto (tgt := 2) dX12_findFars_45 (by decide) ?_
        exact k
      · have k := k.2 hb
        refine zr_iconst (v := 0) dX12_findFars_34 (by decide) ?_
        refine zr_goto (tgt := 41) dX12_findFars_35 (by decide) ?_
        refine zr_iast dX12_findFars_41 (hS.has (a := 116) rfl rfl) hi1 ?_
        refine zr_iinc (v := (v1 + 1)) dX12_findFars_42 rfl rfl (Nat.le_of_ble_eq_true rfl) rfl ?_
        refine zr_goto (tgt := 2) dX12_findFars_45 (by decide) ?_
        exact k
set_option maxHeartbeats 2000000 in
theorem vX12_findFars_50 {G : Gp} {bc bs : Nat} {Q : zPost} {S : zSh} {I : zFI} {L : zFL} {v1 : Int32} (hS : zStd S)  (k : (((I 84 43) ≤ v1 → ZW G mX12_findFars fX12_findFars lX12_findFars 75 [zo G 84, .int (1 : Int32), .null, .null, .null, .null] [] S I L bc bs Q) ∧ (¬ (I 84 43) ≤ v1 → vp_in v1 48 ∧ ZW G mX12_findFars fX12_findFars lX12_findFars 50 [zo G 84, .int (v1 + 1), .null, .null, .null, .null] [] S (u2 I 117 v1.toNatClampNeg (1000000 : Int32)) L bc bs Q))) : ZW G mX12_findFars fX12_findFars lX12_findFars 50 [zo G 84, .int v1, .null, .null, .null, .null] [] S I L bc bs Q := by
  refine zr_iload_n dX12_findFars_50 rfl rfl ?_
  refine zr_aload_n dX12_findFars_51 rfl rfl ?_
  refine zr_getIv (x := (I 84 43)) dX12_findFars_52 zf_X12_334 rfl (hS.has (a := 84) rfl rfl) rfl ?_
  refine zr_icge (tgt := 73) dX12_findFars_55 (by decide) (fun hb => ?_) (fun hb => ?_)
  · have k := k.1 hb
    refine zr_iconst (v := 1) dX12_findFars_73 (by decide) ?_
    refine zr_istore_n dX12_findFars_74 rfl (Nat.le_of_ble_eq_true rfl) rfl ?_
    exact k
  · have k := k.2 hb
    refine zr_aload_n dX12_findFars_58 rfl rfl ?_
    refine zr_getR dX12_findFars_59 zf_X12_120 rfl (hS.has (a := 84) rfl rfl) (hS.ref (a := 117) rfl) ?_
    refine zr_iload_n dX12_findFars_62 rfl rfl ?_
    refine zr_ldc_w dX12_findFars_63 zk_X12_343 ?_
    obtain ⟨hi2, k⟩ := k
    refine zr_iast dX12_findFars_66 (hS.has (a := 117) rfl rfl) hi2 ?_
    refine zr_iinc (v := (v1 + 1)) dX12_findFars_67 rfl rfl (Nat.le_of_ble_eq_true rfl) rfl ?_
    refine zr_goto (tgt := 50) dX12_findFars_70 (by decide) ?_
    exact k
set_option maxHeartbeats 2000000 in
theorem vX12_findFars_75 {G : Gp} {bc bs : Nat} {Q : zPost} {S : zSh} {I : zFI} {L : zFL} {v1 : Int32} (hS : zStd S)  (k : ((v1 = 0 → Q none S I L) ∧ (¬ v1 = 0 → ZW G mX12_findFars fX12_findFars lX12_findFars 83 [zo G 84, .int (0 : Int32), .int (0 : Int32), .null, .null, .null] [] S I L bc bs Q))) : ZW G mX12_findFars fX12_findFars lX12_findFars 75 [zo G 84, .int v1, .null, .null, .null, .null] [] S I L bc bs Q := by
  refine zr_iload_n dX12_findFars_75 rfl rfl ?_
  refine zr_ifeq (tgt := 308) dX12_findFars_76 (by decide) (fun hb => ?_) (fun hb => ?_)
  · have k := k.1 hb
    exact zr_return_ dX12_findFars_308 rfl k
  · have k := k.2 hb
    refine zr_iconst (v := 0) dX12_findFars_79 (by decide) ?_
    refine zr_istore_n dX12_findFars_80 rfl (Nat.le_of_ble_eq_true rfl) rfl ?_
    refine zr_iconst (v := 0) dX12_findFars_81 (by decide) ?_
    refine zr_istore_n dX12_findFars_82 rfl (Nat.le_of_ble_eq_true rfl) rfl ?_
    exact k
set_option maxHeartbeats 2000000 in
theorem vX12_findFars_83 {G : Gp} {bc bs : Nat} {Q : zPost} {S : zSh} {I : zFI} {L : zFL} {v1 : Int32} {v2 : Int32} (hS : zStd S)  (k : (((I 84 42) ≤ v2 → ZW G mX12_findFars fX12_findFars lX12_findFars 75 [zo G 84, .int v1, .null, .null, .null, .null] [] S I L bc bs Q) ∧ (¬ (I 84 42) ≤ v2 → vp_in v2 48 ∧ ((¬ (I 114 v2.toNatClampNeg) = 0 → ZW G mX12_findFars fX12_findFars lX12_findFars 83 [zo G 84, .int v1, .int (v2 + 1), .null, .null, .null] [] S I L bc bs Q) ∧ ((I 114 v2.toNatClampNeg) = 0 → ((¬ (I 116 v2.toNatClampNeg) = (1000000 : Int32) → ZW G mX12_findFars fX12_findFars lX12_findFars 117 [zo G 84, .int v1, .int v2, .int (0 : Int32), .null, .null] [] S I L bc bs Q) ∧ ((I 116 v2.toNatClampNeg) = (1000000 : Int32) → ZW G mX12_findFars fX12_findFars lX12_findFars 83 [zo G 84, .int v1, .int (v2 + 1), .null, .null, .null] [] S I L bc bs Q))))))) : ZW G mX12_findFars fX12_findFars lX12_findFars 83 [zo G 84, .int v1, .int v2, .null, .null, .null] [] S I L bc bs Q := by
  refine zr_iload_n dX12_findFars_83 rfl rfl ?_
  refine zr_aload_n dX12_findFars_84 rfl rfl ?_
  refine zr_getIv (x := (I 84 42)) dX12_findFars_85 zf_X12_331 rfl (hS.has (a := 84) rfl rfl) rfl ?_
  refine zr_icge (tgt := 305) dX12_findFars_88 (by decide) (fun hb => ?_) (fun hb => ?_)
  · have k := k.1 hb
    refine zr_goto (tgt := 75) dX12_findFars_305 (by decide) ?_
    exact zr_mask [true, true, false, false, false, false] rfl k
  · have k := k.2 hb
    refine zr_aload_n dX12_findFars_91 rfl rfl ?_
    refine zr_getR dX12_findFars_92 zf_X12_105 rfl (hS.has (a := 84) rfl rfl) (hS.ref (a := 114) rfl) ?_
    refine zr_iload_n dX12_findFars_95 rfl rfl ?_
    obtain ⟨hi3, k⟩ := k
    refine zr_zaldv (x := (I 114 v2.toNatClampNeg)) dX12_findFars_96 (hS.has (a := 114) rfl rfl) hi3 rfl ?_
    refine zr_ifne (tgt := 299) dX12_findFars_97 (by decide) (fun hb => ?_) (fun hb => ?_)
    · have k := k.1 hb
      refine zr_iinc (v := (v2 + 1)) dX12_findFars_299 rfl rfl (Nat.le_of_ble_eq_true rfl) rfl ?_
      refine zr_goto (tgt := 83) dX12_findFars_302 (by decide) ?_
      exact k
    · have k := k.2 hb
      refine zr_aload_n dX12_findFars_100 rfl rfl ?_
      refine zr_getR dX12_findFars_101 zf_X12_117 rfl (hS.has (a := 84) rfl rfl) (hS.ref (a := 116) rfl) ?_
      refine zr_iload_n dX12_findFars_104 rfl rfl ?_
      refine zr_ialdv (x := (I 116 v2.toNatClampNeg)) dX12_findFars_105 (hS.has (a := 116) rfl rfl) hi3 rfl ?_
      refine zr_ldc_w dX12_findFars_106 zk_X12_343 ?_
      refine zr_icne (tgt := 115) dX12_findFars_109 (by decide) (fun hb => ?_) (fun hb => ?_)
      · have k := k.1 hb
        refine zr_iconst (v := 0) dX12_findFars_115 (by decide) ?_
        refine zr_istore_n dX12_findFars_116 rfl (Nat.le_of_ble_eq_true rfl) rfl ?_
        exact k
      · have k := k.2 hb
        refine zr_goto (tgt := 299) dX12_findFars_112 (by decide) ?_
        refine zr_iinc (v := (v2 + 1)) dX12_findFars_299 rfl rfl (Nat.le_of_ble_eq_true rfl) rfl ?_
        refine zr_goto (tgt := 83) dX12_findFars_302 (by decide) ?_
        exact k
set_option maxHeartbeats 2000000 in
theorem vX12_findFars_117 {G : Gp} {bc bs : Nat} {Q : zPost} {S : zSh} {I : zFI} {L : zFL} {v1 : Int32} {v2 : Int32} {v3 : Int32} (hS : zStd S)  (k : (((I 84 43) ≤ v3 → ZW G mX12_findFars fX12_findFars lX12_findFars 83 [zo G 84, .int v1, .int (v2 + 1), .null, .null, .null] [] S I L bc bs Q) ∧ (¬ (I 84 43) ≤ v3 → vp_in (((48 : Int32) * v2) + v3) 2304 ∧ (((I 110 (((48 : Int32) * v2) + v3).toNatClampNeg) = (-1 : Int32) → ZW G mX12_findFars fX12_findFars lX12_findFars 117 [zo G 84, .int v1, .int v2, .int (v3 + 1), .null, .null] [] S I L bc bs Q) ∧ (¬ (I 110 (((48 : Int32) * v2) + v3).toNatClampNeg) = (-1 : Int32) → vp_in v3 48 ∧ ((¬ (I 115 v3.toNatClampNeg) = 0 → ZW G mX12_findFars fX12_findFars lX12_findFars 117 [zo G 84, .int v1, .int v2, .int (v3 + 1), .null, .null] [] S I L bc bs Q) ∧ ((I 115 v3.toNatClampNeg) = 0 → vp_in v2 48 ∧ (((I 111 v2.toNatClampNeg) = v3 → ZW G mX12_findFars fX12_findFars lX12_findFars 117 [zo G 84, .int v1, .int v2, .int (v3 + 1), .null, .null] [] S I L bc bs Q) ∧ (¬ (I 111 v2.toNatClampNeg) = v3 → ((¬ v2 = (I 84 52) → ((((I 116 v2.toNatClampNeg) + (I 110 (((48 : Int32) * v2) + v3).toNatClampNeg)) < (I 117 v3.toNatClampNeg) → (((I 112 v3.toNatClampNeg) = (-1 : Int32) → ZW G mX12_findFars fX12_findFars lX12_findFars 117 [zo G 84, .int (1 : Int32), .int v2, .int (v3 + 1), .null, .null] [] S (u2 (u2 I 117 v3.toNatClampNeg ((I 116 v2.toNatClampNeg) + (I 110 (((48 : Int32) * v2) + v3).toNatClampNeg))) 118 v3.toNatClampNeg v2) L bc bs Q) ∧ (¬ (I 112 v3.toNatClampNeg) = (-1 : Int32) → vp_in (((48 : Int32) * (I 112 v3.toNatClampNeg)) + v3) 2304 ∧ vp_in (I 112 v3.toNatClampNeg) 48 ∧ (((I 116 (I 112 v3.toNatClampNeg).toNatClampNeg) ≤ (((u2 I 117 v3.toNatClampNeg ((I 116 v2.toNatClampNeg) + (I 110 (((48 : Int32) * v2) + v3).toNatClampNeg))) 117 v3.toNatClampNeg) - (I 110 (((48 : Int32) * (I 112 v3.toNatClampNeg)) + v3).toNatClampNeg)) → ZW G mX12_findFars fX12_findFars lX12_findFars 117 [zo G 84, .int (1 : Int32), .int v2, .int (v3 + 1), .null, .null] [] S (u2 (u2 I 117 v3.toNatClampNeg ((I 116 v2.toNatClampNeg) + (I 110 (((48 : Int32) * v2) + v3).toNatClampNeg))) 118 v3.toNatClampNeg v2) L bc bs Q) ∧ (¬ (I 116 (I 112 v3.toNatClampNeg).toNatClampNeg) ≤ (((u2 I 117 v3.toNatClampNeg ((I 116 v2.toNatClampNeg) + (I 110 (((48 : Int32) * v2) + v3).toNatClampNeg))) 117 v3.toNatClampNeg) - (I 110 (((48 : Int32) * (I 112 v3.toNatClampNeg)) + v3).toNatClampNeg)) → ZW G mX12_findFars fX12_findFars lX12_findFars 117 [zo G 84, .int (1 : Int32), .int v2, .int (v3 + 1), .null, .null] [] S (u2 (u2 (u2 I 117 v3.toNatClampNeg ((I 116 v2.toNatClampNeg) + (I 110 (((48 : Int32) * v2) + v3).toNatClampNeg))) 118 v3.toNatClampNeg v2) 116 (I 112 v3.toNatClampNeg).toNatClampNeg (((u2 I 117 v3.toNatClampNeg ((I 116 v2.toNatClampNeg) + (I 110 (((48 : Int32) * v2) + v3).toNatClampNeg))) 117 v3.toNatClampNeg) - (I 110 (((48 : Int32) * (I 112 v3.toNatClampNeg)) + v3).toNatClampNeg))) L bc bs Q))))) ∧ (¬ ((I 116 v2.toNatClampNeg) + (I 110 (((48 : Int32) * v2) + v3).toNatClampNeg)) < (I 117 v3.toNatClampNeg) → ZW G mX12_findFars fX12_findFars lX12_findFars 117 [zo G 84, .int v1, .int v2, .int (v3 + 1), .null, .null] [] S I L bc bs Q))) ∧ (v2 = (I 84 52) → ((v3 = (I 84 53) → ZW G mX12_findFars fX12_findFars lX12_findFars 117 [zo G 84, .int v1, .int v2, .int (v3 + 1), .null, .null] [] S I L bc bs Q) ∧ (¬ v3 = (I 84 53) → ((((I 116 v2.toNatClampNeg) + (I 110 (((48 : Int32) * v2) + v3).toNatClampNeg)) < (I 117 v3.toNatClampNeg) → (((I 112 v3.toNatClampNeg) = (-1 : Int32) → ZW G mX12_findFars fX12_findFars lX12_findFars 117 [zo G 84, .int (1 : Int32), .int v2, .int (v3 + 1), .null, .null] [] S (u2 (u2 I 117 v3.toNatClampNeg ((I 116 v2.toNatClampNeg) + (I 110 (((48 : Int32) * v2) + v3).toNatClampNeg))) 118 v3.toNatClampNeg v2) L bc bs Q) ∧ (¬ (I 112 v3.toNatClampNeg) = (-1 : Int32) → vp_in (((48 : Int32) * (I 112 v3.toNatClampNeg)) + v3) 2304 ∧ vp_in (I 112 v3.toNatClampNeg) 48 ∧ (((I 116 (I 112 v3.toNatClampNeg).toNatClampNeg) ≤ (((u2 I 117 v3.toNatClampNeg ((I 116 v2.toNatClampNeg) + (I 110 (((48 : Int32) * v2) + v3).toNatClampNeg))) 117 v3.toNatClampNeg) - (I 110 (((48 : Int32) * (I 112 v3.toNatClampNeg)) + v3).toNatClampNeg)) → ZW G mX12_findFars fX12_findFars lX12_findFars 117 [zo G 84, .int (1 : Int32), .int v2, .int (v3 + 1), .null, .null] [] S (u2 (u2 I 117 v3.toNatClampNeg ((I 116 v2.toNatClampNeg) + (I 110 (((48 : Int32) * v2) + v3).toNatClampNeg))) 118 v3.toNatClampNeg v2) L bc bs Q) ∧ (¬ (I 116 (I 112 v3.toNatClampNeg).toNatClampNeg) ≤ (((u2 I 117 v3.toNatClampNeg ((I 116 v2.toNatClampNeg) + (I 110 (((48 : Int32) * v2) + v3).toNatClampNeg))) 117 v3.toNatClampNeg) - (I 110 (((48 : Int32) * (I 112 v3.toNatClampNeg)) + v3).toNatClampNeg)) → ZW G mX12_findFars fX12_findFars lX12_findFars 117 [zo G 84, .int (1 : Int32), .int v2, .int (v3 + 1), .null, .null] [] S (u2 (u2 (u2 I 117 v3.toNatClampNeg ((I 116 v2.toNatClampNeg) + (I 110 (((48 : Int32) * v2) + v3).toNatClampNeg))) 118 v3.toNatClampNeg v2) 116 (I 112 v3.toNatClampNeg).toNatClampNeg (((u2 I 117 v3.toNatClampNeg ((I 116 v2.toNatClampNeg) + (I 110 (((48 : Int32) * v2) + v3).toNatClampNeg))) 117 v3.toNatClampNeg) - (I 110 (((48 : Int32) * (I 112 v3.toNatClampNeg)) + v3).toNatClampNeg))) L bc bs Q))))) ∧ (¬ ((I 116 v2.toNatClampNeg) + (I 110 (((48 : Int32) * v2) + v3).toNatClampNeg)) < (I 117 v3.toNatClampNeg) → ZW G mX12_findFars fX12_findFars lX12_findFars 117 [zo G 84, .int v1, .int v2, .int (v3 + 1), .null, .null] [] S I L bc bs Q))))))))))))))) : ZW G mX12_findFars fX12_findFars lX12_findFars 117 [zo G 84, .int v1, .int v2, .int v3, .null, .null] [] S I L bc bs Q := by
  refine zr_iload_n dX12_findFars_117 rfl rfl ?_
  refine zr_aload_n dX12_findFars_118 rfl rfl ?_
  refine zr_getIv (x := (I 84 43)) dX12_findFars_119 zf_X12_334 rfl (hS.has (a := 84) rfl rfl) rfl ?_
  refine zr_icge (tgt := 299) dX12_findFars_122 (by decide) (fun hb => ?_) (fun hb => ?_)
  · have k := k.1 hb
    refine zr_iinc (v := (v2 + 1)) dX12_findFars_299 rfl rfl (Nat.le_of_ble_eq_true rfl) rfl ?_
    refine zr_goto (tgt := 83) dX12_findFars_302 (by decide) ?_
    exact zr_mask [true, true, true, false, false, false] rfl k
  · have k := k.2 hb
    refine zr_aload_n dX12_findFars_125 rfl rfl ?_
    refine zr_getR dX12_findFars_126 zf_X12_93 rfl (hS.has (a := 84) rfl rfl) (hS.ref (a := 110) rfl) ?_
    refine zr_bipush (v := 48) dX12_findFars_129 (by decide) ?_
    refine zr_iload_n dX12_findFars_131 rfl rfl ?_
    refine zr_imul dX12_findFars_132 ?_
    refine zr_iload_n dX12_findFars_133 rfl rfl ?_
    refine zr_iadd dX12_findFars_134 ?_
    obtain ⟨hi4, k⟩ := k
    refine zr_ialdv (x := (I 110 (((48 : Int32) * v2) + v3).toNatClampNeg)) dX12_findFars_135 (hS.has (a := 110) rfl rfl) hi4 rfl ?_
    refine zr_istore dX12_findFars_136 (Nat.le_of_ble_eq_true rfl) rfl ?_
    refine zr_iload dX12_findFars_138 rfl ?_
    refine zr_iconst (v := -1) dX12_findFars_140 (by decide) ?_
    refine zr_iceq (tgt := 293) dX12_findFars_141 (by decide) (fun hb => ?_) (fun hb => ?_)
    · have k := k.1 hb
      refine zr_iinc (v := (v3 + 1)) dX12_findFars_293 rfl rfl (Nat.le_of_ble_eq_true rfl) rfl ?_
      refine zr_goto (tgt := 117) dX12_findFars_296 (by decide) ?_
      exact zr_mask [true, true, true, true, false, false] rfl k
    · have k := k.2 hb
      refine zr_aload_n dX12_findFars_144 rfl rfl ?_
      refine zr_getR dX12_findFars_145 zf_X12_108 rfl (hS.has (a := 84) rfl rfl) (hS.ref (a := 115) rfl) ?_
      refine zr_iload_n dX12_findFars_148 rfl rfl ?_
      obtain ⟨hi5, k⟩ := k
      refine zr_zaldv (x := (I 115 v3.toNatClampNeg)) dX12_findFars_149 (hS.has (a := 115) rfl rfl) hi5 rfl ?_
      refine zr_ifne (tgt := 293) dX12_findFars_150 (by decide) (fun hb => ?_) (fun hb => ?_)
      · have k := k.1 hb
        refine zr_iinc (v := (v3 + 1)) dX12_findFars_293 rfl rfl (Nat.le_of_ble_eq_true rfl) rfl ?_
        refine zr_goto (tgt := 117) dX12_findFars_296 (by decide) ?_
        exact zr_mask [true, true, true, true, false, false] rfl k
      · have k := k.2 hb
        refine zr_aload_n dX12_findFars_153 rfl rfl ?_
        refine zr_getR dX12_findFars_154 zf_X12_96 rfl (hS.has (a := 84) rfl rfl) (hS.ref (a := 111) rfl) ?_
        refine zr_iload_n dX12_findFars_157 rfl rfl ?_
        obtain ⟨hi6, k⟩ := k
        refine zr_ialdv (x := (I 111 v2.toNatClampNeg)) dX12_findFars_158 (hS.has (a := 111) rfl rfl) hi6 rfl ?_
        refine zr_iload_n dX12_findFars_159 rfl rfl ?_
        refine zr_iceq (tgt := 293) dX12_findFars_160 (by decide) (fun hb => ?_) (fun hb => ?_)
        · have k := k.1 hb
          refine zr_iinc (v := (v3 + 1)) dX12_findFars_293 rfl rfl (Nat.le_of_ble_eq_true rfl) rfl ?_
          refine zr_goto (tgt := 117) dX12_findFars_296 (by decide) ?_
          exact zr_mask [true, true, true, true, false, false] rfl k
        · have k := k.2 hb
          refine zr_iload_n dX12_findFars_163 rfl rfl ?_
          refine zr_aload_n dX12_findFars_164 rfl rfl ?_
          refine zr_getIv (x := (I 84 52)) dX12_findFars_165 zf_X12_111 rfl (hS.has (a := 84) rfl rfl) rfl ?_
          refine zr_icne (tgt := 179) dX12_findFars_168 (by decide) (fun hb => ?_) (fun hb => ?_)
          · have k := k.1 hb
            refine zr_aload_n dX12_findFars_179 rfl rfl ?_
            refine zr_getR dX12_findFars_180 zf_X12_117 rfl (hS.has (a := 84) rfl rfl) (hS.ref (a := 116) rfl) ?_
            refine zr_iload_n dX12_findFars_183 rfl rfl ?_
            refine zr_ialdv (x := (I 116 v2.toNatClampNeg)) dX12_findFars_184 (hS.has (a := 116) rfl rfl) hi6 rfl ?_
            refine zr_iload dX12_findFars_185 rfl ?_
            refine zr_iadd dX12_findFars_187 ?_
            refine zr_aload_n dX12_findFars_188 rfl rfl ?_
            refine zr_getR dX12_findFars_189 zf_X12_120 rfl (hS.has (a := 84) rfl rfl) (hS.ref (a := 117) rfl) ?_
            refine zr_iload_n dX12_findFars_192 rfl rfl ?_
            refine zr_ialdv (x := (I 117 v3.toNatClampNeg)) dX12_findFars_193 (hS.has (a := 117) rfl rfl) hi5 rfl ?_
            refine zr_iclt (tgt := 200) dX12_findFars_194 (by decide) (fun hb => ?_) (fun hb => ?_)
            · have k := k.1 hb
              refine zr_aload_n dX12_findFars_200 rfl rfl ?_
              refine zr_getR dX12_findFars_201 zf_X12_120 rfl (hS.has (a := 84) rfl rfl) (hS.ref (a := 117) rfl) ?_
              refine zr_iload_n dX12_findFars_204 rfl rfl ?_
              refine zr_aload_n dX12_findFars_205 rfl rfl ?_
              refine zr_getR dX12_findFars_206 zf_X12_117 rfl (hS.has (a := 84) rfl rfl) (hS.ref (a := 116) rfl) ?_
              refine zr_iload_n dX12_findFars_209 rfl rfl ?_
              refine zr_ialdv (x := (I 116 v2.toNatClampNeg)) dX12_findFars_210 (hS.has (a := 116) rfl rfl) hi6 rfl ?_
              refine zr_iload dX12_findFars_211 rfl ?_
              refine zr_iadd dX12_findFars_213 ?_
              refine zr_iast dX12_findFars_214 (hS.has (a := 117) rfl rfl) hi5 ?_
              refine zr_aload_n dX12_findFars_215 rfl rfl ?_
              refine zr_getR dX12_findFars_216 zf_X12_123 rfl (hS.has (a := 84) rfl rfl) (hS.ref (a := 118) rfl) ?_
              refine zr_iload_n dX12_findFars_219 rfl rfl ?_
              refine zr_iload_n dX12_findFars_220 rfl rfl ?_
              refine zr_iast dX12_findFars_221 (hS.has (a := 118) rfl rfl) hi5 ?_
              refine zr_iconst (v := 1) dX12_findFars_222 (by decide) ?_
              refine zr_istore_n dX12_findFars_223 rfl (Nat.le_of_ble_eq_true rfl) rfl ?_
              refine zr_aload_n dX12_findFars_224 rfl rfl ?_
              refine zr_getR dX12_findFars_225 zf_X12_99 rfl (hS.has (a := 84) rfl rfl) (hS.ref (a := 112) rfl) ?_
              refine zr_iload_n dX12_findFars_228 rfl rfl ?_
              refine zr_ialdv (x := (I 112 v3.toNatClampNeg)) dX12_findFars_229 (hS.has (a := 112) rfl rfl) hi5 rfl ?_
              refine zr_istore dX12_findFars_230 (Nat.le_of_ble_eq_true rfl) rfl ?_
              refine zr_iload dX12_findFars_232 rfl ?_
              refine zr_iconst (v := -1) dX12_findFars_234 (by decide) ?_
              refine zr_iceq (tgt := 293) dX12_findFars_235 (by decide) (fun hb => ?_) (fun hb => ?_)
              · have k := k.1 hb
                refine zr_iinc (v := (v3 + 1)) dX12_findFars_293 rfl rfl (Nat.le_of_ble_eq_true rfl) rfl ?_
                refine zr_goto (tgt := 117) dX12_findFars_296 (by decide) ?_
                exact zr_mask [true, true, true, true, false, false] rfl k
              · have k := k.2 hb
                refine zr_aload_n dX12_findFars_238 rfl rfl ?_
                refine zr_getR dX12_findFars_239 zf_X12_120 rfl (hS.has (a := 84) rfl rfl) (hS.ref (a := 117) rfl) ?_
                refine zr_iload_n dX12_findFars_242 rfl rfl ?_
                refine zr_ialdv (x := ((u2 I 117 v3.toNatClampNeg ((I 116 v2.toNatClampNeg) + (I 110 (((48 : Int32) * v2) + v3).toNatClampNeg))) 117 v3.toNatClampNeg)) dX12_findFars_243 (hS.has (a := 117) rfl rfl) hi5 rfl ?_
                refine zr_aload_n dX12_findFars_244 rfl rfl ?_
                refine zr_getR dX12_findFars_245 zf_X12_93 rfl (hS.has (a := 84) rfl rfl) (hS.ref (a := 110) rfl) ?_
                refine zr_bipush (v := 48) dX12_findFars_248 (by decide) ?_
                refine zr_iload dX12_findFars_250 rfl ?_
                refine zr_imul dX12_findFars_252 ?_
                refine zr_iload_n dX12_findFars_253 rfl rfl ?_
                refine zr_iadd dX12_findFars_254 ?_
                obtain ⟨hi7, k⟩ := k
                refine zr_ialdv (x := (I 110 (((48 : Int32) * (I 112 v3.toNatClampNeg)) + v3).toNatClampNeg)) dX12_findFars_255 (hS.has (a := 110) rfl rfl) hi7 rfl ?_
                refine zr_isub dX12_findFars_256 ?_
                refine zr_aload_n dX12_findFars_257 rfl rfl ?_
                refine zr_getR dX12_findFars_258 zf_X12_117 rfl (hS.has (a := 84) rfl rfl) (hS.ref (a := 116) rfl) ?_
                refine zr_iload dX12_findFars_261 rfl ?_
                obtain ⟨hi8, k⟩ := k
                refine zr_ialdv (x := (I 116 (I 112 v3.toNatClampNeg).toNatClampNeg)) dX12_findFars_263 (hS.has (a := 116) rfl rfl) hi8 rfl ?_
                refine zr_icge (tgt := 293) dX12_findFars_264 (by decide) (fun hb => ?_) (fun hb => ?_)
                · have k := k.1 hb
                  refine zr_iinc (v := (v3 + 1)) dX12_findFars_293 rfl rfl (Nat.le_of_ble_eq_true rfl) rfl ?_
                  refine zr_goto (tgt := 117) dX12_findFars_296 (by decide) ?_
                  exact zr_mask [true, true, true, true, false, false] rfl k
                · have k := k.2 hb
                  refine zr_aload_n dX12_findFars_267 rfl rfl ?_
                  refine zr_getR dX12_findFars_268 zf_X12_117 rfl (hS.has (a := 84) rfl rfl) (hS.ref (a := 116) rfl) ?_
                  refine zr_iload dX12_findFars_271 rfl ?_
                  refine zr_aload_n dX12_findFars_273 rfl rfl ?_
                  refine zr_getR dX12_findFars_274 zf_X12_120 rfl (hS.has (a := 84) rfl rfl) (hS.ref (a := 117) rfl) ?_
                  refine zr_iload_n dX12_findFars_277 rfl rfl ?_
                  refine zr_ialdv (x := ((u2 I 117 v3.toNatClampNeg ((I 116 v2.toNatClampNeg) + (I 110 (((48 : Int32) * v2) + v3).toNatClampNeg))) 117 v3.toNatClampNeg)) dX12_findFars_278 (hS.has (a := 117) rfl rfl) hi5 rfl ?_
                  refine zr_aload_n dX12_findFars_279 rfl rfl ?_
                  refine zr_getR dX12_findFars_280 zf_X12_93 rfl (hS.has (a := 84) rfl rfl) (hS.ref (a := 110) rfl) ?_
                  refine zr_bipush (v := 48) dX12_findFars_283 (by decide) ?_
                  refine zr_iload dX12_findFars_285 rfl ?_
                  refine zr_imul dX12_findFars_287 ?_
                  refine zr_iload_n dX12_findFars_288 rfl rfl ?_
                  refine zr_iadd dX12_findFars_289 ?_
                  refine zr_ialdv (x := (I 110 (((48 : Int32) * (I 112 v3.toNatClampNeg)) + v3).toNatClampNeg)) dX12_findFars_290 (hS.has (a := 110) rfl rfl) hi7 rfl ?_
                  refine zr_isub dX12_findFars_291 ?_
                  refine zr_iast dX12_findFars_292 (hS.has (a := 116) rfl rfl) hi8 ?_
                  refine zr_iinc (v := (v3 + 1)) dX12_findFars_293 rfl rfl (Nat.le_of_ble_eq_true rfl) rfl ?_
                  refine zr_goto (tgt := 117) dX12_findFars_296 (by decide) ?_
                  exact zr_mask [true, true, true, true, false, false] rfl k
            · have k := k.2 hb
              refine zr_goto (tgt := 293) dX12_findFars_197 (by decide) ?_
              refine zr_iinc (v := (v3 + 1)) dX12_findFars_293 rfl rfl (Nat.le_of_ble_eq_true rfl) rfl ?_
              refine zr_goto (tgt := 117) dX12_findFars_296 (by decide) ?_
              exact zr_mask [true, true, true, true, false, false] rfl k
          · have k := k.2 hb
            refine zr_iload_n dX12_findFars_171 rfl rfl ?_
            refine zr_aload_n dX12_findFars_172 rfl rfl ?_
            refine zr_getIv (x := (I 84 53)) dX12_findFars_173 zf_X12_114 rfl (hS.has (a := 84) rfl rfl) rfl ?_
            refine zr_iceq (tgt := 293) dX12_findFars_176 (by decide) (fun hb => ?_) (fun hb => ?_)
            · have k := k.1 hb
              refine zr_iinc (v := (v3 + 1)) dX12_findFars_293 rfl rfl (Nat.le_of_ble_eq_true rfl) rfl ?_
              refine zr_goto (tgt := 117) dX12_findFars_296 (by decide) ?_
              exact zr_mask [true, true, true, true, false, false] rfl k
            · have k := k.2 hb
              refine zr_aload_n dX12_findFars_179 rfl rfl ?_
              refine zr_getR dX12_findFars_180 zf_X12_117 rfl (hS.has (a := 84) rfl rfl) (hS.ref (a := 116) rfl) ?_
              refine zr_iload_n dX12_findFars_183 rfl rfl ?_
              refine zr_ialdv (x := (I 116 v2.toNatClampNeg)) dX12_findFars_184 (hS.has (a := 116) rfl rfl) hi6 rfl ?_
              refine zr_iload dX12_findFars_185 rfl ?_
              refine zr_iadd dX12_findFars_187 ?_
              refine zr_aload_n dX12_findFars_188 rfl rfl ?_
              refine zr_getR dX12_findFars_189 zf_X12_120 rfl (hS.has (a := 84) rfl rfl) (hS.ref (a := 117) rfl) ?_
              refine zr_iload_n dX12_findFars_192 rfl rfl ?_
              refine zr_ialdv (x := (I 117 v3.toNatClampNeg)) dX12_findFars_193 (hS.has (a := 117) rfl rfl) hi5 rfl ?_
              refine zr_iclt (tgt := 200) dX12_findFars_194 (by decide) (fun hb => ?_) (fun hb => ?_)
              · have k := k.1 hb
                refine zr_aload_n dX12_findFars_200 rfl rfl ?_
                refine zr_getR dX12_findFars_201 zf_X12_120 rfl (hS.has (a := 84) rfl rfl) (hS.ref (a := 117) rfl) ?_
                refine zr_iload_n dX12_findFars_204 rfl rfl ?_
                refine zr_aload_n dX12_findFars_205 rfl rfl ?_
                refine zr_getR dX12_findFars_206 zf_X12_117 rfl (hS.has (a := 84) rfl rfl) (hS.ref (a := 116) rfl) ?_
                refine zr_iload_n dX12_findFars_209 rfl rfl ?_
                refine zr_ialdv (x := (I 116 v2.toNatClampNeg)) dX12_findFars_210 (hS.has (a := 116) rfl rfl) hi6 rfl ?_
                refine zr_iload dX12_findFars_211 rfl ?_
                refine zr_iadd dX12_findFars_213 ?_
                refine zr_iast dX12_findFars_214 (hS.has (a := 117) rfl rfl) hi5 ?_
                refine zr_aload_n dX12_findFars_215 rfl rfl ?_
                refine zr_getR dX12_findFars_216 zf_X12_123 rfl (hS.has (a := 84) rfl rfl) (hS.ref (a := 118) rfl) ?_
                refine zr_iload_n dX12_findFars_219 rfl rfl ?_
                refine zr_iload_n dX12_findFars_220 rfl rfl ?_
                refine zr_iast dX12_findFars_221 (hS.has (a := 118) rfl rfl) hi5 ?_
                refine zr_iconst (v := 1) dX12_findFars_222 (by decide) ?_
                refine zr_istore_n dX12_findFars_223 rfl (Nat.le_of_ble_eq_true rfl) rfl ?_
                refine zr_aload_n dX12_findFars_224 rfl rfl ?_
                refine zr_getR dX12_findFars_225 zf_X12_99 rfl (hS.has (a := 84) rfl rfl) (hS.ref (a := 112) rfl) ?_
                refine zr_iload_n dX12_findFars_228 rfl rfl ?_
                refine zr_ialdv (x := (I 112 v3.toNatClampNeg)) dX12_findFars_229 (hS.has (a := 112) rfl rfl) hi5 rfl ?_
                refine zr_istore dX12_findFars_230 (Nat.le_of_ble_eq_true rfl) rfl ?_
                refine zr_iload dX12_findFars_232 rfl ?_
                refine zr_iconst (v := -1) dX12_findFars_234 (by decide) ?_
                refine zr_iceq (tgt := 293) dX12_findFars_235 (by decide) (fun hb => ?_) (fun hb => ?_)
                · have k := k.1 hb
                  refine zr_iinc (v := (v3 + 1)) dX12_findFars_293 rfl rfl (Nat.le_of_ble_eq_true rfl) rfl ?_
                  refine zr_goto (tgt := 117) dX12_findFars_296 (by decide) ?_
                  exact zr_mask [true, true, true, true, false, false] rfl k
                · have k := k.2 hb
                  refine zr_aload_n dX12_findFars_238 rfl rfl ?_
                  refine zr_getR dX12_findFars_239 zf_X12_120 rfl (hS.has (a := 84) rfl rfl) (hS.ref (a := 117) rfl) ?_
                  refine zr_iload_n dX12_findFars_242 rfl rfl ?_
                  refine zr_ialdv (x := ((u2 I 117 v3.toNatClampNeg ((I 116 v2.toNatClampNeg) + (I 110 (((48 : Int32) * v2) + v3).toNatClampNeg))) 117 v3.toNatClampNeg)) dX12_findFars_243 (hS.has (a := 117) rfl rfl) hi5 rfl ?_
                  refine zr_aload_n dX12_findFars_244 rfl rfl ?_
                  refine zr_getR dX12_findFars_245 zf_X12_93 rfl (hS.has (a := 84) rfl rfl) (hS.ref (a := 110) rfl) ?_
                  refine zr_bipush (v := 48) dX12_findFars_248 (by decide) ?_
                  refine zr_iload dX12_findFars_250 rfl ?_
                  refine zr_imul dX12_findFars_252 ?_
                  refine zr_iload_n dX12_findFars_253 rfl rfl ?_
                  refine zr_iadd dX12_findFars_254 ?_
                  obtain ⟨hi9, k⟩ := k
                  refine zr_ialdv (x := (I 110 (((48 : Int32) * (I 112 v3.toNatClampNeg)) + v3).toNatClampNeg)) dX12_findFars_255 (hS.has (a := 110) rfl rfl) hi9 rfl ?_
                  refine zr_isub dX12_findFars_256 ?_
                  refine zr_aload_n dX12_findFars_257 rfl rfl ?_
                  refine zr_getR dX12_findFars_258 zf_X12_117 rfl (hS.has (a := 84) rfl rfl) (hS.ref (a := 116) rfl) ?_
                  refine zr_iload dX12_findFars_261 rfl ?_
                  obtain ⟨hi10, k⟩ := k
                  refine zr_ialdv (x := (I 116 (I 112 v3.toNatClampNeg).toNatClampNeg)) dX12_findFars_263 (hS.has (a := 116) rfl rfl) hi10 rfl ?_
                  refine zr_icge (tgt := 293) dX12_findFars_264 (by decide) (fun hb => ?_) (fun hb => ?_)
                  · have k := k.1 hb
                    refine zr_iinc (v := (v3 + 1)) dX12_findFars_293 rfl rfl (Nat.le_of_ble_eq_true rfl) rfl ?_
                    refine zr_goto (tgt := 117) dX12_findFars_296 (by decide) ?_
                    exact zr_mask [true, true, true, true, false, false] rfl k
                  · have k := k.2 hb
                    refine zr_aload_n dX12_findFars_267 rfl rfl ?_
                    refine zr_getR dX12_findFars_268 zf_X12_117 rfl (hS.has (a := 84) rfl rfl) (hS.ref (a := 116) rfl) ?_
                    refine zr_iload dX12_findFars_271 rfl ?_
                    refine zr_aload_n dX12_findFars_273 rfl rfl ?_
                    refine zr_getR dX12_findFars_274 zf_X12_120 rfl (hS.has (a := 84) rfl rfl) (hS.ref (a := 117) rfl) ?_
                    refine zr_iload_n dX12_findFars_277 rfl rfl ?_
                    refine zr_ialdv (x := ((u2 I 117 v3.toNatClampNeg ((I 116 v2.toNatClampNeg) + (I 110 (((48 : Int32) * v2) + v3).toNatClampNeg))) 117 v3.toNatClampNeg)) dX12_findFars_278 (hS.has (a := 117) rfl rfl) hi5 rfl ?_
                    refine zr_aload_n dX12_findFars_279 rfl rfl ?_
                    refine zr_getR dX12_findFars_280 zf_X12_93 rfl (hS.has (a := 84) rfl rfl) (hS.ref (a := 110) rfl) ?_
                    refine zr_bipush (v := 48) dX12_findFars_283 (by decide) ?_
                    refine zr_iload dX12_findFars_285 rfl ?_
                    refine zr_imul dX12_findFars_287 ?_
                    refine zr_iload_n dX12_findFars_288 rfl rfl ?_
                    refine zr_iadd dX12_findFars_289 ?_
                    refine zr_ialdv (x := (I 110 (((48 : Int32) * (I 112 v3.toNatClampNeg)) + v3).toNatClampNeg)) dX12_findFars_290 (hS.has (a := 110) rfl rfl) hi9 rfl ?_
                    refine zr_isub dX12_findFars_291 ?_
                    refine zr_iast dX12_findFars_292 (hS.has (a := 116) rfl rfl) hi10 ?_
                    refine zr_iinc (v := (v3 + 1)) dX12_findFars_293 rfl rfl (Nat.le_of_ble_eq_true rfl) rfl ?_
                    refine zr_goto (tgt := 117) dX12_findFars_296 (by decide) ?_
                    exact zr_mask [true, true, true, true, false, false] rfl k
              · have k := k.2 hb
                refine zr_goto (tgt := 293) dX12_findFars_197 (by decide) ?_
                refine zr_iinc (v := (v3 + 1)) dX12_findFars_293 rfl rfl (Nat.le_of_ble_eq_true rfl) rfl ?_
                refine zr_goto (tgt := 117) dX12_findFars_296 (by decide) ?_
                exact zr_mask [true, true, true, true, false, false] rfl k
set_option maxHeartbeats 2000000 in
theorem vX12_grows_0 {G : Gp} {bc bs : Nat} {Q : zPost} {S : zSh} {I : zFI} {L : zFL}  (hS : zStd S)  (k : ZC G mX12_findFars fX12_findFars lX12_findFars [zo G 84] S I L 0 0 (fun w S' I1 L1 => w = none ∧ S = S' ∧ ZW G mX12_grows fX12_grows lX12_grows 8 [zo G 84, .int (-1 : Int32), .int (0 : Int32), .null, .null] [] S I1 L1 bc bs Q)) : ZW G mX12_grows fX12_grows lX12_grows 0 [zo G 84, .null, .null, .null, .null] [] S I L bc bs Q := by
  refine zr_aload_n dX12_grows_0 rfl rfl ?_
  refine zr_callV (As := []) (fr' := fX12_findFars) (lo' := lX12_findFars) (bc' := 0) (bs' := 0) (bcr := bc) (bsr := bs) dX12_grows_1 zs_X12_344 zi_X12_findFars zcl_12 (hS.has (a := 84) rfl rfl) rfl rfl (Nat.le_of_ble_eq_true rfl) (Nat.le_of_ble_eq_true rfl) (Nat.le_of_ble_eq_true rfl) (Nat.le_refl _) (Nat.le_refl _) ?_
  refine ZC.mono (fun w S' I1 L1 k => ?_) k
  obtain ⟨rfl, rfl, k⟩ := k
  show ZW G mX12_grows fX12_grows lX12_grows 4 [zo G 84, .null, .null, .null, .null] [] S I1 L1 bc bs Q
  refine zr_iconst (v := -1) dX12_grows_4 (by decide) ?_
  refine zr_istore_n dX12_grows_5 rfl (Nat.le_of_ble_eq_true rfl) rfl ?_
  refine zr_iconst (v := 0) dX12_grows_6 (by decide) ?_
  refine zr_istore_n dX12_grows_7 rfl (Nat.le_of_ble_eq_true rfl) rfl ?_
  exact k
set_option maxHeartbeats 2000000 in
theorem vX12_grows_8 {G : Gp} {bc bs : Nat} {Q : zPost} {S : zSh} {I : zFI} {L : zFL} {v1 : Int32} {v2 : Int32} (hS : zStd S)  (k : (((I 84 43) ≤ v2 → ((¬ v1 = (-1 : Int32) → vp_in v1 48 ∧ ZW G mX12_grows fX12_grows lX12_grows 109 [zo G 84, .int v1, .int v1, .null, .null] [] S (u2 (u2 I 84 51 ((I 84 51) + (I 117 v1.toNatClampNeg))) 84 50 ((I 84 50) + (1 : Int32))) L bc bs Q) ∧ (v1 = (-1 : Int32) → Q (some (.int (0 : Int32))) S I L))) ∧ (¬ (I 84 43) ≤ v2 → vp_in v2 48 ∧ ((¬ (I 115 v2.toNatClampNeg) = 0 → ZW G mX12_grows fX12_grows lX12_grows 8 [zo G 84, .int v1, .int (v2 + 1), .null, .null] [] S I L bc bs Q) ∧ ((I 115 v2.toNatClampNeg) = 0 → ((¬ (I 112 v2.toNatClampNeg) = (-1 : Int32) → ZW G mX12_grows fX12_grows lX12_grows 8 [zo G 84, .int v1, .int (v2 + 1), .null, .null] [] S I L bc bs Q) ∧ ((I 112 v2.toNatClampNeg) = (-1 : Int32) → (((1000000 : Int32) ≤ (I 117 v2.toNatClampNeg) → ZW G mX12_grows fX12_grows lX12_grows 8 [zo G 84, .int v1, .int (v2 + 1), .null, .null] [] S I L bc bs Q) ∧ (¬ (1000000 : Int32) ≤ (I 117 v2.toNatClampNeg) → ((v1 = (-1 : Int32) → ZW G mX12_grows fX12_grows lX12_grows 8 [zo G 84, .int v2, .int (v2 + 1), .null, .null] [] S I L bc bs Q) ∧ (¬ v1 = (-1 : Int32) → vp_in v1 48 ∧ (((I 117 v1.toNatClampNeg) ≤ (I 117 v2.toNatClampNeg) → ZW G mX12_grows fX12_grows lX12_grows 8 [zo G 84, .int v1, .int (v2 + 1), .null, .null] [] S I L bc bs Q) ∧ (¬ (I 117 v1.toNatClampNeg) ≤ (I 117 v2.toNatClampNeg) → ZW G mX12_grows fX12_grows lX12_grows 8 [zo G 84, .int v2, .int (v2 + 1), .null, .null] [] S I L bc bs Q))))))))))))) : ZW G mX12_grows fX12_grows lX12_grows 8 [zo G 84, .int v1, .int v2, .null, .null] [] S I L bc bs Q := by
  refine zr_iload_n dX12_grows_8 rfl rfl ?_
  refine zr_aload_n dX12_grows_9 rfl rfl ?_
  refine zr_getIv (x := (I 84 43)) dX12_grows_10 zf_X12_334 rfl (hS.has (a := 84) rfl rfl) rfl ?_
  refine zr_icge (tgt := 75) dX12_grows_13 (by decide) (fun hb => ?_) (fun hb => ?_)
  · have k := k.1 hb
    refine zr_iload_n dX12_grows_75 rfl rfl ?_
    refine zr_iconst (v := -1) dX12_grows_76 (by decide) ?_
    refine zr_icne (tgt := 82) dX12_grows_77 (by decide) (fun hb => ?_) (fun hb => ?_)
    · have k := k.1 hb
      refine zr_aload_n dX12_grows_82 rfl rfl ?_
      refine zr_aload_n dX12_grows_83 rfl rfl ?_
      refine zr_getIv (x := (I 84 51)) dX12_grows_84 zf_X12_340 rfl (hS.has (a := 84) rfl rfl) rfl ?_
      refine zr_aload_n dX12_grows_87 rfl rfl ?_
      refine zr_getR dX12_grows_88 zf_X12_120 rfl (hS.has (a := 84) rfl rfl) (hS.ref (a := 117) rfl) ?_
      refine zr_iload_n dX12_grows_91 rfl rfl ?_
      obtain ⟨hi1, k⟩ := k
      refine zr_ialdv (x := (I 117 v1.toNatClampNeg)) dX12_grows_92 (hS.has (a := 117) rfl rfl) hi1 rfl ?_
      refine zr_iadd dX12_grows_93 ?_
      refine zr_putI dX12_grows_94 zf_X12_340 rfl (hS.has (a := 84) rfl rfl) rfl rfl ?_
      refine zr_aload_n dX12_grows_97 rfl rfl ?_
      refine zr_aload_n dX12_grows_98 rfl rfl ?_
      refine zr_getIv (x := (I 84 50)) dX12_grows_99 zf_X12_337 rfl (hS.has (a := 84) rfl rfl) rfl ?_
      refine zr_iconst (v := 1) dX12_grows_102 (by decide) ?_
      refine zr_iadd dX12_grows_103 ?_
      refine zr_putI dX12_grows_104 zf_X12_337 rfl (hS.has (a := 84) rfl rfl) rfl rfl ?_
      refine zr_iload_n dX12_grows_107 rfl rfl ?_
      refine zr_istore_n dX12_grows_108 rfl (Nat.le_of_ble_eq_true rfl) rfl ?_
      exact k
    · have k := k.2 hb
      refine zr_iconst (v := 0) dX12_grows_80 (by decide) ?_
      exact zr_ireturn dX12_grows_81 rfl rfl k
  · have k := k.2 hb
    refine zr_aload_n dX12_grows_16 rfl rfl ?_
    refine zr_getR dX12_grows_17 zf_X12_108 rfl (hS.has (a := 84) rfl rfl) (hS.ref (a := 115) rfl) ?_
    refine zr_iload_n dX12_grows_20 rfl rfl ?_
    obtain ⟨hi2, k⟩ := k
    refine zr_zaldv (x := (I 115 v2.toNatClampNeg)) dX12_grows_21 (hS.has (a := 115) rfl rfl) hi2 rfl ?_
    refine zr_ifne (tgt := 69) dX12_grows_22 (by decide) (fun hb => ?_) (fun hb => ?_)
    · have k := k.1 hb
      refine zr_iinc (v := (v2 + 1)) dX12_grows_69 rfl rfl (Nat.le_of_ble_eq_true rfl) rfl ?_
      refine zr_goto (tgt := 8) dX12_grows_72 (by decide) ?_
      exact k
    · have k := k.2 hb
      refine zr_aload_n dX12_grows_25 rfl rfl ?_
      refine zr_getR dX12_grows_26 zf_X12_99 rfl (hS.has (a := 84) rfl rfl) (hS.ref (a := 112) rfl) ?_
      refine zr_iload_n dX12_grows_29 rfl rfl ?_
      refine zr_ialdv (x := (I 112 v2.toNatClampNeg)) dX12_grows_30 (hS.has (a := 112) rfl rfl) hi2 rfl ?_
      refine zr_iconst (v := -1) dX12_grows_31 (by decide) ?_
      refine zr_icne (tgt := 69) dX12_grows_32 (by decide) (fun hb => ?_) (fun hb => ?_)
      · have k := k.1 hb
        refine zr_iinc (v := (v2 + 1)) dX12_grows_69 rfl rfl (Nat.le_of_ble_eq_true rfl) rfl ?_
        refine zr_goto (tgt := 8) dX12_grows_72 (by decide) ?_
        exact k
      · have k := k.2 hb
        refine zr_aload_n dX12_grows_35 rfl rfl ?_
        refine zr_getR dX12_grows_36 zf_X12_120 rfl (hS.has (a := 84) rfl rfl) (hS.ref (a := 117) rfl) ?_
        refine zr_iload_n dX12_grows_39 rfl rfl ?_
        refine zr_ialdv (x := (I 117 v2.toNatClampNeg)) dX12_grows_40 (hS.has (a := 117) rfl rfl) hi2 rfl ?_
        refine zr_ldc_w dX12_grows_41 zk_X12_343 ?_
        refine zr_icge (tgt := 69) dX12_grows_44 (by decide) (fun hb => ?_) (fun hb => ?_)
        · have k := k.1 hb
          refine zr_iinc (v := (v2 + 1)) dX12_grows_69 rfl rfl (Nat.le_of_ble_eq_true rfl) rfl ?_
          refine zr_goto (tgt := 8) dX12_grows_72 (by decide) ?_
          exact k
        · have k := k.2 hb
          refine zr_iload_n dX12_grows_47 rfl rfl ?_
          refine zr_iconst (v := -1) dX12_grows_48 (by decide) ?_
          refine zr_iceq (tgt := 67) dX12_grows_49 (by decide) (fun hb => ?_) (fun hb => ?_)
          · have k := k.1 hb
            refine zr_iload_n dX12_grows_67 rfl rfl ?_
            refine zr_istore_n dX12_grows_68 rfl (Nat.le_of_ble_eq_true rfl) rfl ?_
            refine zr_iinc (v := (v2 + 1)) dX12_grows_69 rfl rfl (Nat.le_of_ble_eq_true rfl) rfl ?_
            refine zr_goto (tgt := 8) dX12_grows_72 (by decide) ?_
            exact k
          · have k := k.2 hb
            refine zr_aload_n dX12_grows_52 rfl rfl ?_
            refine zr_getR dX12_grows_53 zf_X12_120 rfl (hS.has (a := 84) rfl rfl) (hS.ref (a := 117) rfl) ?_
            refine zr_iload_n dX12_grows_56 rfl rfl ?_
            refine zr_ialdv (x := (I 117 v2.toNatClampNeg)) dX12_grows_57 (hS.has (a := 117) rfl rfl) hi2 rfl ?_
            refine zr_aload_n dX12_grows_58 rfl rfl ?_
            refine zr_getR dX12_grows_59 zf_X12_120 rfl (hS.has (a := 84) rfl rfl) (hS.ref (a := 117) rfl) ?_
            refine zr_iload_n dX12_grows_62 rfl rfl ?_
            obtain ⟨hi3, k⟩ := k
            refine zr_ialdv (x := (I 117 v1.toNatClampNeg)) dX12_grows_63 (hS.has (a := 117) rfl rfl) hi3 rfl ?_
            refine zr_icge (tgt := 69) dX12_grows_64 (by decide) (fun hb => ?_) (fun hb => ?_)
            · have k := k.1 hb
              refine zr_iinc (v := (v2 + 1)) dX12_grows_69 rfl rfl (Nat.le_of_ble_eq_true rfl) rfl ?_
              refine zr_goto (tgt := 8) dX12_grows_72 (by decide) ?_
              exact k
            · have k := k.2 hb
              refine zr_iload_n dX12_grows_67 rfl rfl ?_
              refine zr_istore_n dX12_grows_68 rfl (Nat.le_of_ble_eq_true rfl) rfl ?_
              refine zr_iinc (v := (v2 + 1)) dX12_grows_69 rfl rfl (Nat.le_of_ble_eq_true rfl) rfl ?_
              refine zr_goto (tgt := 8) dX12_grows_72 (by decide) ?_
              exact k
set_option maxHeartbeats 2000000 in
theorem vX12_grows_109 {G : Gp} {bc bs : Nat} {Q : zPost} {S : zSh} {I : zFI} {L : zFL} {v1 : Int32} {v2 : Int32} (hS : zStd S)  (k : ((v2 = (-1 : Int32) → Q (some (.int (1 : Int32))) S I L) ∧ (¬ v2 = (-1 : Int32) → vp_in v2 48 ∧ vp_in (I 118 v2.toNatClampNeg) 48 ∧ ZW G mX12_grows fX12_grows lX12_grows 109 [zo G 84, .int v1, .int (I 111 (I 118 v2.toNatClampNeg).toNatClampNeg), .null, .null] [] S (u2 (u2 I 111 (I 118 v2.toNatClampNeg).toNatClampNeg v2) 112 v2.toNatClampNeg (I 118 v2.toNatClampNeg)) L bc bs Q))) : ZW G mX12_grows fX12_grows lX12_grows 109 [zo G 84, .int v1, .int v2, .null, .null] [] S I L bc bs Q := by
  refine zr_iload_n dX12_grows_109 rfl rfl ?_
  refine zr_iconst (v := -1) dX12_grows_110 (by decide) ?_
  refine zr_iceq (tgt := 149) dX12_grows_111 (by decide) (fun hb => ?_) (fun hb => ?_)
  · have k := k.1 hb
    refine zr_iconst (v := 1) dX12_grows_149 (by decide) ?_
    exact zr_ireturn dX12_grows_150 rfl rfl k
  · have k := k.2 hb
    refine zr_aload_n dX12_grows_114 rfl rfl ?_
    refine zr_getR dX12_grows_115 zf_X12_123 rfl (hS.has (a := 84) rfl rfl) (hS.ref (a := 118) rfl) ?_
    refine zr_iload_n dX12_grows_118 rfl rfl ?_
    obtain ⟨hi4, k⟩ := k
    refine zr_ialdv (x := (I 118 v2.toNatClampNeg)) dX12_grows_119 (hS.has (a := 118) rfl rfl) hi4 rfl ?_
    refine zr_istore_n dX12_grows_120 rfl (Nat.le_of_ble_eq_true rfl) rfl ?_
    refine zr_aload_n dX12_grows_121 rfl rfl ?_
    refine zr_getR dX12_grows_122 zf_X12_96 rfl (hS.has (a := 84) rfl rfl) (hS.ref (a := 111) rfl) ?_
    refine zr_iload_n dX12_grows_125 rfl rfl ?_
    obtain ⟨hi5, k⟩ := k
    refine zr_ialdv (x := (I 111 (I 118 v2.toNatClampNeg).toNatClampNeg)) dX12_grows_126 (hS.has (a := 111) rfl rfl) hi5 rfl ?_
    refine zr_istore dX12_grows_127 (Nat.le_of_ble_eq_true rfl) rfl ?_
    refine zr_aload_n dX12_grows_129 rfl rfl ?_
    refine zr_getR dX12_grows_130 zf_X12_96 rfl (hS.has (a := 84) rfl rfl) (hS.ref (a := 111) rfl) ?_
    refine zr_iload_n dX12_grows_133 rfl rfl ?_
    refine zr_iload_n dX12_grows_134 rfl rfl ?_
    refine zr_iast dX12_grows_135 (hS.has (a := 111) rfl rfl) hi5 ?_
    refine zr_aload_n dX12_grows_136 rfl rfl ?_
    refine zr_getR dX12_grows_137 zf_X12_99 rfl (hS.has (a := 84) rfl rfl) (hS.ref (a := 112) rfl) ?_
    refine zr_iload_n dX12_grows_140 rfl rfl ?_
    refine zr_iload_n dX12_grows_141 rfl rfl ?_
    refine zr_iast dX12_grows_142 (hS.has (a := 112) rfl rfl) hi4 ?_
    refine zr_iload dX12_grows_143 rfl ?_
    refine zr_istore_n dX12_grows_145 rfl (Nat.le_of_ble_eq_true rfl) rfl ?_
    refine zr_goto (tgt := 109) dX12_grows_146 (by decide) ?_
    exact zr_mask [true, true, true, false, false] rfl k
set_option maxHeartbeats 2000000 in
theorem vX12_solves_0 {G : Gp} {bc bs : Nat} {Q : zPost} {S : zSh} {I : zFI} {L : zFL} {v1 : Int32} {v2 : Int32} (hS : zStd S)  (k : ZW G mX12_solves fX12_solves lX12_solves 2 [zo G 84, .int v1, .int v2, .int (0 : Int32)] [] S I L bc bs Q) : ZW G mX12_solves fX12_solves lX12_solves 0 [zo G 84, .int v1, .int v2, .null] [] S I L bc bs Q := by
  refine zr_iconst (v := 0) dX12_solves_0 (by decide) ?_
  refine zr_istore_n dX12_solves_1 rfl (Nat.le_of_ble_eq_true rfl) rfl ?_
  exact k
set_option maxHeartbeats 2000000 in
theorem vX12_solves_2 {G : Gp} {bc bs : Nat} {Q : zPost} {S : zSh} {I : zFI} {L : zFL} {v1 : Int32} {v2 : Int32} {v3 : Int32} (hS : zStd S)  (k : (((I 84 42) ≤ v3 → ZW G mX12_solves fX12_solves lX12_solves 25 [zo G 84, .int v1, .int v2, .int (0 : Int32)] [] S I L bc bs Q) ∧ (¬ (I 84 42) ≤ v3 → vp_in v3 48 ∧ ZW G mX12_solves fX12_solves lX12_solves 2 [zo G 84, .int v1, .int v2, .int (v3 + 1)] [] S (u2 I 111 v3.toNatClampNeg (-1 : Int32)) L bc bs Q))) : ZW G mX12_solves fX12_solves lX12_solves 2 [zo G 84, .int v1, .int v2, .int v3] [] S I L bc bs Q := by
  refine zr_iload_n dX12_solves_2 rfl rfl ?_
  refine zr_aload_n dX12_solves_3 rfl rfl ?_
  refine zr_getIv (x := (I 84 42)) dX12_solves_4 zf_X12_331 rfl (hS.has (a := 84) rfl rfl) rfl ?_
  refine zr_icge (tgt := 23) dX12_solves_7 (by decide) (fun hb => ?_) (fun hb => ?_)
  · have k := k.1 hb
    refine zr_iconst (v := 0) dX12_solves_23 (by decide) ?_
    refine zr_istore_n dX12_solves_24 rfl (Nat.le_of_ble_eq_true rfl) rfl ?_
    exact k
  · have k := k.2 hb
    refine zr_aload_n dX12_solves_10 rfl rfl ?_
    refine zr_getR dX12_solves_11 zf_X12_96 rfl (hS.has (a := 84) rfl rfl) (hS.ref (a := 111) rfl) ?_
    refine zr_iload_n dX12_solves_14 rfl rfl ?_
    refine zr_iconst (v := -1) dX12_solves_15 (by decide) ?_
    obtain ⟨hi1, k⟩ := k
    refine zr_iast dX12_solves_16 (hS.has (a := 111) rfl rfl) hi1 ?_
    refine zr_iinc (v := (v3 + 1)) dX12_solves_17 rfl rfl (Nat.le_of_ble_eq_true rfl) rfl ?_
    refine zr_goto (tgt := 2) dX12_solves_20 (by decide) ?_
    exact k
set_option maxHeartbeats 2000000 in
theorem vX12_solves_25 {G : Gp} {bc bs : Nat} {Q : zPost} {S : zSh} {I : zFI} {L : zFL} {v1 : Int32} {v2 : Int32} {v3 : Int32} (hS : zStd S)  (k : (((I 84 43) ≤ v3 → ZW G mX12_solves fX12_solves lX12_solves 58 [zo G 84, .int v1, .int v2, .int (1 : Int32)] [] S (u2 (u2 I 84 50 v1) 84 51 v2) L bc bs Q) ∧ (¬ (I 84 43) ≤ v3 → vp_in v3 48 ∧ ZW G mX12_solves fX12_solves lX12_solves 25 [zo G 84, .int v1, .int v2, .int (v3 + 1)] [] S (u2 I 112 v3.toNatClampNeg (-1 : Int32)) L bc bs Q))) : ZW G mX12_solves fX12_solves lX12_solves 25 [zo G 84, .int v1, .int v2, .int v3] [] S I L bc bs Q := by
  refine zr_iload_n dX12_solves_25 rfl rfl ?_
  refine zr_aload_n dX12_solves_26 rfl rfl ?_
  refine zr_getIv (x := (I 84 43)) dX12_solves_27 zf_X12_334 rfl (hS.has (a := 84) rfl rfl) rfl ?_
  refine zr_icge (tgt := 46) dX12_solves_30 (by decide) (fun hb => ?_) (fun hb => ?_)
  · have k := k.1 hb
    refine zr_aload_n dX12_solves_46 rfl rfl ?_
    refine zr_iload_n dX12_solves_47 rfl rfl ?_
    refine zr_putI dX12_solves_48 zf_X12_337 rfl (hS.has (a := 84) rfl rfl) rfl rfl ?_
    refine zr_aload_n dX12_solves_51 rfl rfl ?_
    refine zr_iload_n dX12_solves_52 rfl rfl ?_
    refine zr_putI dX12_solves_53 zf_X12_340 rfl (hS.has (a := 84) rfl rfl) rfl rfl ?_
    refine zr_iconst (v := 1) dX12_solves_56 (by decide) ?_
    refine zr_istore_n dX12_solves_57 rfl (Nat.le_of_ble_eq_true rfl) rfl ?_
    exact k
  · have k := k.2 hb
    refine zr_aload_n dX12_solves_33 rfl rfl ?_
    refine zr_getR dX12_solves_34 zf_X12_99 rfl (hS.has (a := 84) rfl rfl) (hS.ref (a := 112) rfl) ?_
    refine zr_iload_n dX12_solves_37 rfl rfl ?_
    refine zr_iconst (v := -1) dX12_solves_38 (by decide) ?_
    obtain ⟨hi2, k⟩ := k
    refine zr_iast dX12_solves_39 (hS.has (a := 112) rfl rfl) hi2 ?_
    refine zr_iinc (v := (v3 + 1)) dX12_solves_40 rfl rfl (Nat.le_of_ble_eq_true rfl) rfl ?_
    refine zr_goto (tgt := 25) dX12_solves_43 (by decide) ?_
    exact k
set_option maxHeartbeats 2000000 in
theorem vX12_solves_58 {G : Gp} {bc bs : Nat} {Q : zPost} {S : zSh} {I : zFI} {L : zFL} {v1 : Int32} {v2 : Int32} {v3 : Int32} (hS : zStd S)  (k : ((v3 = 0 → Q none S I L) ∧ (¬ v3 = 0 → ZC G mX12_grows fX12_grows lX12_grows [zo G 84] S I L 0 0 (fun w S' I1 L1 => ∃ r1 : Int32, w = some (.int r1) ∧ S = S' ∧ ZW G mX12_solves fX12_solves lX12_solves 58 [zo G 84, .int v1, .int v2, .int r1] [] S I1 L1 bc bs Q)))) : ZW G mX12_solves fX12_solves lX12_solves 58 [zo G 84, .int v1, .int v2, .int v3] [] S I L bc bs Q := by
  refine zr_iload_n dX12_solves_58 rfl rfl ?_
  refine zr_ifeq (tgt := 70) dX12_solves_59 (by decide) (fun hb => ?_) (fun hb => ?_)
  · have k := k.1 hb
    exact zr_return_ dX12_solves_70 rfl k
  · have k := k.2 hb
    refine zr_aload_n dX12_solves_62 rfl rfl ?_
    refine zr_callV (As := []) (fr' := fX12_grows) (lo' := lX12_grows) (bc' := 0) (bs' := 0) (bcr := bc) (bsr := bs) dX12_solves_63 zs_X12_347 zi_X12_grows zcl_12 (hS.has (a := 84) rfl rfl) rfl rfl (Nat.le_of_ble_eq_true rfl) (Nat.le_of_ble_eq_true rfl) (Nat.le_of_ble_eq_true rfl) (Nat.le_refl _) (Nat.le_refl _) ?_
    refine ZC.mono (fun w S' I1 L1 k => ?_) k
    obtain ⟨r1, rfl, rfl, k⟩ := k
    show ZW G mX12_solves fX12_solves lX12_solves 66 [zo G 84, .int v1, .int v2, .int v3] [.int r1] S I1 L1 bc bs Q
    refine zr_istore_n dX12_solves_66 rfl (Nat.le_of_ble_eq_true rfl) rfl ?_
    refine zr_goto (tgt := 58) dX12_solves_67 (by decide) ?_
    exact k
set_option maxHeartbeats 2000000 in
theorem vX12_findJoin_0 {G : Gp} {bc bs : Nat} {Q : zPost} {S : zSh} {I : zFI} {L : zFL} {v1 : Int32} (hS : zStd S)  (k : ZC G mX12_findRows fX12_findRows lX12_findRows [zo G 84, .int v1] S I L 0 0 (fun w S' I1 L1 => w = none ∧ S = S' ∧ ZC G mX12_solves fX12_solves lX12_solves [zo G 84, .int (0 : Int32), .int (0 : Int32)] S I1 L1 0 0 (fun w S' I2 L2 => w = none ∧ S = S' ∧ ZW G mX12_findJoin fX12_findJoin lX12_findJoin 30 [zo G 84, .int v1, .int (I2 84 50), .int (I2 84 51), .int (0 : Int32), .int (0 : Int32), .int (0 : Int32), .null, .null, .null] [] S I2 L2 bc bs Q))) : ZW G mX12_findJoin fX12_findJoin lX12_findJoin 0 [zo G 84, .int v1, .null, .null, .null, .null, .null, .null, .null, .null] [] S I L bc bs Q := by
  refine zr_aload_n dX12_findJoin_0 rfl rfl ?_
  refine zr_iload_n dX12_findJoin_1 rfl rfl ?_
  refine zr_callV (As := [.int v1]) (fr' := fX12_findRows) (lo' := lX12_findRows) (bc' := 0) (bs' := 0) (bcr := bc) (bsr := bs) dX12_findJoin_2 zs_X12_351 zi_X12_findRows zcl_12 (hS.has (a := 84) rfl rfl) rfl rfl (Nat.le_of_ble_eq_true rfl) (Nat.le_of_ble_eq_true rfl) (Nat.le_of_ble_eq_true rfl) (Nat.le_refl _) (Nat.le_refl _) ?_
  refine ZC.mono (fun w S' I1 L1 k => ?_) k
  obtain ⟨rfl, rfl, k⟩ := k
  show ZW G mX12_findJoin fX12_findJoin lX12_findJoin 5 [zo G 84, .int v1, .null, .null, .null, .null, .null, .null, .null, .null] [] S I1 L1 bc bs Q
  refine zr_aload_n dX12_findJoin_5 rfl rfl ?_
  refine zr_iconst (v := 0) dX12_findJoin_6 (by decide) ?_
  refine zr_iconst (v := 0) dX12_findJoin_7 (by decide) ?_
  refine zr_callV (As := [.int (0 : Int32), .int (0 : Int32)]) (fr' := fX12_solves) (lo' := lX12_solves) (bc' := 0) (bs' := 0) (bcr := bc) (bsr := bs) dX12_findJoin_8 zs_X12_354 zi_X12_solves zcl_12 (hS.has (a := 84) rfl rfl) rfl rfl (Nat.le_of_ble_eq_true rfl) (Nat.le_of_ble_eq_true rfl) (Nat.le_of_ble_eq_true rfl) (Nat.le_refl _) (Nat.le_refl _) ?_
  refine ZC.mono (fun w S' I2 L2 k => ?_) k
  obtain ⟨rfl, rfl, k⟩ := k
  show ZW G mX12_findJoin fX12_findJoin lX12_findJoin 11 [zo G 84, .int v1, .null, .null, .null, .null, .null, .null, .null, .null] [] S I2 L2 bc bs Q
  refine zr_aload_n dX12_findJoin_11 rfl rfl ?_
  refine zr_getIv (x := (I2 84 50)) dX12_findJoin_12 zf_X12_337 rfl (hS.has (a := 84) rfl rfl) rfl ?_
  refine zr_istore_n dX12_findJoin_15 rfl (Nat.le_of_ble_eq_true rfl) rfl ?_
  refine zr_aload_n dX12_findJoin_16 rfl rfl ?_
  refine zr_getIv (x := (I2 84 51)) dX12_findJoin_17 zf_X12_340 rfl (hS.has (a := 84) rfl rfl) rfl ?_
  refine zr_istore_n dX12_findJoin_20 rfl (Nat.le_of_ble_eq_true rfl) rfl ?_
  refine zr_iconst (v := 0) dX12_findJoin_21 (by decide) ?_
  refine zr_istore dX12_findJoin_22 (Nat.le_of_ble_eq_true rfl) rfl ?_
  refine zr_iconst (v := 0) dX12_findJoin_24 (by decide) ?_
  refine zr_istore dX12_findJoin_25 (Nat.le_of_ble_eq_true rfl) rfl ?_
  refine zr_iconst (v := 0) dX12_findJoin_27 (by decide) ?_
  refine zr_istore dX12_findJoin_28 (Nat.le_of_ble_eq_true rfl) rfl ?_
  exact k
set_option maxHeartbeats 2000000 in
theorem vX12_findJoin_30 {G : Gp} {bc bs : Nat} {Q : zPost} {S : zSh} {I : zFI} {L : zFL} {v1 : Int32} {v2 : Int32} {v3 : Int32} {v4 : Int32} {v5 : Int32} {v6 : Int32} (hS : zStd S)  (k : (((I 84 42) ≤ v6 → ZW G mX12_findJoin fX12_findJoin lX12_findJoin 197 [zo G 84, .int v1, .int v2, .int v3, .int v4, .int v5, .int (0 : Int32), .null, .null, .null] [] S I L bc bs Q) ∧ (¬ (I 84 42) ≤ v6 → vp_in v6 48 ∧ ZW G mX12_findJoin fX12_findJoin lX12_findJoin 58 [zo G 84, .int v1, .int v2, .int v3, .int v4, .int v5, .int v6, .int (0 : Int32), .null, .null] [] S (u2 (u2 I 114 v6.toNatClampNeg (1 : Int32)) 113 v6.toNatClampNeg (-1 : Int32)) L bc bs Q))) : ZW G mX12_findJoin fX12_findJoin lX12_findJoin 30 [zo G 84, .int v1, .int v2, .int v3, .int v4, .int v5, .int v6, .null, .null, .null] [] S I L bc bs Q := by
  refine zr_iload dX12_findJoin_30 rfl ?_
  refine zr_aload_n dX12_findJoin_32 rfl rfl ?_
  refine zr_getIv (x := (I 84 42)) dX12_findJoin_33 zf_X12_331 rfl (hS.has (a := 84) rfl rfl) rfl ?_
  refine zr_icge (tgt := 194) dX12_findJoin_36 (by decide) (fun hb => ?_) (fun hb => ?_)
  · have k := k.1 hb
    refine zr_iconst (v := 0) dX12_findJoin_194 (by decide) ?_
    refine zr_istore dX12_findJoin_195 (Nat.le_of_ble_eq_true rfl) rfl ?_
    exact k
  · have k := k.2 hb
    refine zr_aload_n dX12_findJoin_39 rfl rfl ?_
    refine zr_getR dX12_findJoin_40 zf_X12_105 rfl (hS.has (a := 84) rfl rfl) (hS.ref (a := 114) rfl) ?_
    refine zr_iload dX12_findJoin_43 rfl ?_
    refine zr_iconst (v := 1) dX12_findJoin_45 (by decide) ?_
    obtain ⟨hi1, k⟩ := k
    refine zr_zast dX12_findJoin_46 (hS.has (a := 114) rfl rfl) hi1 rfl ?_
    refine zr_aload_n dX12_findJoin_47 rfl rfl ?_
    refine zr_getR dX12_findJoin_48 zf_X12_102 rfl (hS.has (a := 84) rfl rfl) (hS.ref (a := 113) rfl) ?_
    refine zr_iload dX12_findJoin_51 rfl ?_
    refine zr_iconst (v := -1) dX12_findJoin_53 (by decide) ?_
    refine zr_iast dX12_findJoin_54 (hS.has (a := 113) rfl rfl) hi1 ?_
    refine zr_iconst (v := 0) dX12_findJoin_55 (by decide) ?_
    refine zr_istore dX12_findJoin_56 (Nat.le_of_ble_eq_true rfl) rfl ?_
    exact k
set_option maxHeartbeats 2000000 in
theorem vX12_findJoin_58 {G : Gp} {bc bs : Nat} {Q : zPost} {S : zSh} {I : zFI} {L : zFL} {v1 : Int32} {v2 : Int32} {v3 : Int32} {v4 : Int32} {v5 : Int32} {v6 : Int32} {v7 : Int32} (hS : zStd S)  (k : (((I 84 43) ≤ v7 → ZW G mX12_findJoin fX12_findJoin lX12_findJoin 30 [zo G 84, .int v1, .int v2, .int v3, .int v4, .int v5, .int (v6 + 1), .null, .null, .null] [] S I L bc bs Q) ∧ (¬ (I 84 43) ≤ v7 → vp_in v6 48 ∧ ((¬ (I 113 v6.toNatClampNeg) = (-1 : Int32) → ZW G mX12_findJoin fX12_findJoin lX12_findJoin 30 [zo G 84, .int v1, .int v2, .int v3, .int v4, .int v5, .int (v6 + 1), .null, .null, .null] [] S I L bc bs Q) ∧ ((I 113 v6.toNatClampNeg) = (-1 : Int32) → vp_in (((48 : Int32) * v6) + v7) 2304 ∧ (((I 110 (((48 : Int32) * v6) + v7).toNatClampNeg) = (-1 : Int32) → ZW G mX12_findJoin fX12_findJoin lX12_findJoin 58 [zo G 84, .int v1, .int v2, .int v3, .int v4, .int v5, .int v6, .int (v7 + 1), .null, .null] [] S I L bc bs Q) ∧ (¬ (I 110 (((48 : Int32) * v6) + v7).toNatClampNeg) = (-1 : Int32) → vp_in v7 48 ∧ (((I 115 v7.toNatClampNeg) = 0 → ZC G mX12_solves fX12_solves lX12_solves [zo G 84, .int (v4 + (1 : Int32)), .int (v5 + (I 110 (((48 : Int32) * v6) + v7).toNatClampNeg))] S (u2 I 115 v7.toNatClampNeg (1 : Int32)) L 0 0 (fun w S' I1 L1 => w = none ∧ S = S' ∧ ((¬ (I1 84 50) = v2 → ZW G mX12_findJoin fX12_findJoin lX12_findJoin 58 [zo G 84, .int v1, .int v2, .int v3, .int v4, .int v5, .int v6, .int (v7 + 1), .null, .null] [] S (u2 I1 115 v7.toNatClampNeg (0 : Int32)) L1 bc bs Q) ∧ ((I1 84 50) = v2 → ((¬ (I1 84 51) = v3 → ZW G mX12_findJoin fX12_findJoin lX12_findJoin 58 [zo G 84, .int v1, .int v2, .int v3, .int v4, .int v5, .int v6, .int (v7 + 1), .null, .null] [] S (u2 I1 115 v7.toNatClampNeg (0 : Int32)) L1 bc bs Q) ∧ ((I1 84 51) = v3 → ZW G mX12_findJoin fX12_findJoin lX12_findJoin 58 [zo G 84, .int v1, .int v2, .int v3, .int (v4 + (1 : Int32)), .int (v5 + (I 110 (((48 : Int32) * v6) + v7).toNatClampNeg)), .int v6, .int (v7 + 1), .null, .null] [] S (u2 I1 113 v6.toNatClampNeg v7) L1 bc bs Q)))))) ∧ (¬ (I 115 v7.toNatClampNeg) = 0 → ZW G mX12_findJoin fX12_findJoin lX12_findJoin 58 [zo G 84, .int v1, .int v2, .int v3, .int v4, .int v5, .int v6, .int (v7 + 1), .null, .null] [] S I L bc bs Q))))))))) : ZW G mX12_findJoin fX12_findJoin lX12_findJoin 58 [zo G 84, .int v1, .int v2, .int v3, .int v4, .int v5, .int v6, .int v7, .null, .null] [] S I L bc bs Q := by
  refine zr_iload dX12_findJoin_58 rfl ?_
  refine zr_aload_n dX12_findJoin_60 rfl rfl ?_
  refine zr_getIv (x := (I 84 43)) dX12_findJoin_61 zf_X12_334 rfl (hS.has (a := 84) rfl rfl) rfl ?_
  refine zr_icge (tgt := 188) dX12_findJoin_64 (by decide) (fun hb => ?_) (fun hb => ?_)
  · have k := k.1 hb
    refine zr_iinc (v := (v6 + 1)) dX12_findJoin_188 rfl rfl (Nat.le_of_ble_eq_true rfl) rfl ?_
    refine zr_goto (tgt := 30) dX12_findJoin_191 (by decide) ?_
    exact zr_mask [true, true, true, true, true, true, true, false, false, false] rfl k
  · have k := k.2 hb
    refine zr_aload_n dX12_findJoin_67 rfl rfl ?_
    refine zr_getR dX12_findJoin_68 zf_X12_102 rfl (hS.has (a := 84) rfl rfl) (hS.ref (a := 113) rfl) ?_
    refine zr_iload dX12_findJoin_71 rfl ?_
    obtain ⟨hi2, k⟩ := k
    refine zr_ialdv (x := (I 113 v6.toNatClampNeg)) dX12_findJoin_73 (hS.has (a := 113) rfl rfl) hi2 rfl ?_
    refine zr_iconst (v := -1) dX12_findJoin_74 (by decide) ?_
    refine zr_icne (tgt := 188) dX12_findJoin_75 (by decide) (fun hb => ?_) (fun hb => ?_)
    · have k := k.1 hb
      refine zr_iinc (v := (v6 + 1)) dX12_findJoin_188 rfl rfl (Nat.le_of_ble_eq_true rfl) rfl ?_
      refine zr_goto (tgt := 30) dX12_findJoin_191 (by decide) ?_
      exact zr_mask [true, true, true, true, true, true, true, false, false, false] rfl k
    · have k := k.2 hb
      refine zr_aload_n dX12_findJoin_78 rfl rfl ?_
      refine zr_getR dX12_findJoin_79 zf_X12_93 rfl (hS.has (a := 84) rfl rfl) (hS.ref (a := 110) rfl) ?_
      refine zr_bipush (v := 48) dX12_findJoin_82 (by decide) ?_
      refine zr_iload dX12_findJoin_84 rfl ?_
      refine zr_imul dX12_findJoin_86 ?_
      refine zr_iload dX12_findJoin_87 rfl ?_
      refine zr_iadd dX12_findJoin_89 ?_
      obtain ⟨hi3, k⟩ := k
      refine zr_ialdv (x := (I 110 (((48 : Int32) * v6) + v7).toNatClampNeg)) dX12_findJoin_90 (hS.has (a := 110) rfl rfl) hi3 rfl ?_
      refine zr_istore dX12_findJoin_91 (Nat.le_of_ble_eq_true rfl) rfl ?_
      refine zr_iload dX12_findJoin_93 rfl ?_
      refine zr_iconst (v := -1) dX12_findJoin_95 (by decide) ?_
      refine zr_iceq (tgt := 182) dX12_findJoin_96 (by decide) (fun hb => ?_) (fun hb => ?_)
      · have k := k.1 hb
        refine zr_iinc (v := (v7 + 1)) dX12_findJoin_182 rfl rfl (Nat.le_of_ble_eq_true rfl) rfl ?_
        refine zr_goto (tgt := 58) dX12_findJoin_185 (by decide) ?_
        exact zr_mask [true, true, true, true, true, true, true, true, false, false] rfl k
      · have k := k.2 hb
        refine zr_aload_n dX12_findJoin_99 rfl rfl ?_
        refine zr_getR dX12_findJoin_100 zf_X12_108 rfl (hS.has (a := 84) rfl rfl) (hS.ref (a := 115) rfl) ?_
        refine zr_iload dX12_findJoin_103 rfl ?_
        obtain ⟨hi4, k⟩ := k
        refine zr_zaldv (x := (I 115 v7.toNatClampNeg)) dX12_findJoin_105 (hS.has (a := 115) rfl rfl) hi4 rfl ?_
        refine zr_ifeq (tgt := 112) dX12_findJoin_106 (by decide) (fun hb => ?_) (fun hb => ?_)
        · have k := k.1 hb
          refine zr_aload_n dX12_findJoin_112 rfl rfl ?_
          refine zr_getR dX12_findJoin_113 zf_X12_108 rfl (hS.has (a := 84) rfl rfl) (hS.ref (a := 115) rfl) ?_
          refine zr_iload dX12_findJoin_116 rfl ?_
          refine zr_iconst (v := 1) dX12_findJoin_118 (by decide) ?_
          refine zr_zast dX12_findJoin_119 (hS.has (a := 115) rfl rfl) hi4 rfl ?_
          refine zr_aload_n dX12_findJoin_120 rfl rfl ?_
          refine zr_iload dX12_findJoin_121 rfl ?_
          refine zr_iconst (v := 1) dX12_findJoin_123 (by decide) ?_
          refine zr_iadd dX12_findJoin_124 ?_
          refine zr_iload dX12_findJoin_125 rfl ?_
          refine zr_iload dX12_findJoin_127 rfl ?_
          refine zr_iadd dX12_findJoin_129 ?_
          refine zr_callV (As := [.int (v4 + (1 : Int32)), .int (v5 + (I 110 (((48 : Int32) * v6) + v7).toNatClampNeg))]) (fr' := fX12_solves) (lo' := lX12_solves) (bc' := 0) (bs' := 0) (bcr := bc) (bsr := bs) dX12_findJoin_130 zs_X12_354 zi_X12_solves zcl_12 (hS.has (a := 84) rfl rfl) rfl rfl (Nat.le_of_ble_eq_true rfl) (Nat.le_of_ble_eq_true rfl) (Nat.le_of_ble_eq_true rfl) (Nat.le_refl _) (Nat.le_refl _) ?_
          refine ZC.mono (fun w S' I1 L1 k => ?_) k
          obtain ⟨rfl, rfl, k⟩ := k
          show ZW G mX12_findJoin fX12_findJoin lX12_findJoin 133 [zo G 84, .int v1, .int v2, .int v3, .int v4, .int v5, .int v6, .int v7, .int (I 110 (((48 : Int32) * v6) + v7).toNatClampNeg), .null] [] S I1 L1 bc bs Q
          refine zr_aload_n dX12_findJoin_133 rfl rfl ?_
          refine zr_getIv (x := (I1 84 50)) dX12_findJoin_134 zf_X12_337 rfl (hS.has (a := 84) rfl rfl) rfl ?_
          refine zr_iload_n dX12_findJoin_137 rfl rfl ?_
          refine zr_icne (tgt := 174) dX12_findJoin_138 (by decide) (fun hb => ?_) (fun hb => ?_)
          · have k := k.1 hb
            refine zr_aload_n dX12_findJoin_174 rfl rfl ?_
            refine zr_getR dX12_findJoin_175 zf_X12_108 rfl (hS.has (a := 84) rfl rfl) (hS.ref (a := 115) rfl) ?_
            refine zr_iload dX12_findJoin_178 rfl ?_
            refine zr_iconst (v := 0) dX12_findJoin_180 (by decide) ?_
            refine zr_zast dX12_findJoin_181 (hS.has (a := 115) rfl rfl) hi4 rfl ?_
            refine zr_iinc (v := (v7 + 1)) dX12_findJoin_182 rfl rfl (Nat.le_of_ble_eq_true rfl) rfl ?_
            refine zr_goto (tgt := 58) dX12_findJoin_185 (by decide) ?_
            exact zr_mask [true, true, true, true, true, true, true, true, false, false] rfl k
          · have k := k.2 hb
            refine zr_aload_n dX12_findJoin_141 rfl rfl ?_
            refine zr_getIv (x := (I1 84 51)) dX12_findJoin_142 zf_X12_340 rfl (hS.has (a := 84) rfl rfl) rfl ?_
            refine zr_iload_n dX12_findJoin_145 rfl rfl ?_
            refine zr_icne (tgt := 174) dX12_findJoin_146 (by decide) (fun hb => ?_) (fun hb => ?_)
            · have k := k.1 hb
              refine zr_aload_n dX12_findJoin_174 rfl rfl ?_
              refine zr_getR dX12_findJoin_175 zf_X12_108 rfl (hS.has (a := 84) rfl rfl) (hS.ref (a := 115) rfl) ?_
              refine zr_iload dX12_findJoin_178 rfl ?_
              refine zr_iconst (v := 0) dX12_findJoin_180 (by decide) ?_
              refine zr_zast dX12_findJoin_181 (hS.has (a := 115) rfl rfl) hi4 rfl ?_
              refine zr_iinc (v := (v7 + 1)) dX12_findJoin_182 rfl rfl (Nat.le_of_ble_eq_true rfl) rfl ?_
              refine zr_goto (tgt := 58) dX12_findJoin_185 (by decide) ?_
              exact zr_mask [true, true, true, true, true, true, true, true, false, false] rfl k
            · have k := k.2 hb
              refine zr_aload_n dX12_findJoin_149 rfl rfl ?_
              refine zr_getR dX12_findJoin_150 zf_X12_102 rfl (hS.has (a := 84) rfl rfl) (hS.ref (a := 113) rfl) ?_
              refine zr_iload dX12_findJoin_153 rfl ?_
              refine zr_iload dX12_findJoin_155 rfl ?_
              refine zr_iast dX12_findJoin_157 (hS.has (a := 113) rfl rfl) hi2 ?_
              refine zr_iload dX12_findJoin_158 rfl ?_
              refine zr_iconst (v := 1) dX12_findJoin_160 (by decide) ?_
              refine zr_iadd dX12_findJoin_161 ?_
              refine zr_istore dX12_findJoin_162 (Nat.le_of_ble_eq_true rfl) rfl ?_
              refine zr_iload dX12_findJoin_164 rfl ?_
              refine zr_iload dX12_findJoin_166 rfl ?_
              refine zr_iadd dX12_findJoin_168 ?_
              refine zr_istore dX12_findJoin_169 (Nat.le_of_ble_eq_true rfl) rfl ?_
              refine zr_goto (tgt := 182) dX12_findJoin_171 (by decide) ?_
              refine zr_iinc (v := (v7 + 1)) dX12_findJoin_182 rfl rfl (Nat.le_of_ble_eq_true rfl) rfl ?_
              refine zr_goto (tgt := 58) dX12_findJoin_185 (by decide) ?_
              exact zr_mask [true, true, true, true, true, true, true, true, false, false] rfl k
        · have k := k.2 hb
          refine zr_goto (tgt := 182) dX12_findJoin_109 (by decide) ?_
          refine zr_iinc (v := (v7 + 1)) dX12_findJoin_182 rfl rfl (Nat.le_of_ble_eq_true rfl) rfl ?_
          refine zr_goto (tgt := 58) dX12_findJoin_185 (by decide) ?_
          exact zr_mask [true, true, true, true, true, true, true, true, false, false] rfl k
set_option maxHeartbeats 2000000 in
theorem vX12_findJoin_197 {G : Gp} {bc bs : Nat} {Q : zPost} {S : zSh} {I : zFI} {L : zFL} {v1 : Int32} {v2 : Int32} {v3 : Int32} {v4 : Int32} {v5 : Int32} {v6 : Int32} (hS : zStd S)  (k : (((I 84 42) ≤ v6 → ZW G mX12_findJoin fX12_findJoin lX12_findJoin 223 [zo G 84, .int v1, .int v2, .int v3, .int v4, .int v5, .int (0 : Int32), .null, .null, .null] [] S I L bc bs Q) ∧ (¬ (I 84 42) ≤ v6 → vp_in v6 48 ∧ ZW G mX12_findJoin fX12_findJoin lX12_findJoin 197 [zo G 84, .int v1, .int v2, .int v3, .int v4, .int v5, .int (v6 + 1), .null, .null, .null] [] S (u2 I 114 v6.toNatClampNeg (0 : Int32)) L bc bs Q))) : ZW G mX12_findJoin fX12_findJoin lX12_findJoin 197 [zo G 84, .int v1, .int v2, .int v3, .int v4, .int v5, .int v6, .null, .null, .null] [] S I L bc bs Q := by
  refine zr_iload dX12_findJoin_197 rfl ?_
  refine zr_aload_n dX12_findJoin_199 rfl rfl ?_
  refine zr_getIv (x := (I 84 42)) dX12_findJoin_200 zf_X12_331 rfl (hS.has (a := 84) rfl rfl) rfl ?_
  refine zr_icge (tgt := 220) dX12_findJoin_203 (by decide) (fun hb => ?_) (fun hb => ?_)
  · have k := k.1 hb
    refine zr_iconst (v := 0) dX12_findJoin_220 (by decide) ?_
    refine zr_istore dX12_findJoin_221 (Nat.le_of_ble_eq_true rfl) rfl ?_
    exact k
  · have k := k.2 hb
    refine zr_aload_n dX12_findJoin_206 rfl rfl ?_
    refine zr_getR dX12_findJoin_207 zf_X12_105 rfl (hS.has (a := 84) rfl rfl) (hS.ref (a := 114) rfl) ?_
    refine zr_iload dX12_findJoin_210 rfl ?_
    refine zr_iconst (v := 0) dX12_findJoin_212 (by decide) ?_
    obtain ⟨hi5, k⟩ := k
    refine zr_zast dX12_findJoin_213 (hS.has (a := 114) rfl rfl) hi5 rfl ?_
    refine zr_iinc (v := (v6 + 1)) dX12_findJoin_214 rfl rfl (Nat.le_of_ble_eq_true rfl) rfl ?_
    refine zr_goto (tgt := 197) dX12_findJoin_217 (by decide) ?_
    exact k
set_option maxHeartbeats 2000000 in
theorem vX12_findJoin_223 {G : Gp} {bc bs : Nat} {Q : zPost} {S : zSh} {I : zFI} {L : zFL} {v1 : Int32} {v2 : Int32} {v3 : Int32} {v4 : Int32} {v5 : Int32} {v6 : Int32} (hS : zStd S)  (k : (((I 84 43) ≤ v6 → ZW G mX12_findJoin fX12_findJoin lX12_findJoin 249 [zo G 84, .int v1, .int v2, .int v3, .int v4, .int v5, .int (0 : Int32), .null, .null, .null] [] S I L bc bs Q) ∧ (¬ (I 84 43) ≤ v6 → vp_in v6 48 ∧ ZW G mX12_findJoin fX12_findJoin lX12_findJoin 223 [zo G 84, .int v1, .int v2, .int v3, .int v4, .int v5, .int (v6 + 1), .null, .null, .null] [] S (u2 I 115 v6.toNatClampNeg (0 : Int32)) L bc bs Q))) : ZW G mX12_findJoin fX12_findJoin lX12_findJoin 223 [zo G 84, .int v1, .int v2, .int v3, .int v4, .int v5, .int v6, .null, .null, .null] [] S I L bc bs Q := by
  refine zr_iload dX12_findJoin_223 rfl ?_
  refine zr_aload_n dX12_findJoin_225 rfl rfl ?_
  refine zr_getIv (x := (I 84 43)) dX12_findJoin_226 zf_X12_334 rfl (hS.has (a := 84) rfl rfl) rfl ?_
  refine zr_icge (tgt := 246) dX12_findJoin_229 (by decide) (fun hb => ?_) (fun hb => ?_)
  · have k := k.1 hb
    refine zr_iconst (v := 0) dX12_findJoin_246 (by decide) ?_
    refine zr_istore dX12_findJoin_247 (Nat.le_of_ble_eq_true rfl) rfl ?_
    exact k
  · have k := k.2 hb
    refine zr_aload_n dX12_findJoin_232 rfl rfl ?_
    refine zr_getR dX12_findJoin_233 zf_X12_108 rfl (hS.has (a := 84) rfl rfl) (hS.ref (a := 115) rfl) ?_
    refine zr_iload dX12_findJoin_236 rfl ?_
    refine zr_iconst (v := 0) dX12_findJoin_238 (by decide) ?_
    obtain ⟨hi6, k⟩ := k
    refine zr_zast dX12_findJoin_239 (hS.has (a := 115) rfl rfl) hi6 rfl ?_
    refine zr_iinc (v := (v6 + 1)) dX12_findJoin_240 rfl rfl (Nat.le_of_ble_eq_true rfl) rfl ?_
    refine zr_goto (tgt := 223) dX12_findJoin_243 (by decide) ?_
    exact k
set_option maxHeartbeats 2000000 in
theorem vX12_findJoin_249 {G : Gp} {bc bs : Nat} {Q : zPost} {S : zSh} {I : zFI} {L : zFL} {v1 : Int32} {v2 : Int32} {v3 : Int32} {v4 : Int32} {v5 : Int32} {v6 : Int32} (hS : zStd S)  (k : (((I 84 13) ≤ v6 → vp_in v1 2 ∧ ZW G mX12_findJoin fX12_findJoin lX12_findJoin 314 [zo G 84, .int v1, .int v2, .int v3, .int v4, .int v5, .int (0 : Int32), .null, .null, .null] [] S (u2 (u2 (u2 I 121 v1.toNatClampNeg v2) 122 v1.toNatClampNeg v3) 123 v1.toNatClampNeg (0 : Int32)) L bc bs Q) ∧ (¬ (I 84 13) ≤ v6 → vp_in (((48 : Int32) * v1) + v6) 96 ∧ ZW G mX12_findJoin fX12_findJoin lX12_findJoin 249 [zo G 84, .int v1, .int v2, .int v3, .int v4, .int v5, .int (v6 + 1), .null, .null, .null] [] S (u2 (u2 I 119 (((48 : Int32) * v1) + v6).toNatClampNeg (-1 : Int32)) 120 (((48 : Int32) * v1) + v6).toNatClampNeg (0 : Int32)) L bc bs Q))) : ZW G mX12_findJoin fX12_findJoin lX12_findJoin 249 [zo G 84, .int v1, .int v2, .int v3, .int v4, .int v5, .int v6, .null, .null, .null] [] S I L bc bs Q := by
  refine zr_iload dX12_findJoin_249 rfl ?_
  refine zr_aload_n dX12_findJoin_251 rfl rfl ?_
  refine zr_getIv (x := (I 84 13)) dX12_findJoin_252 zf_X12_198 rfl (hS.has (a := 84) rfl rfl) rfl ?_
  refine zr_icge (tgt := 290) dX12_findJoin_255 (by decide) (fun hb => ?_) (fun hb => ?_)
  · have k := k.1 hb
    refine zr_aload_n dX12_findJoin_290 rfl rfl ?_
    refine zr_getR dX12_findJoin_291 zf_X12_132 rfl (hS.has (a := 84) rfl rfl) (hS.ref (a := 121) rfl) ?_
    refine zr_iload_n dX12_findJoin_294 rfl rfl ?_
    refine zr_iload_n dX12_findJoin_295 rfl rfl ?_
    obtain ⟨hi7, k⟩ := k
    refine zr_iast dX12_findJoin_296 (hS.has (a := 121) rfl rfl) hi7 ?_
    refine zr_aload_n dX12_findJoin_297 rfl rfl ?_
    refine zr_getR dX12_findJoin_298 zf_X12_135 rfl (hS.has (a := 84) rfl rfl) (hS.ref (a := 122) rfl) ?_
    refine zr_iload_n dX12_findJoin_301 rfl rfl ?_
    refine zr_iload_n dX12_findJoin_302 rfl rfl ?_
    refine zr_iast dX12_findJoin_303 (hS.has (a := 122) rfl rfl) hi7 ?_
    refine zr_aload_n dX12_findJoin_304 rfl rfl ?_
    refine zr_getR dX12_findJoin_305 zf_X12_138 rfl (hS.has (a := 84) rfl rfl) (hS.ref (a := 123) rfl) ?_
    refine zr_iload_n dX12_findJoin_308 rfl rfl ?_
    refine zr_iconst (v := 0) dX12_findJoin_309 (by decide) ?_
    refine zr_iast dX12_findJoin_310 (hS.has (a := 123) rfl rfl) hi7 ?_
    refine zr_iconst (v := 0) dX12_findJoin_311 (by decide) ?_
    refine zr_istore dX12_findJoin_312 (Nat.le_of_ble_eq_true rfl) rfl ?_
    exact k
  · have k := k.2 hb
    refine zr_aload_n dX12_findJoin_258 rfl rfl ?_
    refine zr_getR dX12_findJoin_259 zf_X12_126 rfl (hS.has (a := 84) rfl rfl) (hS.ref (a := 119) rfl) ?_
    refine zr_bipush (v := 48) dX12_findJoin_262 (by decide) ?_
    refine zr_iload_n dX12_findJoin_264 rfl rfl ?_
    refine zr_imul dX12_findJoin_265 ?_
    refine zr_iload dX12_findJoin_266 rfl ?_
    refine zr_iadd dX12_findJoin_268 ?_
    refine zr_iconst (v := -1) dX12_findJoin_269 (by decide) ?_
    obtain ⟨hi8, k⟩ := k
    refine zr_iast dX12_findJoin_270 (hS.has (a := 119) rfl rfl) hi8 ?_
    refine zr_aload_n dX12_findJoin_271 rfl rfl ?_
    refine zr_getR dX12_findJoin_272 zf_X12_129 rfl (hS.has (a := 84) rfl rfl) (hS.ref (a := 120) rfl) ?_
    refine zr_bipush (v := 48) dX12_findJoin_275 (by decide) ?_
    refine zr_iload_n dX12_findJoin_277 rfl rfl ?_
    refine zr_imul dX12_findJoin_278 ?_
    refine zr_iload dX12_findJoin_279 rfl ?_
    refine zr_iadd dX12_findJoin_281 ?_
    refine zr_iconst (v := 0) dX12_findJoin_282 (by decide) ?_
    refine zr_zast dX12_findJoin_283 (hS.has (a := 120) rfl rfl) hi8 rfl ?_
    refine zr_iinc (v := (v6 + 1)) dX12_findJoin_284 rfl rfl (Nat.le_of_ble_eq_true rfl) rfl ?_
    refine zr_goto (tgt := 249) dX12_findJoin_287 (by decide) ?_
    exact k
set_option maxHeartbeats 2000000 in
theorem vX12_findJoin_314 {G : Gp} {bc bs : Nat} {Q : zPost} {S : zSh} {I : zFI} {L : zFL} {v1 : Int32} {v2 : Int32} {v3 : Int32} {v4 : Int32} {v5 : Int32} {v6 : Int32} (hS : zStd S)  (k : (((I 84 42) ≤ v6 → Q none S (u2 (u2 I 84 52 (-1 : Int32)) 84 53 (-1 : Int32)) L) ∧ (¬ (I 84 42) ≤ v6 → vp_in v6 48 ∧ ((¬ (I 113 v6.toNatClampNeg) = (-1 : Int32) → vp_in (I 113 v6.toNatClampNeg) 48 ∧ vp_in (((48 : Int32) * v1) + (I 108 v6.toNatClampNeg)) 96 ∧ vp_in (((48 : Int32) * v1) + (I 109 (I 113 v6.toNatClampNeg).toNatClampNeg)) 96 ∧ ZC G mX12_solves fX12_solves lX12_solves [zo G 84, .int (0 : Int32), .int (0 : Int32)] S (u2 (u2 (u2 (u2 I 119 (((48 : Int32) * v1) + (I 108 v6.toNatClampNeg)).toNatClampNeg (I 109 (I 113 v6.toNatClampNeg).toNatClampNeg)) 119 (((48 : Int32) * v1) + (I 109 (I 113 v6.toNatClampNeg).toNatClampNeg)).toNatClampNeg (I 108 v6.toNatClampNeg)) 84 52 v6) 84 53 (I 113 v6.toNatClampNeg)) L 0 0 (fun w S' I1 L1 => w = none ∧ S = S' ∧ ((¬ (I1 84 50) = v2 → (((1 : Int32) = 0 → ZW G mX12_findJoin fX12_findJoin lX12_findJoin 314 [zo G 84, .int v1, .int v2, .int v3, .int v4, .int v5, .int (v6 + 1), .null, .null, .null] [] S (u2 (u2 I1 120 (((48 : Int32) * v1) + (I 108 v6.toNatClampNeg)).toNatClampNeg (1 : Int32)) 120 (((48 : Int32) * v1) + (I 109 (I 113 v6.toNatClampNeg).toNatClampNeg)).toNatClampNeg (1 : Int32)) L1 bc bs Q) ∧ (¬ (1 : Int32) = 0 → vp_in v1 2 ∧ ZW G mX12_findJoin fX12_findJoin lX12_findJoin 314 [zo G 84, .int v1, .int v2, .int v3, .int v4, .int v5, .int (v6 + 1), .null, .null, .null] [] S (u2 (u2 (u2 I1 120 (((48 : Int32) * v1) + (I 108 v6.toNatClampNeg)).toNatClampNeg (1 : Int32)) 120 (((48 : Int32) * v1) + (I 109 (I 113 v6.toNatClampNeg).toNatClampNeg)).toNatClampNeg (1 : Int32)) 123 v1.toNatClampNeg ((I1 123 v1.toNatClampNeg) + (1 : Int32))) L1 bc bs Q))) ∧ ((I1 84 50) = v2 → (((I1 84 51) = v3 → (((0 : Int32) = 0 → ZW G mX12_findJoin fX12_findJoin lX12_findJoin 314 [zo G 84, .int v1, .int v2, .int v3, .int v4, .int v5, .int (v6 + 1), .null, .null, .null] [] S (u2 (u2 I1 120 (((48 : Int32) * v1) + (I 108 v6.toNatClampNeg)).toNatClampNeg (0 : Int32)) 120 (((48 : Int32) * v1) + (I 109 (I 113 v6.toNatClampNeg).toNatClampNeg)).toNatClampNeg (0 : Int32)) L1 bc bs Q) ∧ (¬ (0 : Int32) = 0 → vp_in v1 2 ∧ ZW G mX12_findJoin fX12_findJoin lX12_findJoin 314 [zo G 84, .int v1, .int v2, .int v3, .int v4, .int v5, .int (v6 + 1), .null, .null, .null] [] S (u2 (u2 (u2 I1 120 (((48 : Int32) * v1) + (I 108 v6.toNatClampNeg)).toNatClampNeg (0 : Int32)) 120 (((48 : Int32) * v1) + (I 109 (I 113 v6.toNatClampNeg).toNatClampNeg)).toNatClampNeg (0 : Int32)) 123 v1.toNatClampNeg ((I1 123 v1.toNatClampNeg) + (1 : Int32))) L1 bc bs Q))) ∧ (¬ (I1 84 51) = v3 → (((1 : Int32) = 0 → ZW G mX12_findJoin fX12_findJoin lX12_findJoin 314 [zo G 84, .int v1, .int v2, .int v3, .int v4, .int v5, .int (v6 + 1), .null, .null, .null] [] S (u2 (u2 I1 120 (((48 : Int32) * v1) + (I 108 v6.toNatClampNeg)).toNatClampNeg (1 : Int32)) 120 (((48 : Int32) * v1) + (I 109 (I 113 v6.toNatClampNeg).toNatClampNeg)).toNatClampNeg (1 : Int32)) L1 bc bs Q) ∧ (¬ (1 : Int32) = 0 → vp_in v1 2 ∧ ZW G mX12_findJoin fX12_findJoin lX12_findJoin 314 [zo G 84, .int v1, .int v2, .int v3, .int v4, .int v5, .int (v6 + 1), .null, .null, .null] [] S (u2 (u2 (u2 I1 120 (((48 : Int32) * v1) + (I 108 v6.toNatClampNeg)).toNatClampNeg (1 : Int32)) 120 (((48 : Int32) * v1) + (I 109 (I 113 v6.toNatClampNeg).toNatClampNeg)).toNatClampNeg (1 : Int32)) 123 v1.toNatClampNeg ((I1 123 v1.toNatClampNeg) + (1 : Int32))) L1 bc bs Q)))))))) ∧ ((I 113 v6.toNatClampNeg) = (-1 : Int32) → ZW G mX12_findJoin fX12_findJoin lX12_findJoin 314 [zo G 84, .int v1, .int v2, .int v3, .int v4, .int v5, .int (v6 + 1), .null, .null, .null] [] S I L bc bs Q))))) : ZW G mX12_findJoin fX12_findJoin lX12_findJoin 314 [zo G 84, .int v1, .int v2, .int v3, .int v4, .int v5, .int v6, .null, .null, .null] [] S I L bc bs Q := by
  refine zr_iload dX12_findJoin_314 rfl ?_
  refine zr_aload_n dX12_findJoin_316 rfl rfl ?_
  refine zr_getIv (x := (I 84 42)) dX12_findJoin_317 zf_X12_331 rfl (hS.has (a := 84) rfl rfl) rfl ?_
  refine zr_icge (tgt := 487) dX12_findJoin_320 (by decide) (fun hb => ?_) (fun hb => ?_)
  · have k := k.1 hb
    refine zr_aload_n dX12_findJoin_487 rfl rfl ?_
    refine zr_iconst (v := -1) dX12_findJoin_488 (by decide) ?_
    refine zr_putI dX12_findJoin_489 zf_X12_111 rfl (hS.has (a := 84) rfl rfl) rfl rfl ?_
    refine zr_aload_n dX12_findJoin_492 rfl rfl ?_
    refine zr_iconst (v := -1) dX12_findJoin_493 (by decide) ?_
    refine zr_putI dX12_findJoin_494 zf_X12_114 rfl (hS.has (a := 84) rfl rfl) rfl rfl ?_
    exact zr_return_ dX12_findJoin_497 rfl k
  · have k := k.2 hb
    refine zr_aload_n dX12_findJoin_323 rfl rfl ?_
    refine zr_getR dX12_findJoin_324 zf_X12_102 rfl (hS.has (a := 84) rfl rfl) (hS.ref (a := 113) rfl) ?_
    refine zr_iload dX12_findJoin_327 rfl ?_
    obtain ⟨hi9, k⟩ := k
    refine zr_ialdv (x := (I 113 v6.toNatClampNeg)) dX12_findJoin_329 (hS.has (a := 113) rfl rfl) hi9 rfl ?_
    refine zr_iconst (v := -1) dX12_findJoin_330 (by decide) ?_
    refine zr_icne (tgt := 337) dX12_findJoin_331 (by decide) (fun hb => ?_) (fun hb => ?_)
    · have k := k.1 hb
      refine zr_aload_n dX12_findJoin_337 rfl rfl ?_
      refine zr_getR dX12_findJoin_338 zf_X12_87 rfl (hS.has (a := 84) rfl rfl) (hS.ref (a := 108) rfl) ?_
      refine zr_iload dX12_findJoin_341 rfl ?_
      refine zr_ialdv (x := (I 108 v6.toNatClampNeg)) dX12_findJoin_343 (hS.has (a := 108) rfl rfl) hi9 rfl ?_
      refine zr_istore dX12_findJoin_344 (Nat.le_of_ble_eq_true rfl) rfl ?_
      refine zr_aload_n dX12_findJoin_346 rfl rfl ?_
      refine zr_getR dX12_findJoin_347 zf_X12_90 rfl (hS.has (a := 84) rfl rfl) (hS.ref (a := 109) rfl) ?_
      refine zr_aload_n dX12_findJoin_350 rfl rfl ?_
      refine zr_getR dX12_findJoin_351 zf_X12_102 rfl (hS.has (a := 84) rfl rfl) (hS.ref (a := 113) rfl) ?_
      refine zr_iload dX12_findJoin_354 rfl ?_
      refine zr_ialdv (x := (I 113 v6.toNatClampNeg)) dX12_findJoin_356 (hS.has (a := 113) rfl rfl) hi9 rfl ?_
      obtain ⟨hi10, k⟩ := k
      refine zr_ialdv (x := (I 109 (I 113 v6.toNatClampNeg).toNatClampNeg)) dX12_findJoin_357 (hS.has (a := 109) rfl rfl) hi10 rfl ?_
      refine zr_istore dX12_findJoin_358 (Nat.le_of_ble_eq_true rfl) rfl ?_
      refine zr_aload_n dX12_findJoin_360 rfl rfl ?_
      refine zr_getR dX12_findJoin_361 zf_X12_126 rfl (hS.has (a := 84) rfl rfl) (hS.ref (a := 119) rfl) ?_
      refine zr_bipush (v := 48) dX12_findJoin_364 (by decide) ?_
      refine zr_iload_n dX12_findJoin_366 rfl rfl ?_
      refine zr_imul dX12_findJoin_367 ?_
      refine zr_iload dX12_findJoin_368 rfl ?_
      refine zr_iadd dX12_findJoin_370 ?_
      refine zr_iload dX12_findJoin_371 rfl ?_
      obtain ⟨hi11, k⟩ := k
      refine zr_iast dX12_findJoin_373 (hS.has (a := 119) rfl rfl) hi11 ?_
      refine zr_aload_n dX12_findJoin_374 rfl rfl ?_
      refine zr_getR dX12_findJoin_375 zf_X12_126 rfl (hS.has (a := 84) rfl rfl) (hS.ref (a := 119) rfl) ?_
      refine zr_bipush (v := 48) dX12_findJoin_378 (by decide) ?_
      refine zr_iload_n dX12_findJoin_380 rfl rfl ?_
      refine zr_imul dX12_findJoin_381 ?_
      refine zr_iload dX12_findJoin_382 rfl ?_
      refine zr_iadd dX12_findJoin_384 ?_
      refine zr_iload dX12_findJoin_385 rfl ?_
      obtain ⟨hi12, k⟩ := k
      refine zr_iast dX12_findJoin_387 (hS.has (a := 119) rfl rfl) hi12 ?_
      refine zr_aload_n dX12_findJoin_388 rfl rfl ?_
      refine zr_iload dX12_findJoin_389 rfl ?_
      refine zr_putI dX12_findJoin_391 zf_X12_111 rfl (hS.has (a := 84) rfl rfl) rfl rfl ?_
      refine zr_aload_n dX12_findJoin_394 rfl rfl ?_
      refine zr_aload_n dX12_findJoin_395 rfl rfl ?_
      refine zr_getR dX12_findJoin_396 zf_X12_102 rfl (hS.has (a := 84) rfl rfl) (hS.ref (a := 113) rfl) ?_
      refine zr_iload dX12_findJoin_399 rfl ?_
      refine zr_ialdv (x := (I 113 v6.toNatClampNeg)) dX12_findJoin_401 (hS.has (a := 113) rfl rfl) hi9 rfl ?_
      refine zr_putI dX12_findJoin_402 zf_X12_114 rfl (hS.has (a := 84) rfl rfl) rfl rfl ?_
      refine zr_aload_n dX12_findJoin_405 rfl rfl ?_
      refine zr_iconst (v := 0) dX12_findJoin_406 (by decide) ?_
      refine zr_iconst (v := 0) dX12_findJoin_407 (by decide) ?_
      refine zr_callV (As := [.int (0 : Int32), .int (0 : Int32)]) (fr' := fX12_solves) (lo' := lX12_solves) (bc' := 0) (bs' := 0) (bcr := bc) (bsr := bs) dX12_findJoin_408 zs_X12_354 zi_X12_solves zcl_12 (hS.has (a := 84) rfl rfl) rfl rfl (Nat.le_of_ble_eq_true rfl) (Nat.le_of_ble_eq_true rfl) (Nat.le_of_ble_eq_true rfl) (Nat.le_refl _) (Nat.le_refl _) ?_
      refine ZC.mono (fun w S' I1 L1 k => ?_) k
      obtain ⟨rfl, rfl, k⟩ := k
      show ZW G mX12_findJoin fX12_findJoin lX12_findJoin 411 [zo G 84, .int v1, .int v2, .int v3, .int v4, .int v5, .int v6, .int (I 108 v6.toNatClampNeg), .int (I 109 (I 113 v6.toNatClampNeg).toNatClampNeg), .null] [] S I1 L1 bc bs Q
      refine zr_aload_n dX12_findJoin_411 rfl rfl ?_
      refine zr_getIv (x := (I1 84 50)) dX12_findJoin_412 zf_X12_337 rfl (hS.has (a := 84) rfl rfl) rfl ?_
      refine zr_iload_n dX12_findJoin_415 rfl rfl ?_
      refine zr_icne (tgt := 427) dX12_findJoin_416 (by decide) (fun hb => ?_) (fun hb => ?_)
      · have k := k.1 hb
        refine zr_iconst (v := 1) dX12_findJoin_427 (by decide) ?_
        refine zr_goto (tgt := 432) dX12_findJoin_428 (by decide) ?_
        refine zr_istore dX12_findJoin_432 (Nat.le_of_ble_eq_true rfl) rfl ?_
        refine zr_aload_n dX12_findJoin_434 rfl rfl ?_
        refine zr_getR dX12_findJoin_435 zf_X12_129 rfl (hS.has (a := 84) rfl rfl) (hS.ref (a := 120) rfl) ?_
        refine zr_bipush (v := 48) dX12_findJoin_438 (by decide) ?_
        refine zr_iload_n dX12_findJoin_440 rfl rfl ?_
        refine zr_imul dX12_findJoin_441 ?_
        refine zr_iload dX12_findJoin_442 rfl ?_
        refine zr_iadd dX12_findJoin_444 ?_
        refine zr_iload dX12_findJoin_445 rfl ?_
        refine zr_zast dX12_findJoin_447 (hS.has (a := 120) rfl rfl) hi11 rfl ?_
        refine zr_aload_n dX12_findJoin_448 rfl rfl ?_
        refine zr_getR dX12_findJoin_449 zf_X12_129 rfl (hS.has (a := 84) rfl rfl) (hS.ref (a := 120) rfl) ?_
        refine zr_bipush (v := 48) dX12_findJoin_452 (by decide) ?_
        refine zr_iload_n dX12_findJoin_454 rfl rfl ?_
        refine zr_imul dX12_findJoin_455 ?_
        refine zr_iload dX12_findJoin_456 rfl ?_
        refine zr_iadd dX12_findJoin_458 ?_
        refine zr_iload dX12_findJoin_459 rfl ?_
        refine zr_zast dX12_findJoin_461 (hS.has (a := 120) rfl rfl) hi12 rfl ?_
        refine zr_iload dX12_findJoin_462 rfl ?_
        refine zr_ifeq (tgt := 481) dX12_findJoin_464 (by decide) (fun hb => ?_) (fun hb => ?_)
        · have k := k.1 hb
          refine zr_iinc (v := (v6 + 1)) dX12_findJoin_481 rfl rfl (Nat.le_of_ble_eq_true rfl) rfl ?_
          refine zr_goto (tgt := 314) dX12_findJoin_484 (by decide) ?_
          exact zr_mask [true, true, true, true, true, true, true, false, false, false] rfl k
        · have k := k.2 hb
          refine zr_aload_n dX12_findJoin_467 rfl rfl ?_
          refine zr_getR dX12_findJoin_468 zf_X12_138 rfl (hS.has (a := 84) rfl rfl) (hS.ref (a := 123) rfl) ?_
          refine zr_iload_n dX12_findJoin_471 rfl rfl ?_
          refine zr_aload_n dX12_findJoin_472 rfl rfl ?_
          refine zr_getR dX12_findJoin_473 zf_X12_138 rfl (hS.has (a := 84) rfl rfl) (hS.ref (a := 123) rfl) ?_
          refine zr_iload_n dX12_findJoin_476 rfl rfl ?_
          obtain ⟨hi13, k⟩ := k
          refine zr_ialdv (x := (I1 123 v1.toNatClampNeg)) dX12_findJoin_477 (hS.has (a := 123) rfl rfl) hi13 rfl ?_
          refine zr_iconst (v := 1) dX12_findJoin_478 (by decide) ?_
          refine zr_iadd dX12_findJoin_479 ?_
          refine zr_iast dX12_findJoin_480 (hS.has (a := 123) rfl rfl) hi13 ?_
          refine zr_iinc (v := (v6 + 1)) dX12_findJoin_481 rfl rfl (Nat.le_of_ble_eq_true rfl) rfl ?_
          refine zr_goto (tgt := 314) dX12_findJoin_484 (by decide) ?_
          exact zr_mask [true, true, true, true, true, true, true, false, false, false] rfl k
      · have k := k.2 hb
        refine zr_aload_n dX12_findJoin_419 rfl rfl ?_
        refine zr_getIv (x := (I1 84 51)) dX12_findJoin_420 zf_X12_340 rfl (hS.has (a := 84) rfl rfl) rfl ?_
        refine zr_iload_n dX12_findJoin_423 rfl rfl ?_
        refine zr_iceq (tgt := 431) dX12_findJoin_424 (by decide) (fun hb => ?_) (fun hb => ?_)
        · have k := k.1 hb
          refine zr_iconst (v := 0) dX12_findJoin_431 (by decide) ?_
          refine zr_istore dX12_findJoin_432 (Nat.le_of_ble_eq_true rfl) rfl ?_
          refine zr_aload_n dX12_findJoin_434 rfl rfl ?_
          refine zr_getR dX12_findJoin_435 zf_X12_129 rfl (hS.has (a := 84) rfl rfl) (hS.ref (a := 120) rfl) ?_
          refine zr_bipush (v := 48) dX12_findJoin_438 (by decide) ?_
          refine zr_iload_n dX12_findJoin_440 rfl rfl ?_
          refine zr_imul dX12_findJoin_441 ?_
          refine zr_iload dX12_findJoin_442 rfl ?_
          refine zr_iadd dX12_findJoin_444 ?_
          refine zr_iload dX12_findJoin_445 rfl ?_
          refine zr_zast dX12_findJoin_447 (hS.has (a := 120) rfl rfl) hi11 rfl ?_
          refine zr_aload_n dX12_findJoin_448 rfl rfl ?_
          refine zr_getR dX12_findJoin_449 zf_X12_129 rfl (hS.has (a := 84) rfl rfl) (hS.ref (a := 120) rfl) ?_
          refine zr_bipush (v := 48) dX12_findJoin_452 (by decide) ?_
          refine zr_iload_n dX12_findJoin_454 rfl rfl ?_
          refine zr_imul dX12_findJoin_455 ?_
          refine zr_iload dX12_findJoin_456 rfl ?_
          refine zr_iadd dX12_findJoin_458 ?_
          refine zr_iload dX12_findJoin_459 rfl ?_
          refine zr_zast dX12_findJoin_461 (hS.has (a := 120) rfl rfl) hi12 rfl ?_
          refine zr_iload dX12_findJoin_462 rfl ?_
          refine zr_ifeq (tgt := 481) dX12_findJoin_464 (by decide) (fun hb => ?_) (fun hb => ?_)
          · have k := k.1 hb
            refine zr_iinc (v := (v6 + 1)) dX12_findJoin_481 rfl rfl (Nat.le_of_ble_eq_true rfl) rfl ?_
            refine zr_goto (tgt := 314) dX12_findJoin_484 (by decide) ?_
            exact zr_mask [true, true, true, true, true, true, true, false, false, false] rfl k
          · have k := k.2 hb
            refine zr_aload_n dX12_findJoin_467 rfl rfl ?_
            refine zr_getR dX12_findJoin_468 zf_X12_138 rfl (hS.has (a := 84) rfl rfl) (hS.ref (a := 123) rfl) ?_
            refine zr_iload_n dX12_findJoin_471 rfl rfl ?_
            refine zr_aload_n dX12_findJoin_472 rfl rfl ?_
            refine zr_getR dX12_findJoin_473 zf_X12_138 rfl (hS.has (a := 84) rfl rfl) (hS.ref (a := 123) rfl) ?_
            refine zr_iload_n dX12_findJoin_476 rfl rfl ?_
            obtain ⟨hi14, k⟩ := k
            refine zr_ialdv (x := (I1 123 v1.toNatClampNeg)) dX12_findJoin_477 (hS.has (a := 123) rfl rfl) hi14 rfl ?_
            refine zr_iconst (v := 1) dX12_findJoin_478 (by decide) ?_
            refine zr_iadd dX12_findJoin_479 ?_
            refine zr_iast dX12_findJoin_480 (hS.has (a := 123) rfl rfl) hi14 ?_
            refine zr_iinc (v := (v6 + 1)) dX12_findJoin_481 rfl rfl (Nat.le_of_ble_eq_true rfl) rfl ?_
            refine zr_goto (tgt := 314) dX12_findJoin_484 (by decide) ?_
            exact zr_mask [true, true, true, true, true, true, true, false, false, false] rfl k
        · have k := k.2 hb
          refine zr_iconst (v := 1) dX12_findJoin_427 (by decide) ?_
          refine zr_goto (tgt := 432) dX12_findJoin_428 (by decide) ?_
          refine zr_istore dX12_findJoin_432 (Nat.le_of_ble_eq_true rfl) rfl ?_
          refine zr_aload_n dX12_findJoin_434 rfl rfl ?_
          refine zr_getR dX12_findJoin_435 zf_X12_129 rfl (hS.has (a := 84) rfl rfl) (hS.ref (a := 120) rfl) ?_
          refine zr_bipush (v := 48) dX12_findJoin_438 (by decide) ?_
          refine zr_iload_n dX12_findJoin_440 rfl rfl ?_
          refine zr_imul dX12_findJoin_441 ?_
          refine zr_iload dX12_findJoin_442 rfl ?_
          refine zr_iadd dX12_findJoin_444 ?_
          refine zr_iload dX12_findJoin_445 rfl ?_
          refine zr_zast dX12_findJoin_447 (hS.has (a := 120) rfl rfl) hi11 rfl ?_
          refine zr_aload_n dX12_findJoin_448 rfl rfl ?_
          refine zr_getR dX12_findJoin_449 zf_X12_129 rfl (hS.has (a := 84) rfl rfl) (hS.ref (a := 120) rfl) ?_
          refine zr_bipush (v := 48) dX12_findJoin_452 (by decide) ?_
          refine zr_iload_n dX12_findJoin_454 rfl rfl ?_
          refine zr_imul dX12_findJoin_455 ?_
          refine zr_iload dX12_findJoin_456 rfl ?_
          refine zr_iadd dX12_findJoin_458 ?_
          refine zr_iload dX12_findJoin_459 rfl ?_
          refine zr_zast dX12_findJoin_461 (hS.has (a := 120) rfl rfl) hi12 rfl ?_
          refine zr_iload dX12_findJoin_462 rfl ?_
          refine zr_ifeq (tgt := 481) dX12_findJoin_464 (by decide) (fun hb => ?_) (fun hb => ?_)
          · have k := k.1 hb
            refine zr_iinc (v := (v6 + 1)) dX12_findJoin_481 rfl rfl (Nat.le_of_ble_eq_true rfl) rfl ?_
            refine zr_goto (tgt := 314) dX12_findJoin_484 (by decide) ?_
            exact zr_mask [true, true, true, true, true, true, true, false, false, false] rfl k
          · have k := k.2 hb
            refine zr_aload_n dX12_findJoin_467 rfl rfl ?_
            refine zr_getR dX12_findJoin_468 zf_X12_138 rfl (hS.has (a := 84) rfl rfl) (hS.ref (a := 123) rfl) ?_
            refine zr_iload_n dX12_findJoin_471 rfl rfl ?_
            refine zr_aload_n dX12_findJoin_472 rfl rfl ?_
            refine zr_getR dX12_findJoin_473 zf_X12_138 rfl (hS.has (a := 84) rfl rfl) (hS.ref (a := 123) rfl) ?_
            refine zr_iload_n dX12_findJoin_476 rfl rfl ?_
            obtain ⟨hi15, k⟩ := k
            refine zr_ialdv (x := (I1 123 v1.toNatClampNeg)) dX12_findJoin_477 (hS.has (a := 123) rfl rfl) hi15 rfl ?_
            refine zr_iconst (v := 1) dX12_findJoin_478 (by decide) ?_
            refine zr_iadd dX12_findJoin_479 ?_
            refine zr_iast dX12_findJoin_480 (hS.has (a := 123) rfl rfl) hi15 ?_
            refine zr_iinc (v := (v6 + 1)) dX12_findJoin_481 rfl rfl (Nat.le_of_ble_eq_true rfl) rfl ?_
            refine zr_goto (tgt := 314) dX12_findJoin_484 (by decide) ?_
            exact zr_mask [true, true, true, true, true, true, true, false, false, false] rfl k
    · have k := k.2 hb
      refine zr_goto (tgt := 481) dX12_findJoin_334 (by decide) ?_
      refine zr_iinc (v := (v6 + 1)) dX12_findJoin_481 rfl rfl (Nat.le_of_ble_eq_true rfl) rfl ?_
      refine zr_goto (tgt := 314) dX12_findJoin_484 (by decide) ?_
      exact k
set_option maxHeartbeats 2000000 in
theorem vX12_findJoins_0 {G : Gp} {bc bs : Nat} {Q : zPost} {S : zSh} {I : zFI} {L : zFL} {v1 : Int32} (hS : zStd S)  (k : ZC G mX12_findJoin fX12_findJoin lX12_findJoin [zo G 84, .int (0 : Int32)] S I L 0 0 (fun w S' I1 L1 => w = none ∧ S = S' ∧ ((¬ v1 = (1 : Int32) → Q none S I1 L1) ∧ (v1 = (1 : Int32) → ZC G mX12_findJoin fX12_findJoin lX12_findJoin [zo G 84, .int (1 : Int32)] S I1 L1 0 0 (fun w S' I2 L2 => w = none ∧ S = S' ∧ Q none S I2 L2))))) : ZW G mX12_findJoins fX12_findJoins lX12_findJoins 0 [zo G 84, .int v1] [] S I L bc bs Q := by
  refine zr_aload_n dX12_findJoins_0 rfl rfl ?_
  refine zr_iconst (v := 0) dX12_findJoins_1 (by decide) ?_
  refine zr_callV (As := [.int (0 : Int32)]) (fr' := fX12_findJoin) (lo' := lX12_findJoin) (bc' := 0) (bs' := 0) (bcr := bc) (bsr := bs) dX12_findJoins_2 zs_X12_357 zi_X12_findJoin zcl_12 (hS.has (a := 84) rfl rfl) rfl rfl (Nat.le_of_ble_eq_true rfl) (Nat.le_of_ble_eq_true rfl) (Nat.le_of_ble_eq_true rfl) (Nat.le_refl _) (Nat.le_refl _) ?_
  refine ZC.mono (fun w S' I1 L1 k => ?_) k
  obtain ⟨rfl, rfl, k⟩ := k
  show ZW G mX12_findJoins fX12_findJoins lX12_findJoins 5 [zo G 84, .int v1] [] S I1 L1 bc bs Q
  refine zr_iload_n dX12_findJoins_5 rfl rfl ?_
  refine zr_iconst (v := 1) dX12_findJoins_6 (by decide) ?_
  refine zr_icne (tgt := 15) dX12_findJoins_7 (by decide) (fun hb => ?_) (fun hb => ?_)
  · have k := k.1 hb
    exact zr_return_ dX12_findJoins_15 rfl k
  · have k := k.2 hb
    refine zr_aload_n dX12_findJoins_10 rfl rfl ?_
    refine zr_iconst (v := 1) dX12_findJoins_11 (by decide) ?_
    refine zr_callV (As := [.int (1 : Int32)]) (fr' := fX12_findJoin) (lo' := lX12_findJoin) (bc' := 0) (bs' := 0) (bcr := bc) (bsr := bs) dX12_findJoins_12 zs_X12_357 zi_X12_findJoin zcl_12 (hS.has (a := 84) rfl rfl) rfl rfl (Nat.le_of_ble_eq_true rfl) (Nat.le_of_ble_eq_true rfl) (Nat.le_of_ble_eq_true rfl) (Nat.le_refl _) (Nat.le_refl _) ?_
    refine ZC.mono (fun w S' I2 L2 k => ?_) k
    obtain ⟨rfl, rfl, k⟩ := k
    show ZW G mX12_findJoins fX12_findJoins lX12_findJoins 15 [zo G 84, .int v1] [] S I2 L2 bc bs Q
    exact zr_return_ dX12_findJoins_15 rfl k
set_option maxHeartbeats 2000000 in
theorem vX12_findFrames_0 {G : Gp} {bc bs : Nat} {Q : zPost} {S : zSh} {I : zFI} {L : zFL} {v1 : Int32} (hS : zStd S)  (k : ZW G mX12_findFrames fX12_findFrames lX12_findFrames 2 [zo G 84, .int v1, .int (0 : Int32), .null, .null, .null, .null] [] S I L bc bs Q) : ZW G mX12_findFrames fX12_findFrames lX12_findFrames 0 [zo G 84, .int v1, .null, .null, .null, .null, .null] [] S I L bc bs Q := by
  refine zr_iconst (v := 0) dX12_findFrames_0 (by decide) ?_
  refine zr_istore_n dX12_findFrames_1 rfl (Nat.le_of_ble_eq_true rfl) rfl ?_
  exact k
set_option maxHeartbeats 2000000 in
theorem vX12_findFrames_2 {G : Gp} {bc bs : Nat} {Q : zPost} {S : zSh} {I : zFI} {L : zFL} {v1 : Int32} {v2 : Int32} (hS : zStd S)  (k : (((I 84 3) ≤ v2 → ZW G mX12_findFrames fX12_findFrames lX12_findFrames 25 [zo G 84, .int v1, .int (0 : Int32), .null, .null, .null, .null] [] S I L bc bs Q) ∧ (¬ (I 84 3) ≤ v2 → vp_in v2 16 ∧ ZW G mX12_findFrames fX12_findFrames lX12_findFrames 2 [zo G 84, .int v1, .int (v2 + 1), .null, .null, .null, .null] [] S (u2 I 124 v2.toNatClampNeg (0 : Int32)) L bc bs Q))) : ZW G mX12_findFrames fX12_findFrames lX12_findFrames 2 [zo G 84, .int v1, .int v2, .null, .null, .null, .null] [] S I L bc bs Q := by
  refine zr_iload_n dX12_findFrames_2 rfl rfl ?_
  refine zr_aload_n dX12_findFrames_3 rfl rfl ?_
  refine zr_getIv (x := (I 84 3)) dX12_findFrames_4 zf_X12_191 rfl (hS.has (a := 84) rfl rfl) rfl ?_
  refine zr_icge (tgt := 23) dX12_findFrames_7 (by decide) (fun hb => ?_) (fun hb => ?_)
  · have k := k.1 hb
    refine zr_iconst (v := 0) dX12_findFrames_23 (by decide) ?_
    refine zr_istore_n dX12_findFrames_24 rfl (Nat.le_of_ble_eq_true rfl) rfl ?_
    exact k
  · have k := k.2 hb
    refine zr_aload_n dX12_findFrames_10 rfl rfl ?_
    refine zr_getR dX12_findFrames_11 zf_X12_141 rfl (hS.has (a := 84) rfl rfl) (hS.ref (a := 124) rfl) ?_
    refine zr_iload_n dX12_findFrames_14 rfl rfl ?_
    refine zr_iconst (v := 0) dX12_findFrames_15 (by decide) ?_
    obtain ⟨hi1, k⟩ := k
    refine zr_iast dX12_findFrames_16 (hS.has (a := 124) rfl rfl) hi1 ?_
    refine zr_iinc (v := (v2 + 1)) dX12_findFrames_17 rfl rfl (Nat.le_of_ble_eq_true rfl) rfl ?_
    refine zr_goto (tgt := 2) dX12_findFrames_20 (by decide) ?_
    exact k
set_option maxHeartbeats 2000000 in
theorem vX12_findFrames_25 {G : Gp} {bc bs : Nat} {Q : zPost} {S : zSh} {I : zFI} {L : zFL} {v1 : Int32} {v2 : Int32} (hS : zStd S)  (k : (((I 84 13) ≤ v2 → ZW G mX12_findFrames fX12_findFrames lX12_findFrames 112 [zo G 84, .int v1, .int (0 : Int32), .int (0 : Int32), .null, .null, .null] [] S (u2 I 84 64 (0 : Int32)) L bc bs Q) ∧ (¬ (I 84 13) ≤ v2 → vp_in (((48 : Int32) * v1) + v2) 96 ∧ (((I 119 (((48 : Int32) * v1) + v2).toNatClampNeg) = (-1 : Int32) → ZW G mX12_findFrames fX12_findFrames lX12_findFrames 25 [zo G 84, .int v1, .int (v2 + 1), .null, .null, .null, .null] [] S I L bc bs Q) ∧ (¬ (I 119 (((48 : Int32) * v1) + v2).toNatClampNeg) = (-1 : Int32) → (¬ v2 < 0 → ¬ (I 84 13) ≤ v2 → vp_in v2 48) ∧ (((p_X12_isJoint I v2) = 0 → ZW G mX12_findFrames fX12_findFrames lX12_findFrames 25 [zo G 84, .int v1, .int (v2 + 1), .null, .null, .null, .null] [] S I L bc bs Q) ∧ (¬ (p_X12_isJoint I v2) = 0 → vp_in v2 48 ∧ vp_in (I 94 v2.toNatClampNeg) 16 ∧ vp_in (I 119 (((48 : Int32) * v1) + v2).toNatClampNeg) 48 ∧ ZW G mX12_findFrames fX12_findFrames lX12_findFrames 25 [zo G 84, .int v1, .int (v2 + 1), .null, .null, .null, .null] [] S (u2 I 124 (I 94 v2.toNatClampNeg).toNatClampNeg ((I 124 (I 94 v2.toNatClampNeg).toNatClampNeg) ||| ((1 : Int32) <<< ((I 94 (I 119 (((48 : Int32) * v1) + v2).toNatClampNeg).toNatClampNeg) &&& 31)))) L bc bs Q))))))) : ZW G mX12_findFrames fX12_findFrames lX12_findFrames 25 [zo G 84, .int v1, .int v2, .null, .null, .null, .null] [] S I L bc bs Q := by
  refine zr_iload_n dX12_findFrames_25 rfl rfl ?_
  refine zr_aload_n dX12_findFrames_26 rfl rfl ?_
  refine zr_getIv (x := (I 84 13)) dX12_findFrames_27 zf_X12_198 rfl (hS.has (a := 84) rfl rfl) rfl ?_
  refine zr_icge (tgt := 103) dX12_findFrames_30 (by decide) (fun hb => ?_) (fun hb => ?_)
  · have k := k.1 hb
    refine zr_aload_n dX12_findFrames_103 rfl rfl ?_
    refine zr_iconst (v := 0) dX12_findFrames_104 (by decide) ?_
    refine zr_putI dX12_findFrames_105 zf_X12_366 rfl (hS.has (a := 84) rfl rfl) rfl rfl ?_
    refine zr_iconst (v := 0) dX12_findFrames_108 (by decide) ?_
    refine zr_istore_n dX12_findFrames_109 rfl (Nat.le_of_ble_eq_true rfl) rfl ?_
    refine zr_iconst (v := 0) dX12_findFrames_110 (by decide) ?_
    refine zr_istore_n dX12_findFrames_111 rfl (Nat.le_of_ble_eq_true rfl) rfl ?_
    exact k
  · have k := k.2 hb
    refine zr_aload_n dX12_findFrames_33 rfl rfl ?_
    refine zr_getR dX12_findFrames_34 zf_X12_126 rfl (hS.has (a := 84) rfl rfl) (hS.ref (a := 119) rfl) ?_
    refine zr_bipush (v := 48) dX12_findFrames_37 (by decide) ?_
    refine zr_iload_n dX12_findFrames_39 rfl rfl ?_
    refine zr_imul dX12_findFrames_40 ?_
    refine zr_iload_n dX12_findFrames_41 rfl rfl ?_
    refine zr_iadd dX12_findFrames_42 ?_
    obtain ⟨hi2, k⟩ := k
    refine zr_ialdv (x := (I 119 (((48 : Int32) * v1) + v2).toNatClampNeg)) dX12_findFrames_43 (hS.has (a := 119) rfl rfl) hi2 rfl ?_
    refine zr_iconst (v := -1) dX12_findFrames_44 (by decide) ?_
    refine zr_iceq (tgt := 97) dX12_findFrames_45 (by decide) (fun hb => ?_) (fun hb => ?_)
    · have k := k.1 hb
      refine zr_iinc (v := (v2 + 1)) dX12_findFrames_97 rfl rfl (Nat.le_of_ble_eq_true rfl) rfl ?_
      refine zr_goto (tgt := 25) dX12_findFrames_100 (by decide) ?_
      exact k
    · have k := k.2 hb
      refine zr_aload_n dX12_findFrames_48 rfl rfl ?_
      refine zr_iload_n dX12_findFrames_49 rfl rfl ?_
      refine zr_callV (As := [.int v2]) (fr' := fX12_isJoint) (lo' := lX12_isJoint) (bc' := 0) (bs' := 0) (bcr := bc) (bsr := bs) dX12_findFrames_50 zs_X12_286 zi_X12_isJoint zcl_12 (hS.has (a := 84) rfl rfl) rfl rfl (Nat.le_of_ble_eq_true rfl) (Nat.le_of_ble_eq_true rfl) (Nat.le_of_ble_eq_true rfl) (Nat.le_refl _) (Nat.le_refl _) ?_
      obtain ⟨hq0, k⟩ := k
      refine sp_X12_isJoint hS hq0 ?_
      show ZW G mX12_findFrames fX12_findFrames lX12_findFrames 53 [zo G 84, .int v1, .int v2, .null, .null, .null, .null] [.int (p_X12_isJoint I v2)] S I L bc bs Q
      refine zr_ifeq (tgt := 97) dX12_findFrames_53 (by decide) (fun hb => ?_) (fun hb => ?_)
      · have k := k.1 hb
        refine zr_iinc (v := (v2 + 1)) dX12_findFrames_97 rfl rfl (Nat.le_of_ble_eq_true rfl) rfl ?_
        refine zr_goto (tgt := 25) dX12_findFrames_100 (by decide) ?_
        exact k
      · have k := k.2 hb
        refine zr_aload_n dX12_findFrames_56 rfl rfl ?_
        refine zr_getR dX12_findFrames_57 zf_X12_141 rfl (hS.has (a := 84) rfl rfl) (hS.ref (a := 124) rfl) ?_
        refine zr_aload_n dX12_findFrames_60 rfl rfl ?_
        refine zr_getR dX12_findFrames_61 zf_X12_42 rfl (hS.has (a := 84) rfl rfl) (hS.ref (a := 94) rfl) ?_
        refine zr_iload_n dX12_findFrames_64 rfl rfl ?_
        obtain ⟨hi3, k⟩ := k
        refine zr_ialdv (x := (I 94 v2.toNatClampNeg)) dX12_findFrames_65 (hS.has (a := 94) rfl rfl) hi3 rfl ?_
        refine zr_aload_n dX12_findFrames_66 rfl rfl ?_
        refine zr_getR dX12_findFrames_67 zf_X12_141 rfl (hS.has (a := 84) rfl rfl) (hS.ref (a := 124) rfl) ?_
        refine zr_aload_n dX12_findFrames_70 rfl rfl ?_
        refine zr_getR dX12_findFrames_71 zf_X12_42 rfl (hS.has (a := 84) rfl rfl) (hS.ref (a := 94) rfl) ?_
        refine zr_iload_n dX12_findFrames_74 rfl rfl ?_
        refine zr_ialdv (x := (I 94 v2.toNatClampNeg)) dX12_findFrames_75 (hS.has (a := 94) rfl rfl) hi3 rfl ?_
        obtain ⟨hi4, k⟩ := k
        refine zr_ialdv (x := (I 124 (I 94 v2.toNatClampNeg).toNatClampNeg)) dX12_findFrames_76 (hS.has (a := 124) rfl rfl) hi4 rfl ?_
        refine zr_iconst (v := 1) dX12_findFrames_77 (by decide) ?_
        refine zr_aload_n dX12_findFrames_78 rfl rfl ?_
        refine zr_getR dX12_findFrames_79 zf_X12_42 rfl (hS.has (a := 84) rfl rfl) (hS.ref (a := 94) rfl) ?_
        refine zr_aload_n dX12_findFrames_82 rfl rfl ?_
        refine zr_getR dX12_findFrames_83 zf_X12_126 rfl (hS.has (a := 84) rfl rfl) (hS.ref (a := 119) rfl) ?_
        refine zr_bipush (v := 48) dX12_findFrames_86 (by decide) ?_
        refine zr_iload_n dX12_findFrames_88 rfl rfl ?_
        refine zr_imul dX12_findFrames_89 ?_
        refine zr_iload_n dX12_findFrames_90 rfl rfl ?_
        refine zr_iadd dX12_findFrames_91 ?_
        refine zr_ialdv (x := (I 119 (((48 : Int32) * v1) + v2).toNatClampNeg)) dX12_findFrames_92 (hS.has (a := 119) rfl rfl) hi2 rfl ?_
        obtain ⟨hi5, k⟩ := k
        refine zr_ialdv (x := (I 94 (I 119 (((48 : Int32) * v1) + v2).toNatClampNeg).toNatClampNeg)) dX12_findFrames_93 (hS.has (a := 94) rfl rfl) hi5 rfl ?_
        refine zr_ishl dX12_findFrames_94 ?_
        refine zr_ior dX12_findFrames_95 ?_
        refine zr_iast dX12_findFrames_96 (hS.has (a := 124) rfl rfl) hi4 ?_
        refine zr_iinc (v := (v2 + 1)) dX12_findFrames_97 rfl rfl (Nat.le_of_ble_eq_true rfl) rfl ?_
        refine zr_goto (tgt := 25) dX12_findFrames_100 (by decide) ?_
        exact k
set_option maxHeartbeats 2000000 in
theorem vX12_findFrames_112 {G : Gp} {bc bs : Nat} {Q : zPost} {S : zSh} {I : zFI} {L : zFL} {v1 : Int32} {v2 : Int32} {v3 : Int32} (hS : zStd S)  (k : (((I 84 3) ≤ v3 → Q none S I L) ∧ (¬ (I 84 3) ≤ v3 → vp_in v3 16 ∧ (((I 124 v3.toNatClampNeg) = 0 → ZW G mX12_findFrames fX12_findFrames lX12_findFrames 112 [zo G 84, .int v1, .int v2, .int (v3 + 1), .null, .null, .null] [] S I L bc bs Q) ∧ (¬ (I 124 v3.toNatClampNeg) = 0 → ((¬ ((v2 >>> (v3 &&& 31)) &&& (1 : Int32)) = (1 : Int32) → ZW G mX12_findFrames fX12_findFrames lX12_findFrames 149 [zo G 84, .int v1, .int v2, .int v3, .int ((1 : Int32) <<< (v3 &&& 31)), .int (0 : Int32), .null] [] S I L bc bs Q) ∧ (((v2 >>> (v3 &&& 31)) &&& (1 : Int32)) = (1 : Int32) → ZW G mX12_findFrames fX12_findFrames lX12_findFrames 112 [zo G 84, .int v1, .int v2, .int (v3 + 1), .null, .null, .null] [] S I L bc bs Q))))))) : ZW G mX12_findFrames fX12_findFrames lX12_findFrames 112 [zo G 84, .int v1, .int v2, .int v3, .null, .null, .null] [] S I L bc bs Q := by
  refine zr_iload_n dX12_findFrames_112 rfl rfl ?_
  refine zr_aload_n dX12_findFrames_113 rfl rfl ?_
  refine zr_getIv (x := (I 84 3)) dX12_findFrames_114 zf_X12_191 rfl (hS.has (a := 84) rfl rfl) rfl ?_
  refine zr_icge (tgt := 236) dX12_findFrames_117 (by decide) (fun hb => ?_) (fun hb => ?_)
  · have k := k.1 hb
    exact zr_return_ dX12_findFrames_236 rfl k
  · have k := k.2 hb
    refine zr_aload_n dX12_findFrames_120 rfl rfl ?_
    refine zr_getR dX12_findFrames_121 zf_X12_141 rfl (hS.has (a := 84) rfl rfl) (hS.ref (a := 124) rfl) ?_
    refine zr_iload_n dX12_findFrames_124 rfl rfl ?_
    obtain ⟨hi6, k⟩ := k
    refine zr_ialdv (x := (I 124 v3.toNatClampNeg)) dX12_findFrames_125 (hS.has (a := 124) rfl rfl) hi6 rfl ?_
    refine zr_ifeq (tgt := 230) dX12_findFrames_126 (by decide) (fun hb => ?_) (fun hb => ?_)
    · have k := k.1 hb
      refine zr_iinc (v := (v3 + 1)) dX12_findFrames_230 rfl rfl (Nat.le_of_ble_eq_true rfl) rfl ?_
      refine zr_goto (tgt := 112) dX12_findFrames_233 (by decide) ?_
      exact k
    · have k := k.2 hb
      refine zr_iload_n dX12_findFrames_129 rfl rfl ?_
      refine zr_iload_n dX12_findFrames_130 rfl rfl ?_
      refine zr_ishr dX12_findFrames_131 ?_
      refine zr_iconst (v := 1) dX12_findFrames_132 (by decide) ?_
      refine zr_iand dX12_findFrames_133 ?_
      refine zr_iconst (v := 1) dX12_findFrames_134 (by decide) ?_
      refine zr_icne (tgt := 141) dX12_findFrames_135 (by decide) (fun hb => ?_) (fun hb => ?_)
      · have k := k.1 hb
        refine zr_iconst (v := 1) dX12_findFrames_141 (by decide) ?_
        refine zr_iload_n dX12_findFrames_142 rfl rfl ?_
        refine zr_ishl dX12_findFrames_143 ?_
        refine zr_istore dX12_findFrames_144 (Nat.le_of_ble_eq_true rfl) rfl ?_
        refine zr_iconst (v := 0) dX12_findFrames_146 (by decide) ?_
        refine zr_istore dX12_findFrames_147 (Nat.le_of_ble_eq_true rfl) rfl ?_
        exact k
      · have k := k.2 hb
        refine zr_goto (tgt := 230) dX12_findFrames_138 (by decide) ?_
        refine zr_iinc (v := (v3 + 1)) dX12_findFrames_230 rfl rfl (Nat.le_of_ble_eq_true rfl) rfl ?_
        refine zr_goto (tgt := 112) dX12_findFrames_233 (by decide) ?_
        exact k
set_option maxHeartbeats 2000000 in
theorem vX12_findFrames_149 {G : Gp} {bc bs : Nat} {Q : zPost} {S : zSh} {I : zFI} {L : zFL} {v1 : Int32} {v2 : Int32} {v3 : Int32} {v4 : Int32} {v5 : Int32} (hS : zStd S)  (k : ((v4 = v5 → vp_in (I 84 64) 16 ∧ ZW G mX12_findFrames fX12_findFrames lX12_findFrames 112 [zo G 84, .int v1, .int (v2 ||| v4), .int (v3 + 1), .null, .null, .null] [] S (u2 (u2 I 125 (I 84 64).toNatClampNeg v4) 84 64 ((I 84 64) + (1 : Int32))) L bc bs Q) ∧ (¬ v4 = v5 → ZW G mX12_findFrames fX12_findFrames lX12_findFrames 163 [zo G 84, .int v1, .int v2, .int v3, .int v4, .int v4, .int (0 : Int32)] [] S I L bc bs Q))) : ZW G mX12_findFrames fX12_findFrames lX12_findFrames 149 [zo G 84, .int v1, .int v2, .int v3, .int v4, .int v5, .null] [] S I L bc bs Q := by
  refine zr_iload dX12_findFrames_149 rfl ?_
  refine zr_iload dX12_findFrames_151 rfl ?_
  refine zr_iceq (tgt := 204) dX12_findFrames_153 (by decide) (fun hb => ?_) (fun hb => ?_)
  · have k := k.1 hb
    refine zr_iload_n dX12_findFrames_204 rfl rfl ?_
    refine zr_iload dX12_findFrames_205 rfl ?_
    refine zr_ior dX12_findFrames_207 ?_
    refine zr_istore_n dX12_findFrames_208 rfl (Nat.le_of_ble_eq_true rfl) rfl ?_
    refine zr_aload_n dX12_findFrames_209 rfl rfl ?_
    refine zr_getR dX12_findFrames_210 zf_X12_144 rfl (hS.has (a := 84) rfl rfl) (hS.ref (a := 125) rfl) ?_
    refine zr_aload_n dX12_findFrames_213 rfl rfl ?_
    refine zr_getIv (x := (I 84 64)) dX12_findFrames_214 zf_X12_366 rfl (hS.has (a := 84) rfl rfl) rfl ?_
    refine zr_iload dX12_findFrames_217 rfl ?_
    obtain ⟨hi7, k⟩ := k
    refine zr_iast dX12_findFrames_219 (hS.has (a := 125) rfl rfl) hi7 ?_
    refine zr_aload_n dX12_findFrames_220 rfl rfl ?_
    refine zr_aload_n dX12_findFrames_221 rfl rfl ?_
    refine zr_getIv (x := (I 84 64)) dX12_findFrames_222 zf_X12_366 rfl (hS.has (a := 84) rfl rfl) rfl ?_
    refine zr_iconst (v := 1) dX12_findFrames_225 (by decide) ?_
    refine zr_iadd dX12_findFrames_226 ?_
    refine zr_putI dX12_findFrames_227 zf_X12_366 rfl (hS.has (a := 84) rfl rfl) rfl rfl ?_
    refine zr_iinc (v := (v3 + 1)) dX12_findFrames_230 rfl rfl (Nat.le_of_ble_eq_true rfl) rfl ?_
    refine zr_goto (tgt := 112) dX12_findFrames_233 (by decide) ?_
    exact zr_mask [true, true, true, true, false, false, false] rfl k
  · have k := k.2 hb
    refine zr_iload dX12_findFrames_156 rfl ?_
    refine zr_istore dX12_findFrames_158 (Nat.le_of_ble_eq_true rfl) rfl ?_
    refine zr_iconst (v := 0) dX12_findFrames_160 (by decide) ?_
    refine zr_istore dX12_findFrames_161 (Nat.le_of_ble_eq_true rfl) rfl ?_
    exact k
set_option maxHeartbeats 2000000 in
theorem vX12_findFrames_163 {G : Gp} {bc bs : Nat} {Q : zPost} {S : zSh} {I : zFI} {L : zFL} {v1 : Int32} {v2 : Int32} {v3 : Int32} {v4 : Int32} {v5 : Int32} {v6 : Int32} (hS : zStd S)  (k : (((I 84 3) ≤ v6 → ZW G mX12_findFrames fX12_findFrames lX12_findFrames 149 [zo G 84, .int v1, .int v2, .int v3, .int v4, .int v5, .null] [] S I L bc bs Q) ∧ (¬ (I 84 3) ≤ v6 → ((¬ ((v4 >>> (v6 &&& 31)) &&& (1 : Int32)) = (1 : Int32) → ZW G mX12_findFrames fX12_findFrames lX12_findFrames 163 [zo G 84, .int v1, .int v2, .int v3, .int v4, .int v5, .int (v6 + 1)] [] S I L bc bs Q) ∧ (((v4 >>> (v6 &&& 31)) &&& (1 : Int32)) = (1 : Int32) → vp_in v6 16 ∧ ZW G mX12_findFrames fX12_findFrames lX12_findFrames 163 [zo G 84, .int v1, .int v2, .int v3, .int (v4 ||| (I 124 v6.toNatClampNeg)), .int v5, .int (v6 + 1)] [] S I L bc bs Q))))) : ZW G mX12_findFrames fX12_findFrames lX12_findFrames 163 [zo G 84, .int v1, .int v2, .int v3, .int v4, .int v5, .int v6] [] S I L bc bs Q := by
  refine zr_iload dX12_findFrames_163 rfl ?_
  refine zr_aload_n dX12_findFrames_165 rfl rfl ?_
  refine zr_getIv (x := (I 84 3)) dX12_findFrames_166 zf_X12_191 rfl (hS.has (a := 84) rfl rfl) rfl ?_
  refine zr_icge (tgt := 201) dX12_findFrames_169 (by decide) (fun hb => ?_) (fun hb => ?_)
  · have k := k.1 hb
    refine zr_goto (tgt := 149) dX12_findFrames_201 (by decide) ?_
    exact zr_mask [true, true, true, true, true, true, false] rfl k
  · have k := k.2 hb
    refine zr_iload dX12_findFrames_172 rfl ?_
    refine zr_iload dX12_findFrames_174 rfl ?_
    refine zr_ishr dX12_findFrames_176 ?_
    refine zr_iconst (v := 1) dX12_findFrames_177 (by decide) ?_
    refine zr_iand dX12_findFrames_178 ?_
    refine zr_iconst (v := 1) dX12_findFrames_179 (by decide) ?_
    refine zr_icne (tgt := 195) dX12_findFrames_180 (by decide) (fun hb => ?_) (fun hb => ?_)
    · have k := k.1 hb
      refine zr_iinc (v := (v6 + 1)) dX12_findFrames_195 rfl rfl (Nat.le_of_ble_eq_true rfl) rfl ?_
      refine zr_goto (tgt := 163) dX12_findFrames_198 (by decide) ?_
      exact k
    · have k := k.2 hb
      refine zr_iload dX12_findFrames_183 rfl ?_
      refine zr_aload_n dX12_findFrames_185 rfl rfl ?_
      refine zr_getR dX12_findFrames_186 zf_X12_141 rfl (hS.has (a := 84) rfl rfl) (hS.ref (a := 124) rfl) ?_
      refine zr_iload dX12_findFrames_189 rfl ?_
      obtain ⟨hi8, k⟩ := k
      refine zr_ialdv (x := (I 124 v6.toNatClampNeg)) dX12_findFrames_191 (hS.has (a := 124) rfl rfl) hi8 rfl ?_
      refine zr_ior dX12_findFrames_192 ?_
      refine zr_istore dX12_findFrames_193 (Nat.le_of_ble_eq_true rfl) rfl ?_
      refine zr_iinc (v := (v6 + 1)) dX12_findFrames_195 rfl rfl (Nat.le_of_ble_eq_true rfl) rfl ?_
      refine zr_goto (tgt := 163) dX12_findFrames_198 (by decide) ?_
      exact k
set_option maxHeartbeats 2000000 in
theorem vX12_join_0 {G : Gp} {bc bs : Nat} {Q : zPost} {S : zSh} {I : zFI} {L : zFL} {v1 : Int32} {v2 : Int32} (hS : zStd S)  (k : (((p_X12_isIn v1 (0 : Int32) (1 : Int32)) = 0 → Q (some (.int (-1 : Int32))) S (u2 I 84 0 (0 : Int32)) L) ∧ (¬ (p_X12_isIn v1 (0 : Int32) (1 : Int32)) = 0 → ((¬ (p_X12_isIn v2 (0 : Int32) (3 : Int32)) = 0 → ZC G mX12_findJoins fX12_findJoins lX12_findJoins [zo G 84, .int v1] S (u2 I 84 0 (0 : Int32)) L 0 0 (fun w S' I1 L1 => w = none ∧ S = S' ∧ ((¬ v2 = 0 → ((¬ v2 = (1 : Int32) → ((¬ v2 = (2 : Int32) → ZC G mX12_findFrames fX12_findFrames lX12_findFrames [zo G 84, .int v1] S I1 L1 0 0 (fun w S' I2 L2 => w = none ∧ S = S' ∧ Q (some (.int (I2 84 64))) S I2 L2)) ∧ (v2 = (2 : Int32) → vp_in v1 2 ∧ Q (some (.int (I1 123 v1.toNatClampNeg))) S I1 L1))) ∧ (v2 = (1 : Int32) → vp_in v1 2 ∧ Q (some (.int (I1 122 v1.toNatClampNeg))) S I1 L1))) ∧ (v2 = 0 → vp_in v1 2 ∧ Q (some (.int (I1 121 v1.toNatClampNeg))) S I1 L1)))) ∧ ((p_X12_isIn v2 (0 : Int32) (3 : Int32)) = 0 → Q (some (.int (-1 : Int32))) S (u2 I 84 0 (0 : Int32)) L))))) : ZW G mX12_join fX12_join lX12_join 0 [zo G 84, .int v1, .int v2] [] S I L bc bs Q := by
  refine zr_aload_n dX12_join_0 rfl rfl ?_
  refine zr_iconst (v := 0) dX12_join_1 (by decide) ?_
  refine zr_putI dX12_join_2 zf_X12_188 rfl (hS.has (a := 84) rfl rfl) rfl rfl ?_
  refine zr_aload_n dX12_join_5 rfl rfl ?_
  refine zr_iload_n dX12_join_6 rfl rfl ?_
  refine zr_iconst (v := 0) dX12_join_7 (by decide) ?_
  refine zr_iconst (v := 1) dX12_join_8 (by decide) ?_
  refine zr_callV (As := [.int v1, .int (0 : Int32), .int (1 : Int32)]) (fr' := fX12_isIn) (lo' := lX12_isIn) (bc' := 0) (bs' := 0) (bcr := bc) (bsr := bs) dX12_join_9 zs_X12_201 zi_X12_isIn zcl_12 (hS.has (a := 84) rfl rfl) rfl rfl (Nat.le_of_ble_eq_true rfl) (Nat.le_of_ble_eq_true rfl) (Nat.le_of_ble_eq_true rfl) (Nat.le_refl _) (Nat.le_refl _) ?_
  refine sp_X12_isIn hS  ?_
  show ZW G mX12_join fX12_join lX12_join 12 [zo G 84, .int v1, .int v2] [.int (p_X12_isIn v1 (0 : Int32) (1 : Int32))] S (u2 I 84 0 (0 : Int32)) L bc bs Q
  refine zr_ifeq (tgt := 25) dX12_join_12 (by decide) (fun hb => ?_) (fun hb => ?_)
  · have k := k.1 hb
    refine zr_iconst (v := -1) dX12_join_25 (by decide) ?_
    exact zr_ireturn dX12_join_26 rfl rfl k
  · have k := k.2 hb
    refine zr_aload_n dX12_join_15 rfl rfl ?_
    refine zr_iload_n dX12_join_16 rfl rfl ?_
    refine zr_iconst (v := 0) dX12_join_17 (by decide) ?_
    refine zr_iconst (v := 3) dX12_join_18 (by decide) ?_
    refine zr_callV (As := [.int v2, .int (0 : Int32), .int (3 : Int32)]) (fr' := fX12_isIn) (lo' := lX12_isIn) (bc' := 0) (bs' := 0) (bcr := bc) (bsr := bs) dX12_join_19 zs_X12_201 zi_X12_isIn zcl_12 (hS.has (a := 84) rfl rfl) rfl rfl (Nat.le_of_ble_eq_true rfl) (Nat.le_of_ble_eq_true rfl) (Nat.le_of_ble_eq_true rfl) (Nat.le_refl _) (Nat.le_refl _) ?_
    refine sp_X12_isIn hS  ?_
    show ZW G mX12_join fX12_join lX12_join 22 [zo G 84, .int v1, .int v2] [.int (p_X12_isIn v2 (0 : Int32) (3 : Int32))] S (u2 I 84 0 (0 : Int32)) L bc bs Q
    refine zr_ifne (tgt := 27) dX12_join_22 (by decide) (fun hb => ?_) (fun hb => ?_)
    · have k := k.1 hb
      refine zr_aload_n dX12_join_27 rfl rfl ?_
      refine zr_iload_n dX12_join_28 rfl rfl ?_
      refine zr_callV (As := [.int v1]) (fr' := fX12_findJoins) (lo' := lX12_findJoins) (bc' := 0) (bs' := 0) (bcr := bc) (bsr := bs) dX12_join_29 zs_X12_360 zi_X12_findJoins zcl_12 (hS.has (a := 84) rfl rfl) rfl rfl (Nat.le_of_ble_eq_true rfl) (Nat.le_of_ble_eq_true rfl) (Nat.le_of_ble_eq_true rfl) (Nat.le_refl _) (Nat.le_refl _) ?_
      refine ZC.mono (fun w S' I1 L1 k => ?_) k
      obtain ⟨rfl, rfl, k⟩ := k
      show ZW G mX12_join fX12_join lX12_join 32 [zo G 84, .int v1, .int v2] [] S I1 L1 bc bs Q
      refine zr_iload_n dX12_join_32 rfl rfl ?_
      refine zr_ifne (tgt := 43) dX12_join_33 (by decide) (fun hb => ?_) (fun hb => ?_)
      · have k := k.1 hb
        refine zr_iload_n dX12_join_43 rfl rfl ?_
        refine zr_iconst (v := 1) dX12_join_44 (by decide) ?_
        refine zr_icne (tgt := 55) dX12_join_45 (by decide) (fun hb => ?_) (fun hb => ?_)
        · have k := k.1 hb
          refine zr_iload_n dX12_join_55 rfl rfl ?_
          refine zr_iconst (v := 2) dX12_join_56 (by decide) ?_
          refine zr_icne (tgt := 67) dX12_join_57 (by decide) (fun hb => ?_) (fun hb => ?_)
          · have k := k.1 hb
            refine zr_aload_n dX12_join_67 rfl rfl ?_
            refine zr_iload_n dX12_join_68 rfl rfl ?_
            refine zr_callV (As := [.int v1]) (fr' := fX12_findFrames) (lo' := lX12_findFrames) (bc' := 0) (bs' := 0) (bcr := bc) (bsr := bs) dX12_join_69 zs_X12_363 zi_X12_findFrames zcl_12 (hS.has (a := 84) rfl rfl) rfl rfl (Nat.le_of_ble_eq_true rfl) (Nat.le_of_ble_eq_true rfl) (Nat.le_of_ble_eq_true rfl) (Nat.le_refl _) (Nat.le_refl _) ?_
            refine ZC.mono (fun w S' I2 L2 k => ?_) k
            obtain ⟨rfl, rfl, k⟩ := k
            show ZW G mX12_join fX12_join lX12_join 72 [zo G 84, .int v1, .int v2] [] S I2 L2 bc bs Q
            refine zr_aload_n dX12_join_72 rfl rfl ?_
            refine zr_getIv (x := (I2 84 64)) dX12_join_73 zf_X12_366 rfl (hS.has (a := 84) rfl rfl) rfl ?_
            exact zr_ireturn dX12_join_76 rfl rfl k
          · have k := k.2 hb
            refine zr_aload_n dX12_join_60 rfl rfl ?_
            refine zr_getR dX12_join_61 zf_X12_138 rfl (hS.has (a := 84) rfl rfl) (hS.ref (a := 123) rfl) ?_
            refine zr_iload_n dX12_join_64 rfl rfl ?_
            obtain ⟨hi1, k⟩ := k
            refine zr_ialdv (x := (I1 123 v1.toNatClampNeg)) dX12_join_65 (hS.has (a := 123) rfl rfl) hi1 rfl ?_
            exact zr_ireturn dX12_join_66 rfl rfl k
        · have k := k.2 hb
          refine zr_aload_n dX12_join_48 rfl rfl ?_
          refine zr_getR dX12_join_49 zf_X12_135 rfl (hS.has (a := 84) rfl rfl) (hS.ref (a := 122) rfl) ?_
          refine zr_iload_n dX12_join_52 rfl rfl ?_
          obtain ⟨hi2, k⟩ := k
          refine zr_ialdv (x := (I1 122 v1.toNatClampNeg)) dX12_join_53 (hS.has (a := 122) rfl rfl) hi2 rfl ?_
          exact zr_ireturn dX12_join_54 rfl rfl k
      · have k := k.2 hb
        refine zr_aload_n dX12_join_36 rfl rfl ?_
        refine zr_getR dX12_join_37 zf_X12_132 rfl (hS.has (a := 84) rfl rfl) (hS.ref (a := 121) rfl) ?_
        refine zr_iload_n dX12_join_40 rfl rfl ?_
        obtain ⟨hi3, k⟩ := k
        refine zr_ialdv (x := (I1 121 v1.toNatClampNeg)) dX12_join_41 (hS.has (a := 121) rfl rfl) hi3 rfl ?_
        exact zr_ireturn dX12_join_42 rfl rfl k
    · have k := k.2 hb
      refine zr_iconst (v := -1) dX12_join_25 (by decide) ?_
      exact zr_ireturn dX12_join_26 rfl rfl k
set_option maxHeartbeats 2000000 in
theorem vX12_mate_0 {G : Gp} {bc bs : Nat} {Q : zPost} {S : zSh} {I : zFI} {L : zFL} {v1 : Int32} {v2 : Int32} (hS : zStd S)  (k : (((p_X12_isIn v1 (0 : Int32) (1 : Int32)) = 0 → Q (some (.int (-1 : Int32))) S (u2 I 84 0 (0 : Int32)) L) ∧ (¬ (p_X12_isIn v1 (0 : Int32) (1 : Int32)) = 0 → (¬ v2 < 0 → ¬ ((u2 I 84 0 (0 : Int32)) 84 13) ≤ v2 → vp_in v2 48) ∧ ((¬ (p_X12_isJoint (u2 I 84 0 (0 : Int32)) v2) = 0 → ZC G mX12_findJoins fX12_findJoins lX12_findJoins [zo G 84, .int v1] S (u2 I 84 0 (0 : Int32)) L 0 0 (fun w S' I1 L1 => w = none ∧ S = S' ∧ vp_in (((48 : Int32) * v1) + v2) 96 ∧ Q (some (.int (I1 119 (((48 : Int32) * v1) + v2).toNatClampNeg))) S I1 L1)) ∧ ((p_X12_isJoint (u2 I 84 0 (0 : Int32)) v2) = 0 → Q (some (.int (-1 : Int32))) S (u2 I 84 0 (0 : Int32)) L))))) : ZW G mX12_mate fX12_mate lX12_mate 0 [zo G 84, .int v1, .int v2] [] S I L bc bs Q := by
  refine zr_aload_n dX12_mate_0 rfl rfl ?_
  refine zr_iconst (v := 0) dX12_mate_1 (by decide) ?_
  refine zr_putI dX12_mate_2 zf_X12_188 rfl (hS.has (a := 84) rfl rfl) rfl rfl ?_
  refine zr_aload_n dX12_mate_5 rfl rfl ?_
  refine zr_iload_n dX12_mate_6 rfl rfl ?_
  refine zr_iconst (v := 0) dX12_mate_7 (by decide) ?_
  refine zr_iconst (v := 1) dX12_mate_8 (by decide) ?_
  refine zr_callV (As := [.int v1, .int (0 : Int32), .int (1 : Int32)]) (fr' := fX12_isIn) (lo' := lX12_isIn) (bc' := 0) (bs' := 0) (bcr := bc) (bsr := bs) dX12_mate_9 zs_X12_201 zi_X12_isIn zcl_12 (hS.has (a := 84) rfl rfl) rfl rfl (Nat.le_of_ble_eq_true rfl) (Nat.le_of_ble_eq_true rfl) (Nat.le_of_ble_eq_true rfl) (Nat.le_refl _) (Nat.le_refl _) ?_
  refine sp_X12_isIn hS  ?_
  show ZW G mX12_mate fX12_mate lX12_mate 12 [zo G 84, .int v1, .int v2] [.int (p_X12_isIn v1 (0 : Int32) (1 : Int32))] S (u2 I 84 0 (0 : Int32)) L bc bs Q
  refine zr_ifeq (tgt := 23) dX12_mate_12 (by decide) (fun hb => ?_) (fun hb => ?_)
  · have k := k.1 hb
    refine zr_iconst (v := -1) dX12_mate_23 (by decide) ?_
    exact zr_ireturn dX12_mate_24 rfl rfl k
  · have k := k.2 hb
    refine zr_aload_n dX12_mate_15 rfl rfl ?_
    refine zr_iload_n dX12_mate_16 rfl rfl ?_
    refine zr_callV (As := [.int v2]) (fr' := fX12_isJoint) (lo' := lX12_isJoint) (bc' := 0) (bs' := 0) (bcr := bc) (bsr := bs) dX12_mate_17 zs_X12_286 zi_X12_isJoint zcl_12 (hS.has (a := 84) rfl rfl) rfl rfl (Nat.le_of_ble_eq_true rfl) (Nat.le_of_ble_eq_true rfl) (Nat.le_of_ble_eq_true rfl) (Nat.le_refl _) (Nat.le_refl _) ?_
    obtain ⟨hq0, k⟩ := k
    refine sp_X12_isJoint hS hq0 ?_
    show ZW G mX12_mate fX12_mate lX12_mate 20 [zo G 84, .int v1, .int v2] [.int (p_X12_isJoint (u2 I 84 0 (0 : Int32)) v2)] S (u2 I 84 0 (0 : Int32)) L bc bs Q
    refine zr_ifne (tgt := 25) dX12_mate_20 (by decide) (fun hb => ?_) (fun hb => ?_)
    · have k := k.1 hb
      refine zr_aload_n dX12_mate_25 rfl rfl ?_
      refine zr_iload_n dX12_mate_26 rfl rfl ?_
      refine zr_callV (As := [.int v1]) (fr' := fX12_findJoins) (lo' := lX12_findJoins) (bc' := 0) (bs' := 0) (bcr := bc) (bsr := bs) dX12_mate_27 zs_X12_360 zi_X12_findJoins zcl_12 (hS.has (a := 84) rfl rfl) rfl rfl (Nat.le_of_ble_eq_true rfl) (Nat.le_of_ble_eq_true rfl) (Nat.le_of_ble_eq_true rfl) (Nat.le_refl _) (Nat.le_refl _) ?_
      refine ZC.mono (fun w S' I1 L1 k => ?_) k
      obtain ⟨rfl, rfl, k⟩ := k
      show ZW G mX12_mate fX12_mate lX12_mate 30 [zo G 84, .int v1, .int v2] [] S I1 L1 bc bs Q
      refine zr_aload_n dX12_mate_30 rfl rfl ?_
      refine zr_getR dX12_mate_31 zf_X12_126 rfl (hS.has (a := 84) rfl rfl) (hS.ref (a := 119) rfl) ?_
      refine zr_bipush (v := 48) dX12_mate_34 (by decide) ?_
      refine zr_iload_n dX12_mate_36 rfl rfl ?_
      refine zr_imul dX12_mate_37 ?_
      refine zr_iload_n dX12_mate_38 rfl rfl ?_
      refine zr_iadd dX12_mate_39 ?_
      obtain ⟨hi1, k⟩ := k
      refine zr_ialdv (x := (I1 119 (((48 : Int32) * v1) + v2).toNatClampNeg)) dX12_mate_40 (hS.has (a := 119) rfl rfl) hi1 rfl ?_
      exact zr_ireturn dX12_mate_41 rfl rfl k
    · have k := k.2 hb
      refine zr_iconst (v := -1) dX12_mate_23 (by decide) ?_
      exact zr_ireturn dX12_mate_24 rfl rfl k
set_option maxHeartbeats 2000000 in
theorem vX12_forced_0 {G : Gp} {bc bs : Nat} {Q : zPost} {S : zSh} {I : zFI} {L : zFL} {v1 : Int32} {v2 : Int32} (hS : zStd S)  (k : (((p_X12_isIn v1 (0 : Int32) (1 : Int32)) = 0 → Q (some (.int (-1 : Int32))) S (u2 I 84 0 (0 : Int32)) L) ∧ (¬ (p_X12_isIn v1 (0 : Int32) (1 : Int32)) = 0 → (¬ v2 < 0 → ¬ ((u2 I 84 0 (0 : Int32)) 84 13) ≤ v2 → vp_in v2 48) ∧ ((¬ (p_X12_isJoint (u2 I 84 0 (0 : Int32)) v2) = 0 → ZC G mX12_findJoins fX12_findJoins lX12_findJoins [zo G 84, .int v1] S (u2 I 84 0 (0 : Int32)) L 0 0 (fun w S' I1 L1 => w = none ∧ S = S' ∧ vp_in (((48 : Int32) * v1) + v2) 96 ∧ ((¬ (I1 119 (((48 : Int32) * v1) + v2).toNatClampNeg) = (-1 : Int32) → (((I1 120 (((48 : Int32) * v1) + v2).toNatClampNeg) = 0 → Q (some (.int (0 : Int32))) S I1 L1) ∧ (¬ (I1 120 (((48 : Int32) * v1) + v2).toNatClampNeg) = 0 → Q (some (.int (1 : Int32))) S I1 L1))) ∧ ((I1 119 (((48 : Int32) * v1) + v2).toNatClampNeg) = (-1 : Int32) → Q (some (.int (-1 : Int32))) S I1 L1)))) ∧ ((p_X12_isJoint (u2 I 84 0 (0 : Int32)) v2) = 0 → Q (some (.int (-1 : Int32))) S (u2 I 84 0 (0 : Int32)) L))))) : ZW G mX12_forced fX12_forced lX12_forced 0 [zo G 84, .int v1, .int v2] [] S I L bc bs Q := by
  refine zr_aload_n dX12_forced_0 rfl rfl ?_
  refine zr_iconst (v := 0) dX12_forced_1 (by decide) ?_
  refine zr_putI dX12_forced_2 zf_X12_188 rfl (hS.has (a := 84) rfl rfl) rfl rfl ?_
  refine zr_aload_n dX12_forced_5 rfl rfl ?_
  refine zr_iload_n dX12_forced_6 rfl rfl ?_
  refine zr_iconst (v := 0) dX12_forced_7 (by decide) ?_
  refine zr_iconst (v := 1) dX12_forced_8 (by decide) ?_
  refine zr_callV (As := [.int v1, .int (0 : Int32), .int (1 : Int32)]) (fr' := fX12_isIn) (lo' := lX12_isIn) (bc' := 0) (bs' := 0) (bcr := bc) (bsr := bs) dX12_forced_9 zs_X12_201 zi_X12_isIn zcl_12 (hS.has (a := 84) rfl rfl) rfl rfl (Nat.le_of_ble_eq_true rfl) (Nat.le_of_ble_eq_true rfl) (Nat.le_of_ble_eq_true rfl) (Nat.le_refl _) (Nat.le_refl _) ?_
  refine sp_X12_isIn hS  ?_
  show ZW G mX12_forced fX12_forced lX12_forced 12 [zo G 84, .int v1, .int v2] [.int (p_X12_isIn v1 (0 : Int32) (1 : Int32))] S (u2 I 84 0 (0 : Int32)) L bc bs Q
  refine zr_ifeq (tgt := 23) dX12_forced_12 (by decide) (fun hb => ?_) (fun hb => ?_)
  · have k := k.1 hb
    refine zr_iconst (v := -1) dX12_forced_23 (by decide) ?_
    exact zr_ireturn dX12_forced_24 rfl rfl k
  · have k := k.2 hb
    refine zr_aload_n dX12_forced_15 rfl rfl ?_
    refine zr_iload_n dX12_forced_16 rfl rfl ?_
    refine zr_callV (As := [.int v2]) (fr' := fX12_isJoint) (lo' := lX12_isJoint) (bc' := 0) (bs' := 0) (bcr := bc) (bsr := bs) dX12_forced_17 zs_X12_286 zi_X12_isJoint zcl_12 (hS.has (a := 84) rfl rfl) rfl rfl (Nat.le_of_ble_eq_true rfl) (Nat.le_of_ble_eq_true rfl) (Nat.le_of_ble_eq_true rfl) (Nat.le_refl _) (Nat.le_refl _) ?_
    obtain ⟨hq0, k⟩ := k
    refine sp_X12_isJoint hS hq0 ?_
    show ZW G mX12_forced fX12_forced lX12_forced 20 [zo G 84, .int v1, .int v2] [.int (p_X12_isJoint (u2 I 84 0 (0 : Int32)) v2)] S (u2 I 84 0 (0 : Int32)) L bc bs Q
    refine zr_ifne (tgt := 25) dX12_forced_20 (by decide) (fun hb => ?_) (fun hb => ?_)
    · have k := k.1 hb
      refine zr_aload_n dX12_forced_25 rfl rfl ?_
      refine zr_iload_n dX12_forced_26 rfl rfl ?_
      refine zr_callV (As := [.int v1]) (fr' := fX12_findJoins) (lo' := lX12_findJoins) (bc' := 0) (bs' := 0) (bcr := bc) (bsr := bs) dX12_forced_27 zs_X12_360 zi_X12_findJoins zcl_12 (hS.has (a := 84) rfl rfl) rfl rfl (Nat.le_of_ble_eq_true rfl) (Nat.le_of_ble_eq_true rfl) (Nat.le_of_ble_eq_true rfl) (Nat.le_refl _) (Nat.le_refl _) ?_
      refine ZC.mono (fun w S' I1 L1 k => ?_) k
      obtain ⟨rfl, rfl, k⟩ := k
      show ZW G mX12_forced fX12_forced lX12_forced 30 [zo G 84, .int v1, .int v2] [] S I1 L1 bc bs Q
      refine zr_aload_n dX12_forced_30 rfl rfl ?_
      refine zr_getR dX12_forced_31 zf_X12_126 rfl (hS.has (a := 84) rfl rfl) (hS.ref (a := 119) rfl) ?_
      refine zr_bipush (v := 48) dX12_forced_34 (by decide) ?_
      refine zr_iload_n dX12_forced_36 rfl rfl ?_
      refine zr_imul dX12_forced_37 ?_
      refine zr_iload_n dX12_forced_38 rfl rfl ?_
      refine zr_iadd dX12_forced_39 ?_
      obtain ⟨hi1, k⟩ := k
      refine zr_ialdv (x := (I1 119 (((48 : Int32) * v1) + v2).toNatClampNeg)) dX12_forced_40 (hS.has (a := 119) rfl rfl) hi1 rfl ?_
      refine zr_iconst (v := -1) dX12_forced_41 (by decide) ?_
      refine zr_icne (tgt := 49) dX12_forced_42 (by decide) (fun hb => ?_) (fun hb => ?_)
      · have k := k.1 hb
        refine zr_aload_n dX12_forced_49 rfl rfl ?_
        refine zr_getR dX12_forced_50 zf_X12_129 rfl (hS.has (a := 84) rfl rfl) (hS.ref (a := 120) rfl) ?_
        refine zr_bipush (v := 48) dX12_forced_53 (by decide) ?_
        refine zr_iload_n dX12_forced_55 rfl rfl ?_
        refine zr_imul dX12_forced_56 ?_
        refine zr_iload_n dX12_forced_57 rfl rfl ?_
        refine zr_iadd dX12_forced_58 ?_
        refine zr_zaldv (x := (I1 120 (((48 : Int32) * v1) + v2).toNatClampNeg)) dX12_forced_59 (hS.has (a := 120) rfl rfl) hi1 rfl ?_
        refine zr_ifeq (tgt := 67) dX12_forced_60 (by decide) (fun hb => ?_) (fun hb => ?_)
        · have k := k.1 hb
          refine zr_iconst (v := 0) dX12_forced_67 (by decide) ?_
          exact zr_ireturn dX12_forced_68 rfl rfl k
        · have k := k.2 hb
          refine zr_iconst (v := 1) dX12_forced_63 (by decide) ?_
          refine zr_goto (tgt := 68) dX12_forced_64 (by decide) ?_
          exact zr_ireturn dX12_forced_68 rfl rfl k
      · have k := k.2 hb
        refine zr_iconst (v := -1) dX12_forced_45 (by decide) ?_
        refine zr_goto (tgt := 68) dX12_forced_46 (by decide) ?_
        exact zr_ireturn dX12_forced_68 rfl rfl k
    · have k := k.2 hb
      refine zr_iconst (v := -1) dX12_forced_23 (by decide) ?_
      exact zr_ireturn dX12_forced_24 rfl rfl k
set_option maxHeartbeats 2000000 in
theorem vX12_ones_0 {G : Gp} {bc bs : Nat} {Q : zPost} {S : zSh} {I : zFI} {L : zFL} {v1 : Int32} (hS : zStd S)  (k : ZW G mX12_ones fX12_ones lX12_ones 4 [zo G 84, .int v1, .int (0 : Int32), .int v1] [] S I L bc bs Q) : ZW G mX12_ones fX12_ones lX12_ones 0 [zo G 84, .int v1, .null, .null] [] S I L bc bs Q := by
  refine zr_iconst (v := 0) dX12_ones_0 (by decide) ?_
  refine zr_istore_n dX12_ones_1 rfl (Nat.le_of_ble_eq_true rfl) rfl ?_
  refine zr_iload_n dX12_ones_2 rfl rfl ?_
  refine zr_istore_n dX12_ones_3 rfl (Nat.le_of_ble_eq_true rfl) rfl ?_
  exact k
set_option maxHeartbeats 2000000 in
theorem vX12_ones_4 {G : Gp} {bc bs : Nat} {Q : zPost} {S : zSh} {I : zFI} {L : zFL} {v1 : Int32} {v2 : Int32} {v3 : Int32} (hS : zStd S)  (k : ((v3 = 0 → Q (some (.int v2)) S I L) ∧ (¬ v3 = 0 → ZW G mX12_ones fX12_ones lX12_ones 4 [zo G 84, .int v1, .int (v2 + (1 : Int32)), .int (v3 &&& (v3 - (1 : Int32)))] [] S I L bc bs Q))) : ZW G mX12_ones fX12_ones lX12_ones 4 [zo G 84, .int v1, .int v2, .int v3] [] S I L bc bs Q := by
  refine zr_iload_n dX12_ones_4 rfl rfl ?_
  refine zr_ifeq (tgt := 21) dX12_ones_5 (by decide) (fun hb => ?_) (fun hb => ?_)
  · have k := k.1 hb
    refine zr_iload_n dX12_ones_21 rfl rfl ?_
    exact zr_ireturn dX12_ones_22 rfl rfl k
  · have k := k.2 hb
    refine zr_iload_n dX12_ones_8 rfl rfl ?_
    refine zr_iconst (v := 1) dX12_ones_9 (by decide) ?_
    refine zr_iadd dX12_ones_10 ?_
    refine zr_istore_n dX12_ones_11 rfl (Nat.le_of_ble_eq_true rfl) rfl ?_
    refine zr_iload_n dX12_ones_12 rfl rfl ?_
    refine zr_iload_n dX12_ones_13 rfl rfl ?_
    refine zr_iconst (v := 1) dX12_ones_14 (by decide) ?_
    refine zr_isub dX12_ones_15 ?_
    refine zr_iand dX12_ones_16 ?_
    refine zr_istore_n dX12_ones_17 rfl (Nat.le_of_ble_eq_true rfl) rfl ?_
    refine zr_goto (tgt := 4) dX12_ones_18 (by decide) ?_
    exact k
set_option maxHeartbeats 2000000 in
theorem vX12_hasFrame_0 {G : Gp} {bc bs : Nat} {Q : zPost} {S : zSh} {I : zFI} {L : zFL} {v1 : Int32} {v2 : Int32} (hS : zStd S)  (k : ((¬ (p_X12_isIn v1 (0 : Int32) (1 : Int32)) = 0 → ZC G mX12_findJoins fX12_findJoins lX12_findJoins [zo G 84, .int v1] S I L 0 0 (fun w S' I1 L1 => w = none ∧ S = S' ∧ ZC G mX12_findFrames fX12_findFrames lX12_findFrames [zo G 84, .int v1] S I1 L1 0 0 (fun w S' I2 L2 => w = none ∧ S = S' ∧ Q (some (.int (p_X12_isIn v2 (0 : Int32) ((I2 84 64) - (1 : Int32))))) S I2 L2))) ∧ ((p_X12_isIn v1 (0 : Int32) (1 : Int32)) = 0 → Q (some (.int (0 : Int32))) S I L))) : ZW G mX12_hasFrame fX12_hasFrame lX12_hasFrame 0 [zo G 84, .int v1, .int v2] [] S I L bc bs Q := by
  refine zr_aload_n dX12_hasFrame_0 rfl rfl ?_
  refine zr_iload_n dX12_hasFrame_1 rfl rfl ?_
  refine zr_iconst (v := 0) dX12_hasFrame_2 (by decide) ?_
  refine zr_iconst (v := 1) dX12_hasFrame_3 (by decide) ?_
  refine zr_callV (As := [.int v1, .int (0 : Int32), .int (1 : Int32)]) (fr' := fX12_isIn) (lo' := lX12_isIn) (bc' := 0) (bs' := 0) (bcr := bc) (bsr := bs) dX12_hasFrame_4 zs_X12_201 zi_X12_isIn zcl_12 (hS.has (a := 84) rfl rfl) rfl rfl (Nat.le_of_ble_eq_true rfl) (Nat.le_of_ble_eq_true rfl) (Nat.le_of_ble_eq_true rfl) (Nat.le_refl _) (Nat.le_refl _) ?_
  refine sp_X12_isIn hS  ?_
  show ZW G mX12_hasFrame fX12_hasFrame lX12_hasFrame 7 [zo G 84, .int v1, .int v2] [.int (p_X12_isIn v1 (0 : Int32) (1 : Int32))] S I L bc bs Q
  refine zr_ifne (tgt := 12) dX12_hasFrame_7 (by decide) (fun hb => ?_) (fun hb => ?_)
  · have k := k.1 hb
    refine zr_aload_n dX12_hasFrame_12 rfl rfl ?_
    refine zr_iload_n dX12_hasFrame_13 rfl rfl ?_
    refine zr_callV (As := [.int v1]) (fr' := fX12_findJoins) (lo' := lX12_findJoins) (bc' := 0) (bs' := 0) (bcr := bc) (bsr := bs) dX12_hasFrame_14 zs_X12_360 zi_X12_findJoins zcl_12 (hS.has (a := 84) rfl rfl) rfl rfl (Nat.le_of_ble_eq_true rfl) (Nat.le_of_ble_eq_true rfl) (Nat.le_of_ble_eq_true rfl) (Nat.le_refl _) (Nat.le_refl _) ?_
    refine ZC.mono (fun w S' I1 L1 k => ?_) k
    obtain ⟨rfl, rfl, k⟩ := k
    show ZW G mX12_hasFrame fX12_hasFrame lX12_hasFrame 17 [zo G 84, .int v1, .int v2] [] S I1 L1 bc bs Q
    refine zr_aload_n dX12_hasFrame_17 rfl rfl ?_
    refine zr_iload_n dX12_hasFrame_18 rfl rfl ?_
    refine zr_callV (As := [.int v1]) (fr' := fX12_findFrames) (lo' := lX12_findFrames) (bc' := 0) (bs' := 0) (bcr := bc) (bsr := bs) dX12_hasFrame_19 zs_X12_363 zi_X12_findFrames zcl_12 (hS.has (a := 84) rfl rfl) rfl rfl (Nat.le_of_ble_eq_true rfl) (Nat.le_of_ble_eq_true rfl) (Nat.le_of_ble_eq_true rfl) (Nat.le_refl _) (Nat.le_refl _) ?_
    refine ZC.mono (fun w S' I2 L2 k => ?_) k
    obtain ⟨rfl, rfl, k⟩ := k
    show ZW G mX12_hasFrame fX12_hasFrame lX12_hasFrame 22 [zo G 84, .int v1, .int v2] [] S I2 L2 bc bs Q
    refine zr_aload_n dX12_hasFrame_22 rfl rfl ?_
    refine zr_iload_n dX12_hasFrame_23 rfl rfl ?_
    refine zr_iconst (v := 0) dX12_hasFrame_24 (by decide) ?_
    refine zr_aload_n dX12_hasFrame_25 rfl rfl ?_
    refine zr_getIv (x := (I2 84 64)) dX12_hasFrame_26 zf_X12_366 rfl (hS.has (a := 84) rfl rfl) rfl ?_
    refine zr_iconst (v := 1) dX12_hasFrame_29 (by decide) ?_
    refine zr_isub dX12_hasFrame_30 ?_
    refine zr_callV (As := [.int v2, .int (0 : Int32), .int ((I2 84 64) - (1 : Int32))]) (fr' := fX12_isIn) (lo' := lX12_isIn) (bc' := 0) (bs' := 0) (bcr := bc) (bsr := bs) dX12_hasFrame_31 zs_X12_201 zi_X12_isIn zcl_12 (hS.has (a := 84) rfl rfl) rfl rfl (Nat.le_of_ble_eq_true rfl) (Nat.le_of_ble_eq_true rfl) (Nat.le_of_ble_eq_true rfl) (Nat.le_refl _) (Nat.le_refl _) ?_
    refine sp_X12_isIn hS  ?_
    show ZW G mX12_hasFrame fX12_hasFrame lX12_hasFrame 34 [zo G 84, .int v1, .int v2] [.int (p_X12_isIn v2 (0 : Int32) ((I2 84 64) - (1 : Int32)))] S I2 L2 bc bs Q
    exact zr_ireturn dX12_hasFrame_34 rfl (zb01n (pb_X12_isIn _ _ _)) k
  · have k := k.2 hb
    refine zr_iconst (v := 0) dX12_hasFrame_10 (by decide) ?_
    exact zr_ireturn dX12_hasFrame_11 rfl rfl k
set_option maxHeartbeats 2000000 in
theorem vX12_frameOf_0 {G : Gp} {bc bs : Nat} {Q : zPost} {S : zSh} {I : zFI} {L : zFL} {v1 : Int32} {v2 : Int32} (hS : zStd S)  (k : (((p_X12_isIn v1 (0 : Int32) (1 : Int32)) = 0 → Q (some (.int (-1 : Int32))) S (u2 I 84 0 (0 : Int32)) L) ∧ (¬ (p_X12_isIn v1 (0 : Int32) (1 : Int32)) = 0 → (¬ v2 < 0 → ¬ ((u2 I 84 0 (0 : Int32)) 84 3) ≤ v2 → vp_in v2 16) ∧ ((¬ (p_X12_isTimber (u2 I 84 0 (0 : Int32)) v2) = 0 → ZC G mX12_findJoins fX12_findJoins lX12_findJoins [zo G 84, .int v1] S (u2 I 84 0 (0 : Int32)) L 0 0 (fun w S' I1 L1 => w = none ∧ S = S' ∧ ZC G mX12_findFrames fX12_findFrames lX12_findFrames [zo G 84, .int v1] S I1 L1 0 0 (fun w S' I2 L2 => w = none ∧ S = S' ∧ ZW G mX12_frameOf fX12_frameOf lX12_frameOf 37 [zo G 84, .int v1, .int v2, .int (0 : Int32)] [] S I2 L2 bc bs Q))) ∧ ((p_X12_isTimber (u2 I 84 0 (0 : Int32)) v2) = 0 → Q (some (.int (-1 : Int32))) S (u2 I 84 0 (0 : Int32)) L))))) : ZW G mX12_frameOf fX12_frameOf lX12_frameOf 0 [zo G 84, .int v1, .int v2, .null] [] S I L bc bs Q := by
  refine zr_aload_n dX12_frameOf_0 rfl rfl ?_
  refine zr_iconst (v := 0) dX12_frameOf_1 (by decide) ?_
  refine zr_putI dX12_frameOf_2 zf_X12_188 rfl (hS.has (a := 84) rfl rfl) rfl rfl ?_
  refine zr_aload_n dX12_frameOf_5 rfl rfl ?_
  refine zr_iload_n dX12_frameOf_6 rfl rfl ?_
  refine zr_iconst (v := 0) dX12_frameOf_7 (by decide) ?_
  refine zr_iconst (v := 1) dX12_frameOf_8 (by decide) ?_
  refine zr_callV (As := [.int v1, .int (0 : Int32), .int (1 : Int32)]) (fr' := fX12_isIn) (lo' := lX12_isIn) (bc' := 0) (bs' := 0) (bcr := bc) (bsr := bs) dX12_frameOf_9 zs_X12_201 zi_X12_isIn zcl_12 (hS.has (a := 84) rfl rfl) rfl rfl (Nat.le_of_ble_eq_true rfl) (Nat.le_of_ble_eq_true rfl) (Nat.le_of_ble_eq_true rfl) (Nat.le_refl _) (Nat.le_refl _) ?_
  refine sp_X12_isIn hS  ?_
  show ZW G mX12_frameOf fX12_frameOf lX12_frameOf 12 [zo G 84, .int v1, .int v2, .null] [.int (p_X12_isIn v1 (0 : Int32) (1 : Int32))] S (u2 I 84 0 (0 : Int32)) L bc bs Q
  refine zr_ifeq (tgt := 23) dX12_frameOf_12 (by decide) (fun hb => ?_) (fun hb => ?_)
  · have k := k.1 hb
    refine zr_iconst (v := -1) dX12_frameOf_23 (by decide) ?_
    exact zr_ireturn dX12_frameOf_24 rfl rfl k
  · have k := k.2 hb
    refine zr_aload_n dX12_frameOf_15 rfl rfl ?_
    refine zr_iload_n dX12_frameOf_16 rfl rfl ?_
    refine zr_callV (As := [.int v2]) (fr' := fX12_isTimber) (lo' := lX12_isTimber) (bc' := 0) (bs' := 0) (bcr := bc) (bsr := bs) dX12_frameOf_17 zs_X12_289 zi_X12_isTimber zcl_12 (hS.has (a := 84) rfl rfl) rfl rfl (Nat.le_of_ble_eq_true rfl) (Nat.le_of_ble_eq_true rfl) (Nat.le_of_ble_eq_true rfl) (Nat.le_refl _) (Nat.le_refl _) ?_
    obtain ⟨hq0, k⟩ := k
    refine sp_X12_isTimber hS hq0 ?_
    show ZW G mX12_frameOf fX12_frameOf lX12_frameOf 20 [zo G 84, .int v1, .int v2, .null] [.int (p_X12_isTimber (u2 I 84 0 (0 : Int32)) v2)] S (u2 I 84 0 (0 : Int32)) L bc bs Q
    refine zr_ifne (tgt := 25) dX12_frameOf_20 (by decide) (fun hb => ?_) (fun hb => ?_)
    · have k := k.1 hb
      refine zr_aload_n dX12_frameOf_25 rfl rfl ?_
      refine zr_iload_n dX12_frameOf_26 rfl rfl ?_
      refine zr_callV (As := [.int v1]) (fr' := fX12_findJoins) (lo' := lX12_findJoins) (bc' := 0) (bs' := 0) (bcr := bc) (bsr := bs) dX12_frameOf_27 zs_X12_360 zi_X12_findJoins zcl_12 (hS.has (a := 84) rfl rfl) rfl rfl (Nat.le_of_ble_eq_true rfl) (Nat.le_of_ble_eq_true rfl) (Nat.le_of_ble_eq_true rfl) (Nat.le_refl _) (Nat.le_refl _) ?_
      refine ZC.mono (fun w S' I1 L1 k => ?_) k
      obtain ⟨rfl, rfl, k⟩ := k
      show ZW G mX12_frameOf fX12_frameOf lX12_frameOf 30 [zo G 84, .int v1, .int v2, .null] [] S I1 L1 bc bs Q
      refine zr_aload_n dX12_frameOf_30 rfl rfl ?_
      refine zr_iload_n dX12_frameOf_31 rfl rfl ?_
      refine zr_callV (As := [.int v1]) (fr' := fX12_findFrames) (lo' := lX12_findFrames) (bc' := 0) (bs' := 0) (bcr := bc) (bsr := bs) dX12_frameOf_32 zs_X12_363 zi_X12_findFrames zcl_12 (hS.has (a := 84) rfl rfl) rfl rfl (Nat.le_of_ble_eq_true rfl) (Nat.le_of_ble_eq_true rfl) (Nat.le_of_ble_eq_true rfl) (Nat.le_refl _) (Nat.le_refl _) ?_
      refine ZC.mono (fun w S' I2 L2 k => ?_) k
      obtain ⟨rfl, rfl, k⟩ := k
      show ZW G mX12_frameOf fX12_frameOf lX12_frameOf 35 [zo G 84, .int v1, .int v2, .null] [] S I2 L2 bc bs Q
      refine zr_iconst (v := 0) dX12_frameOf_35 (by decide) ?_
      refine zr_istore_n dX12_frameOf_36 rfl (Nat.le_of_ble_eq_true rfl) rfl ?_
      exact k
    · have k := k.2 hb
      refine zr_iconst (v := -1) dX12_frameOf_23 (by decide) ?_
      exact zr_ireturn dX12_frameOf_24 rfl rfl k
set_option maxHeartbeats 2000000 in
theorem vX12_frameOf_37 {G : Gp} {bc bs : Nat} {Q : zPost} {S : zSh} {I : zFI} {L : zFL} {v1 : Int32} {v2 : Int32} {v3 : Int32} (hS : zStd S)  (k : (((I 84 64) ≤ v3 → Q (some (.int (-1 : Int32))) S I L) ∧ (¬ (I 84 64) ≤ v3 → vp_in v3 16 ∧ ((¬ (((I 125 v3.toNatClampNeg) >>> (v2 &&& 31)) &&& (1 : Int32)) = (1 : Int32) → ZW G mX12_frameOf fX12_frameOf lX12_frameOf 37 [zo G 84, .int v1, .int v2, .int (v3 + 1)] [] S I L bc bs Q) ∧ ((((I 125 v3.toNatClampNeg) >>> (v2 &&& 31)) &&& (1 : Int32)) = (1 : Int32) → Q (some (.int v3)) S I L))))) : ZW G mX12_frameOf fX12_frameOf lX12_frameOf 37 [zo G 84, .int v1, .int v2, .int v3] [] S I L bc bs Q := by
  refine zr_iload_n dX12_frameOf_37 rfl rfl ?_
  refine zr_aload_n dX12_frameOf_38 rfl rfl ?_
  refine zr_getIv (x := (I 84 64)) dX12_frameOf_39 zf_X12_366 rfl (hS.has (a := 84) rfl rfl) rfl ?_
  refine zr_icge (tgt := 67) dX12_frameOf_42 (by decide) (fun hb => ?_) (fun hb => ?_)
  · have k := k.1 hb
    refine zr_iconst (v := -1) dX12_frameOf_67 (by decide) ?_
    exact zr_ireturn dX12_frameOf_68 rfl rfl k
  · have k := k.2 hb
    refine zr_aload_n dX12_frameOf_45 rfl rfl ?_
    refine zr_getR dX12_frameOf_46 zf_X12_144 rfl (hS.has (a := 84) rfl rfl) (hS.ref (a := 125) rfl) ?_
    refine zr_iload_n dX12_frameOf_49 rfl rfl ?_
    obtain ⟨hi1, k⟩ := k
    refine zr_ialdv (x := (I 125 v3.toNatClampNeg)) dX12_frameOf_50 (hS.has (a := 125) rfl rfl) hi1 rfl ?_
    refine zr_iload_n dX12_frameOf_51 rfl rfl ?_
    refine zr_ishr dX12_frameOf_52 ?_
    refine zr_iconst (v := 1) dX12_frameOf_53 (by decide) ?_
    refine zr_iand dX12_frameOf_54 ?_
    refine zr_iconst (v := 1) dX12_frameOf_55 (by decide) ?_
    refine zr_icne (tgt := 61) dX12_frameOf_56 (by decide) (fun hb => ?_) (fun hb => ?_)
    · have k := k.1 hb
      refine zr_iinc (v := (v3 + 1)) dX12_frameOf_61 rfl rfl (Nat.le_of_ble_eq_true rfl) rfl ?_
      refine zr_goto (tgt := 37) dX12_frameOf_64 (by decide) ?_
      exact k
    · have k := k.2 hb
      refine zr_iload_n dX12_frameOf_59 rfl rfl ?_
      exact zr_ireturn dX12_frameOf_60 rfl rfl k
set_option maxHeartbeats 2000000 in
theorem vX12_pairsIn_0 {G : Gp} {bc bs : Nat} {Q : zPost} {S : zSh} {I : zFI} {L : zFL} {v1 : Int32} {v2 : Int32} (hS : zStd S)  (k : ZW G mX12_pairsIn fX12_pairsIn lX12_pairsIn 5 [zo G 84, .int v1, .int v2, .int (0 : Int32), .int (0 : Int32)] [] S I L bc bs Q) : ZW G mX12_pairsIn fX12_pairsIn lX12_pairsIn 0 [zo G 84, .int v1, .int v2, .null, .null] [] S I L bc bs Q := by
  refine zr_iconst (v := 0) dX12_pairsIn_0 (by decide) ?_
  refine zr_istore_n dX12_pairsIn_1 rfl (Nat.le_of_ble_eq_true rfl) rfl ?_
  refine zr_iconst (v := 0) dX12_pairsIn_2 (by decide) ?_
  refine zr_istore dX12_pairsIn_3 (Nat.le_of_ble_eq_true rfl) rfl ?_
  exact k
set_option maxHeartbeats 2000000 in
theorem vX12_pairsIn_5 {G : Gp} {bc bs : Nat} {Q : zPost} {S : zSh} {I : zFI} {L : zFL} {v1 : Int32} {v2 : Int32} {v3 : Int32} {v4 : Int32} (hS : zStd S)  (k : (((I 84 13) ≤ v4 → Q (some (.int v3)) S I L) ∧ (¬ (I 84 13) ≤ v4 → (¬ v4 < 0 → ¬ (I 84 13) ≤ v4 → vp_in v4 48) ∧ (((p_X12_isJoint I v4) = 0 → ZW G mX12_pairsIn fX12_pairsIn lX12_pairsIn 5 [zo G 84, .int v1, .int v2, .int v3, .int (v4 + 1)] [] S I L bc bs Q) ∧ (¬ (p_X12_isJoint I v4) = 0 → vp_in v4 48 ∧ ((¬ (I 96 v4.toNatClampNeg) = 0 → ZW G mX12_pairsIn fX12_pairsIn lX12_pairsIn 5 [zo G 84, .int v1, .int v2, .int v3, .int (v4 + 1)] [] S I L bc bs Q) ∧ ((I 96 v4.toNatClampNeg) = 0 → vp_in (((48 : Int32) * v1) + v4) 96 ∧ (((I 119 (((48 : Int32) * v1) + v4).toNatClampNeg) = (-1 : Int32) → ZW G mX12_pairsIn fX12_pairsIn lX12_pairsIn 5 [zo G 84, .int v1, .int v2, .int v3, .int (v4 + 1)] [] S I L bc bs Q) ∧ (¬ (I 119 (((48 : Int32) * v1) + v4).toNatClampNeg) = (-1 : Int32) → ((¬ ((v2 >>> ((I 94 v4.toNatClampNeg) &&& 31)) &&& (1 : Int32)) = (1 : Int32) → ZW G mX12_pairsIn fX12_pairsIn lX12_pairsIn 5 [zo G 84, .int v1, .int v2, .int v3, .int (v4 + 1)] [] S I L bc bs Q) ∧ (((v2 >>> ((I 94 v4.toNatClampNeg) &&& 31)) &&& (1 : Int32)) = (1 : Int32) → ZW G mX12_pairsIn fX12_pairsIn lX12_pairsIn 5 [zo G 84, .int v1, .int v2, .int (v3 + (1 : Int32)), .int (v4 + 1)] [] S I L bc bs Q))))))))))) : ZW G mX12_pairsIn fX12_pairsIn lX12_pairsIn 5 [zo G 84, .int v1, .int v2, .int v3, .int v4] [] S I L bc bs Q := by
  refine zr_iload dX12_pairsIn_5 rfl ?_
  refine zr_aload_n dX12_pairsIn_7 rfl rfl ?_
  refine zr_getIv (x := (I 84 13)) dX12_pairsIn_8 zf_X12_198 rfl (hS.has (a := 84) rfl rfl) rfl ?_
  refine zr_icge (tgt := 74) dX12_pairsIn_11 (by decide) (fun hb => ?_) (fun hb => ?_)
  · have k := k.1 hb
    refine zr_iload_n dX12_pairsIn_74 rfl rfl ?_
    exact zr_ireturn dX12_pairsIn_75 rfl rfl k
  · have k := k.2 hb
    refine zr_aload_n dX12_pairsIn_14 rfl rfl ?_
    refine zr_iload dX12_pairsIn_15 rfl ?_
    refine zr_callV (As := [.int v4]) (fr' := fX12_isJoint) (lo' := lX12_isJoint) (bc' := 0) (bs' := 0) (bcr := bc) (bsr := bs) dX12_pairsIn_17 zs_X12_286 zi_X12_isJoint zcl_12 (hS.has (a := 84) rfl rfl) rfl rfl (Nat.le_of_ble_eq_true rfl) (Nat.le_of_ble_eq_true rfl) (Nat.le_of_ble_eq_true rfl) (Nat.le_refl _) (Nat.le_refl _) ?_
    obtain ⟨hq0, k⟩ := k
    refine sp_X12_isJoint hS hq0 ?_
    show ZW G mX12_pairsIn fX12_pairsIn lX12_pairsIn 20 [zo G 84, .int v1, .int v2, .int v3, .int v4] [.int (p_X12_isJoint I v4)] S I L bc bs Q
    refine zr_ifeq (tgt := 68) dX12_pairsIn_20 (by decide) (fun hb => ?_) (fun hb => ?_)
    · have k := k.1 hb
      refine zr_iinc (v := (v4 + 1)) dX12_pairsIn_68 rfl rfl (Nat.le_of_ble_eq_true rfl) rfl ?_
      refine zr_goto (tgt := 5) dX12_pairsIn_71 (by decide) ?_
      exact k
    · have k := k.2 hb
      refine zr_aload_n dX12_pairsIn_23 rfl rfl ?_
      refine zr_getR dX12_pairsIn_24 zf_X12_48 rfl (hS.has (a := 84) rfl rfl) (hS.ref (a := 96) rfl) ?_
      refine zr_iload dX12_pairsIn_27 rfl ?_
      obtain ⟨hi1, k⟩ := k
      refine zr_ialdv (x := (I 96 v4.toNatClampNeg)) dX12_pairsIn_29 (hS.has (a := 96) rfl rfl) hi1 rfl ?_
      refine zr_ifne (tgt := 68) dX12_pairsIn_30 (by decide) (fun hb => ?_) (fun hb => ?_)
      · have k := k.1 hb
        refine zr_iinc (v := (v4 + 1)) dX12_pairsIn_68 rfl rfl (Nat.le_of_ble_eq_true rfl) rfl ?_
        refine zr_goto (tgt := 5) dX12_pairsIn_71 (by decide) ?_
        exact k
      · have k := k.2 hb
        refine zr_aload_n dX12_pairsIn_33 rfl rfl ?_
        refine zr_getR dX12_pairsIn_34 zf_X12_126 rfl (hS.has (a := 84) rfl rfl) (hS.ref (a := 119) rfl) ?_
        refine zr_bipush (v := 48) dX12_pairsIn_37 (by decide) ?_
        refine zr_iload_n dX12_pairsIn_39 rfl rfl ?_
        refine zr_imul dX12_pairsIn_40 ?_
        refine zr_iload dX12_pairsIn_41 rfl ?_
        refine zr_iadd dX12_pairsIn_43 ?_
        obtain ⟨hi2, k⟩ := k
        refine zr_ialdv (x := (I 119 (((48 : Int32) * v1) + v4).toNatClampNeg)) dX12_pairsIn_44 (hS.has (a := 119) rfl rfl) hi2 rfl ?_
        refine zr_iconst (v := -1) dX12_pairsIn_45 (by decide) ?_
        refine zr_iceq (tgt := 68) dX12_pairsIn_46 (by decide) (fun hb => ?_) (fun hb => ?_)
        · have k := k.1 hb
          refine zr_iinc (v := (v4 + 1)) dX12_pairsIn_68 rfl rfl (Nat.le_of_ble_eq_true rfl) rfl ?_
          refine zr_goto (tgt := 5) dX12_pairsIn_71 (by decide) ?_
          exact k
        · have k := k.2 hb
          refine zr_iload_n dX12_pairsIn_49 rfl rfl ?_
          refine zr_aload_n dX12_pairsIn_50 rfl rfl ?_
          refine zr_getR dX12_pairsIn_51 zf_X12_42 rfl (hS.has (a := 84) rfl rfl) (hS.ref (a := 94) rfl) ?_
          refine zr_iload dX12_pairsIn_54 rfl ?_
          refine zr_ialdv (x := (I 94 v4.toNatClampNeg)) dX12_pairsIn_56 (hS.has (a := 94) rfl rfl) hi1 rfl ?_
          refine zr_ishr dX12_pairsIn_57 ?_
          refine zr_iconst (v := 1) dX12_pairsIn_58 (by decide) ?_
          refine zr_iand dX12_pairsIn_59 ?_
          refine zr_iconst (v := 1) dX12_pairsIn_60 (by decide) ?_
          refine zr_icne (tgt := 68) dX12_pairsIn_61 (by decide) (fun hb => ?_) (fun hb => ?_)
          · have k := k.1 hb
            refine zr_iinc (v := (v4 + 1)) dX12_pairsIn_68 rfl rfl (Nat.le_of_ble_eq_true rfl) rfl ?_
            refine zr_goto (tgt := 5) dX12_pairsIn_71 (by decide) ?_
            exact k
          · have k := k.2 hb
            refine zr_iload_n dX12_pairsIn_64 rfl rfl ?_
            refine zr_iconst (v := 1) dX12_pairsIn_65 (by decide) ?_
            refine zr_iadd dX12_pairsIn_66 ?_
            refine zr_istore_n dX12_pairsIn_67 rfl (Nat.le_of_ble_eq_true rfl) rfl ?_
            refine zr_iinc (v := (v4 + 1)) dX12_pairsIn_68 rfl rfl (Nat.le_of_ble_eq_true rfl) rfl ?_
            refine zr_goto (tgt := 5) dX12_pairsIn_71 (by decide) ?_
            exact k
set_option maxHeartbeats 2000000 in
theorem vX12_props_0 {G : Gp} {bc bs : Nat} {Q : zPost} {S : zSh} {I : zFI} {L : zFL} {v1 : Int32} {v2 : Int32} (hS : zStd S)  (k : ZW G mX12_props fX12_props lX12_props 5 [zo G 84, .int v1, .int v2, .int (0 : Int32), .int (0 : Int32), .null] [] S I L bc bs Q) : ZW G mX12_props fX12_props lX12_props 0 [zo G 84, .int v1, .int v2, .null, .null, .null] [] S I L bc bs Q := by
  refine zr_iconst (v := 0) dX12_props_0 (by decide) ?_
  refine zr_istore_n dX12_props_1 rfl (Nat.le_of_ble_eq_true rfl) rfl ?_
  refine zr_iconst (v := 0) dX12_props_2 (by decide) ?_
  refine zr_istore dX12_props_3 (Nat.le_of_ble_eq_true rfl) rfl ?_
  exact k
set_option maxHeartbeats 2000000 in
theorem vX12_props_5 {G : Gp} {bc bs : Nat} {Q : zPost} {S : zSh} {I : zFI} {L : zFL} {v1 : Int32} {v2 : Int32} {v3 : Int32} {v4 : Int32} (hS : zStd S)  (k : (((I 84 66) ≤ v4 → Q (some (.int v3)) S I L) ∧ (¬ (I 84 66) ≤ v4 → ((¬ ((v2 >>> (v4 &&& 31)) &&& (1 : Int32)) = 0 → vp_in v4 16 ∧ ZC G mX12_ones fX12_ones lX12_ones [zo G 84, .int ((I 127 v4.toNatClampNeg) &&& v2)] S I L 0 0 (fun w S' I1 L1 => ∃ r1 : Int32, w = some (.int r1) ∧ S = S' ∧ ((v1 ≤ r1 → ZW G mX12_props fX12_props lX12_props 5 [zo G 84, .int v1, .int v2, .int v3, .int (v4 + 1), .null] [] S I1 L1 bc bs Q) ∧ (¬ v1 ≤ r1 → ZC G mX12_ones fX12_ones lX12_ones [zo G 84, .int (I1 127 v4.toNatClampNeg)] S I1 L1 0 0 (fun w S' I2 L2 => ∃ r2 : Int32, w = some (.int r2) ∧ S = S' ∧ ((r2 ≤ r1 → ZW G mX12_props fX12_props lX12_props 5 [zo G 84, .int v1, .int v2, .int v3, .int (v4 + 1), .null] [] S I2 L2 bc bs Q) ∧ (¬ r2 ≤ r1 → ZW G mX12_props fX12_props lX12_props 5 [zo G 84, .int v1, .int v2, .int (v3 + (1 : Int32)), .int (v4 + 1), .null] [] S I2 L2 bc bs Q))))))) ∧ (((v2 >>> (v4 &&& 31)) &&& (1 : Int32)) = 0 → ZW G mX12_props fX12_props lX12_props 5 [zo G 84, .int v1, .int v2, .int v3, .int (v4 + 1), .null] [] S I L bc bs Q))))) : ZW G mX12_props fX12_props lX12_props 5 [zo G 84, .int v1, .int v2, .int v3, .int v4, .null] [] S I L bc bs Q := by
  refine zr_iload dX12_props_5 rfl ?_
  refine zr_aload_n dX12_props_7 rfl rfl ?_
  refine zr_getIv (x := (I 84 66)) dX12_props_8 zf_X12_369 rfl (hS.has (a := 84) rfl rfl) rfl ?_
  refine zr_icge (tgt := 73) dX12_props_11 (by decide) (fun hb => ?_) (fun hb => ?_)
  · have k := k.1 hb
    refine zr_iload_n dX12_props_73 rfl rfl ?_
    exact zr_ireturn dX12_props_74 rfl rfl k
  · have k := k.2 hb
    refine zr_iload_n dX12_props_14 rfl rfl ?_
    refine zr_iload dX12_props_15 rfl ?_
    refine zr_ishr dX12_props_17 ?_
    refine zr_iconst (v := 1) dX12_props_18 (by decide) ?_
    refine zr_iand dX12_props_19 ?_
    refine zr_ifne (tgt := 26) dX12_props_20 (by decide) (fun hb => ?_) (fun hb => ?_)
    · have k := k.1 hb
      refine zr_aload_n dX12_props_26 rfl rfl ?_
      refine zr_aload_n dX12_props_27 rfl rfl ?_
      refine zr_getR dX12_props_28 zf_X12_150 rfl (hS.has (a := 84) rfl rfl) (hS.ref (a := 127) rfl) ?_
      refine zr_iload dX12_props_31 rfl ?_
      obtain ⟨hi1, k⟩ := k
      refine zr_ialdv (x := (I 127 v4.toNatClampNeg)) dX12_props_33 (hS.has (a := 127) rfl rfl) hi1 rfl ?_
      refine zr_iload_n dX12_props_34 rfl rfl ?_
      refine zr_iand dX12_props_35 ?_
      refine zr_callV (As := [.int ((I 127 v4.toNatClampNeg) &&& v2)]) (fr' := fX12_ones) (lo' := lX12_ones) (bc' := 0) (bs' := 0) (bcr := bc) (bsr := bs) dX12_props_36 zs_X12_372 zi_X12_ones zcl_12 (hS.has (a := 84) rfl rfl) rfl rfl (Nat.le_of_ble_eq_true rfl) (Nat.le_of_ble_eq_true rfl) (Nat.le_of_ble_eq_true rfl) (Nat.le_refl _) (Nat.le_refl _) ?_
      refine ZC.mono (fun w S' I1 L1 k => ?_) k
      obtain ⟨r1, rfl, rfl, k⟩ := k
      show ZW G mX12_props fX12_props lX12_props 39 [zo G 84, .int v1, .int v2, .int v3, .int v4, .null] [.int r1] S I1 L1 bc bs Q
      refine zr_istore dX12_props_39 (Nat.le_of_ble_eq_true rfl) rfl ?_
      refine zr_iload dX12_props_41 rfl ?_
      refine zr_iload_n dX12_props_43 rfl rfl ?_
      refine zr_icge (tgt := 67) dX12_props_44 (by decide) (fun hb => ?_) (fun hb => ?_)
      · have k := k.1 hb
        refine zr_iinc (v := (v4 + 1)) dX12_props_67 rfl rfl (Nat.le_of_ble_eq_true rfl) rfl ?_
        refine zr_goto (tgt := 5) dX12_props_70 (by decide) ?_
        exact zr_mask [true, true, true, true, true, false] rfl k
      · have k := k.2 hb
        refine zr_iload dX12_props_47 rfl ?_
        refine zr_aload_n dX12_props_49 rfl rfl ?_
        refine zr_aload_n dX12_props_50 rfl rfl ?_
        refine zr_getR dX12_props_51 zf_X12_150 rfl (hS.has (a := 84) rfl rfl) (hS.ref (a := 127) rfl) ?_
        refine zr_iload dX12_props_54 rfl ?_
        refine zr_ialdv (x := (I1 127 v4.toNatClampNeg)) dX12_props_56 (hS.has (a := 127) rfl rfl) hi1 rfl ?_
        refine zr_callV (As := [.int (I1 127 v4.toNatClampNeg)]) (fr' := fX12_ones) (lo' := lX12_ones) (bc' := 0) (bs' := 0) (bcr := bc) (bsr := bs) dX12_props_57 zs_X12_372 zi_X12_ones zcl_12 (hS.has (a := 84) rfl rfl) rfl rfl (Nat.le_of_ble_eq_true rfl) (Nat.le_of_ble_eq_true rfl) (Nat.le_of_ble_eq_true rfl) (Nat.le_refl _) (Nat.le_refl _) ?_
        refine ZC.mono (fun w S' I2 L2 k => ?_) k
        obtain ⟨r2, rfl, rfl, k⟩ := k
        show ZW G mX12_props fX12_props lX12_props 60 [zo G 84, .int v1, .int v2, .int v3, .int v4, .int r1] [.int r2, .int r1] S I2 L2 bc bs Q
        refine zr_icge (tgt := 67) dX12_props_60 (by decide) (fun hb => ?_) (fun hb => ?_)
        · have k := k.1 hb
          refine zr_iinc (v := (v4 + 1)) dX12_props_67 rfl rfl (Nat.le_of_ble_eq_true rfl) rfl ?_
          refine zr_goto (tgt := 5) dX12_props_70 (by decide) ?_
          exact zr_mask [true, true, true, true, true, false] rfl k
        · have k := k.2 hb
          refine zr_iload_n dX12_props_63 rfl rfl ?_
          refine zr_iconst (v := 1) dX12_props_64 (by decide) ?_
          refine zr_iadd dX12_props_65 ?_
          refine zr_istore_n dX12_props_66 rfl (Nat.le_of_ble_eq_true rfl) rfl ?_
          refine zr_iinc (v := (v4 + 1)) dX12_props_67 rfl rfl (Nat.le_of_ble_eq_true rfl) rfl ?_
          refine zr_goto (tgt := 5) dX12_props_70 (by decide) ?_
          exact zr_mask [true, true, true, true, true, false] rfl k
    · have k := k.2 hb
      refine zr_goto (tgt := 67) dX12_props_23 (by decide) ?_
      refine zr_iinc (v := (v4 + 1)) dX12_props_67 rfl rfl (Nat.le_of_ble_eq_true rfl) rfl ?_
      refine zr_goto (tgt := 5) dX12_props_70 (by decide) ?_
      exact k
set_option maxHeartbeats 2000000 in
theorem vX12_canCome_0 {G : Gp} {bc bs : Nat} {Q : zPost} {S : zSh} {I : zFI} {L : zFL} {v1 : Int32} {v2 : Int32} (hS : zStd S)  (k : ((¬ ((v2 >>> (v1 &&& 31)) &&& (1 : Int32)) = 0 → Q (some (.int (0 : Int32))) S I L) ∧ (((v2 >>> (v1 &&& 31)) &&& (1 : Int32)) = 0 → vp_in v1 16 ∧ ((¬ ((I 128 v1.toNatClampNeg) &&& (v2 ^^^ (-1 : Int32))) = 0 → Q (some (.int (0 : Int32))) S I L) ∧ (((I 128 v1.toNatClampNeg) &&& (v2 ^^^ (-1 : Int32))) = 0 → Q (some (.int (1 : Int32))) S I L))))) : ZW G mX12_canCome fX12_canCome lX12_canCome 0 [zo G 84, .int v1, .int v2] [] S I L bc bs Q := by
  refine zr_iload_n dX12_canCome_0 rfl rfl ?_
  refine zr_iload_n dX12_canCome_1 rfl rfl ?_
  refine zr_ishr dX12_canCome_2 ?_
  refine zr_iconst (v := 1) dX12_canCome_3 (by decide) ?_
  refine zr_iand dX12_canCome_4 ?_
  refine zr_ifne (tgt := 25) dX12_canCome_5 (by decide) (fun hb => ?_) (fun hb => ?_)
  · have k := k.1 hb
    refine zr_iconst (v := 0) dX12_canCome_25 (by decide) ?_
    exact zr_ireturn dX12_canCome_26 rfl rfl k
  · have k := k.2 hb
    refine zr_aload_n dX12_canCome_8 rfl rfl ?_
    refine zr_getR dX12_canCome_9 zf_X12_153 rfl (hS.has (a := 84) rfl rfl) (hS.ref (a := 128) rfl) ?_
    refine zr_iload_n dX12_canCome_12 rfl rfl ?_
    obtain ⟨hi1, k⟩ := k
    refine zr_ialdv (x := (I 128 v1.toNatClampNeg)) dX12_canCome_13 (hS.has (a := 128) rfl rfl) hi1 rfl ?_
    refine zr_iload_n dX12_canCome_14 rfl rfl ?_
    refine zr_iconst (v := -1) dX12_canCome_15 (by decide) ?_
    refine zr_ixor dX12_canCome_16 ?_
    refine zr_iand dX12_canCome_17 ?_
    refine zr_ifne (tgt := 25) dX12_canCome_18 (by decide) (fun hb => ?_) (fun hb => ?_)
    · have k := k.1 hb
      refine zr_iconst (v := 0) dX12_canCome_25 (by decide) ?_
      exact zr_ireturn dX12_canCome_26 rfl rfl k
    · have k := k.2 hb
      refine zr_iconst (v := 1) dX12_canCome_21 (by decide) ?_
      refine zr_goto (tgt := 26) dX12_canCome_22 (by decide) ?_
      exact zr_ireturn dX12_canCome_26 rfl rfl k
def p_X12_canCome (I : zFI) (v1 : Int32) (v2 : Int32) : Int32 := (if ((v2 >>> (v1 &&& 31)) &&& (1 : Int32)) = 0 then (if ((I 128 v1.toNatClampNeg) &&& (v2 ^^^ (-1 : Int32))) = 0 then (1 : Int32) else (0 : Int32)) else (0 : Int32))
set_option maxHeartbeats 2000000 in
theorem sp_X12_canCome {G : Gp} {Q : zPost} {S : zSh} {I : zFI} {L : zFL} {v1 : Int32} {v2 : Int32} (hS : zStd S)  (hv0 : ((v2 >>> (v1 &&& 31)) &&& (1 : Int32)) = 0 → vp_in v1 16) (h : Q (some (.int (p_X12_canCome I v1 v2))) S I L) : ZC G mX12_canCome fX12_canCome lX12_canCome [zo G 84, .int v1, .int v2] S I L 0 0 Q := by
  refine ZC.of' (vX12_canCome_0 hS  ?_) rfl (Nat.le_of_ble_eq_true rfl) rfl
  unfold p_X12_canCome at h
  refine ⟨fun hb1 => ?_, fun hb1 => ?_⟩
  · rw [if_neg hb1] at h
    exact h
  · rw [if_pos hb1] at h
    refine ⟨hv0 hb1, ?_⟩
    refine ⟨fun hb2 => ?_, fun hb2 => ?_⟩
    · rw [if_neg hb2] at h
      exact h
    · rw [if_pos hb2] at h
      exact h
theorem pb_X12_canCome (I : zFI) (v1 : Int32) (v2 : Int32) : p_X12_canCome I v1 v2 = 0 ∨ p_X12_canCome I v1 v2 = 1 := by
  unfold p_X12_canCome
  repeat' split
  all_goals first | exact Or.inl rfl | exact Or.inr rfl | assumption
set_option maxHeartbeats 2000000 in
theorem vX12_findRaisings_0 {G : Gp} {bc bs : Nat} {Q : zPost} {S : zSh} {I : zFI} {L : zFL} {v1 : Int32} {v2 : Int32} (hS : zStd S)  (k : ZW G mX12_findRaisings fX12_findRaisings lX12_findRaisings 7 [zo G 84, .int v1, .int v2, .int (0 : Int32), .null, .null, .null, .null] [] S (u2 I 84 66 (0 : Int32)) L bc bs Q) : ZW G mX12_findRaisings fX12_findRaisings lX12_findRaisings 0 [zo G 84, .int v1, .int v2, .null, .null, .null, .null, .null] [] S I L bc bs Q := by
  refine zr_aload_n dX12_findRaisings_0 rfl rfl ?_
  refine zr_iconst (v := 0) dX12_findRaisings_1 (by decide) ?_
  refine zr_putI dX12_findRaisings_2 zf_X12_369 rfl (hS.has (a := 84) rfl rfl) rfl rfl ?_
  refine zr_iconst (v := 0) dX12_findRaisings_5 (by decide) ?_
  refine zr_istore_n dX12_findRaisings_6 rfl (Nat.le_of_ble_eq_true rfl) rfl ?_
  exact k
set_option maxHeartbeats 2000000 in
theorem vX12_findRaisings_7 {G : Gp} {bc bs : Nat} {Q : zPost} {S : zSh} {I : zFI} {L : zFL} {v1 : Int32} {v2 : Int32} {v3 : Int32} (hS : zStd S)  (k : (((I 84 3) ≤ v3 → ZW G mX12_findRaisings fX12_findRaisings lX12_findRaisings 54 [zo G 84, .int v1, .int v2, .int (0 : Int32), .null, .null, .null, .null] [] S I L bc bs Q) ∧ (¬ (I 84 3) ≤ v3 → ((¬ ((v2 >>> (v3 &&& 31)) &&& (1 : Int32)) = 0 → vp_in (I 84 66) 16 ∧ ZW G mX12_findRaisings fX12_findRaisings lX12_findRaisings 7 [zo G 84, .int v1, .int v2, .int (v3 + 1), .null, .null, .null, .null] [] S (u2 (u2 I 126 (I 84 66).toNatClampNeg v3) 84 66 ((I 84 66) + (1 : Int32))) L bc bs Q) ∧ (((v2 >>> (v3 &&& 31)) &&& (1 : Int32)) = 0 → ZW G mX12_findRaisings fX12_findRaisings lX12_findRaisings 7 [zo G 84, .int v1, .int v2, .int (v3 + 1), .null, .null, .null, .null] [] S I L bc bs Q))))) : ZW G mX12_findRaisings fX12_findRaisings lX12_findRaisings 7 [zo G 84, .int v1, .int v2, .int v3, .null, .null, .null, .null] [] S I L bc bs Q := by
  refine zr_iload_n dX12_findRaisings_7 rfl rfl ?_
  refine zr_aload_n dX12_findRaisings_8 rfl rfl ?_
  refine zr_getIv (x := (I 84 3)) dX12_findRaisings_9 zf_X12_191 rfl (hS.has (a := 84) rfl rfl) rfl ?_
  refine zr_icge (tgt := 52) dX12_findRaisings_12 (by decide) (fun hb => ?_) (fun hb => ?_)
  · have k := k.1 hb
    refine zr_iconst (v := 0) dX12_findRaisings_52 (by decide) ?_
    refine zr_istore_n dX12_findRaisings_53 rfl (Nat.le_of_ble_eq_true rfl) rfl ?_
    exact k
  · have k := k.2 hb
    refine zr_iload_n dX12_findRaisings_15 rfl rfl ?_
    refine zr_iload_n dX12_findRaisings_16 rfl rfl ?_
    refine zr_ishr dX12_findRaisings_17 ?_
    refine zr_iconst (v := 1) dX12_findRaisings_18 (by decide) ?_
    refine zr_iand dX12_findRaisings_19 ?_
    refine zr_ifne (tgt := 26) dX12_findRaisings_20 (by decide) (fun hb => ?_) (fun hb => ?_)
    · have k := k.1 hb
      refine zr_aload_n dX12_findRaisings_26 rfl rfl ?_
      refine zr_getR dX12_findRaisings_27 zf_X12_147 rfl (hS.has (a := 84) rfl rfl) (hS.ref (a := 126) rfl) ?_
      refine zr_aload_n dX12_findRaisings_30 rfl rfl ?_
      refine zr_getIv (x := (I 84 66)) dX12_findRaisings_31 zf_X12_369 rfl (hS.has (a := 84) rfl rfl) rfl ?_
      refine zr_iload_n dX12_findRaisings_34 rfl rfl ?_
      obtain ⟨hi1, k⟩ := k
      refine zr_iast dX12_findRaisings_35 (hS.has (a := 126) rfl rfl) hi1 ?_
      refine zr_aload_n dX12_findRaisings_36 rfl rfl ?_
      refine zr_aload_n dX12_findRaisings_37 rfl rfl ?_
      refine zr_getIv (x := (I 84 66)) dX12_findRaisings_38 zf_X12_369 rfl (hS.has (a := 84) rfl rfl) rfl ?_
      refine zr_iconst (v := 1) dX12_findRaisings_41 (by decide) ?_
      refine zr_iadd dX12_findRaisings_42 ?_
      refine zr_putI dX12_findRaisings_43 zf_X12_369 rfl (hS.has (a := 84) rfl rfl) rfl rfl ?_
      refine zr_iinc (v := (v3 + 1)) dX12_findRaisings_46 rfl rfl (Nat.le_of_ble_eq_true rfl) rfl ?_
      refine zr_goto (tgt := 7) dX12_findRaisings_49 (by decide) ?_
      exact k
    · have k := k.2 hb
      refine zr_goto (tgt := 46) dX12_findRaisings_23 (by decide) ?_
      refine zr_iinc (v := (v3 + 1)) dX12_findRaisings_46 rfl rfl (Nat.le_of_ble_eq_true rfl) rfl ?_
      refine zr_goto (tgt := 7) dX12_findRaisings_49 (by decide) ?_
      exact k
set_option maxHeartbeats 2000000 in
theorem vX12_findRaisings_54 {G : Gp} {bc bs : Nat} {Q : zPost} {S : zSh} {I : zFI} {L : zFL} {v1 : Int32} {v2 : Int32} {v3 : Int32} (hS : zStd S)  (k : (((I 84 66) ≤ v3 → vp_in (((50 : Int32) * v1) + (3 : Int32)) 150 ∧ vp_in (((1 : Int32) <<< ((I 84 66) &&& 31)) - (1 : Int32)) 65536 ∧ ZW G mX12_findRaisings fX12_findRaisings lX12_findRaisings 226 [zo G 84, .int v1, .int v2, .int (((1 : Int32) <<< ((I 84 66) &&& 31)) - (1 : Int32)), .int (I 105 (((50 : Int32) * v1) + (3 : Int32)).toNatClampNeg), .int ((((1 : Int32) <<< ((I 84 66) &&& 31)) - (1 : Int32)) - (1 : Int32)), .null, .null] [] S (u2 I 129 (((1 : Int32) <<< ((I 84 66) &&& 31)) - (1 : Int32)).toNatClampNeg (0 : Int32)) L bc bs Q) ∧ (¬ (I 84 66) ≤ v3 → vp_in v3 16 ∧ ZW G mX12_findRaisings fX12_findRaisings lX12_findRaisings 79 [zo G 84, .int v1, .int v2, .int v3, .int (0 : Int32), .null, .null, .null] [] S (u2 (u2 I 127 v3.toNatClampNeg (0 : Int32)) 128 v3.toNatClampNeg (0 : Int32)) L bc bs Q))) : ZW G mX12_findRaisings fX12_findRaisings lX12_findRaisings 54 [zo G 84, .int v1, .int v2, .int v3, .null, .null, .null, .null] [] S I L bc bs Q := by
  refine zr_iload_n dX12_findRaisings_54 rfl rfl ?_
  refine zr_aload_n dX12_findRaisings_55 rfl rfl ?_
  refine zr_getIv (x := (I 84 66)) dX12_findRaisings_56 zf_X12_369 rfl (hS.has (a := 84) rfl rfl) rfl ?_
  refine zr_icge (tgt := 192) dX12_findRaisings_59 (by decide) (fun hb => ?_) (fun hb => ?_)
  · have k := k.1 hb
    refine zr_iconst (v := 1) dX12_findRaisings_192 (by decide) ?_
    refine zr_aload_n dX12_findRaisings_193 rfl rfl ?_
    refine zr_getIv (x := (I 84 66)) dX12_findRaisings_194 zf_X12_369 rfl (hS.has (a := 84) rfl rfl) rfl ?_
    refine zr_ishl dX12_findRaisings_197 ?_
    refine zr_iconst (v := 1) dX12_findRaisings_198 (by decide) ?_
    refine zr_isub dX12_findRaisings_199 ?_
    refine zr_istore_n dX12_findRaisings_200 rfl (Nat.le_of_ble_eq_true rfl) rfl ?_
    refine zr_aload_n dX12_findRaisings_201 rfl rfl ?_
    refine zr_getR dX12_findRaisings_202 zf_X12_75 rfl (hS.has (a := 84) rfl rfl) (hS.ref (a := 105) rfl) ?_
    refine zr_bipush (v := 50) dX12_findRaisings_205 (by decide) ?_
    refine zr_iload_n dX12_findRaisings_207 rfl rfl ?_
    refine zr_imul dX12_findRaisings_208 ?_
    refine zr_iconst (v := 3) dX12_findRaisings_209 (by decide) ?_
    refine zr_iadd dX12_findRaisings_210 ?_
    obtain ⟨hi2, k⟩ := k
    refine zr_ialdv (x := (I 105 (((50 : Int32) * v1) + (3 : Int32)).toNatClampNeg)) dX12_findRaisings_211 (hS.has (a := 105) rfl rfl) hi2 rfl ?_
    refine zr_istore dX12_findRaisings_212 (Nat.le_of_ble_eq_true rfl) rfl ?_
    refine zr_aload_n dX12_findRaisings_214 rfl rfl ?_
    refine zr_getR dX12_findRaisings_215 zf_X12_157 rfl (hS.has (a := 84) rfl rfl) (hS.ref (a := 129) rfl) ?_
    refine zr_iload_n dX12_findRaisings_218 rfl rfl ?_
    refine zr_iconst (v := 0) dX12_findRaisings_219 (by decide) ?_
    obtain ⟨hi3, k⟩ := k
    refine zr_iast dX12_findRaisings_220 (hS.has (a := 129) rfl rfl) hi3 ?_
    refine zr_iload_n dX12_findRaisings_221 rfl rfl ?_
    refine zr_iconst (v := 1) dX12_findRaisings_222 (by decide) ?_
    refine zr_isub dX12_findRaisings_223 ?_
    refine zr_istore dX12_findRaisings_224 (Nat.le_of_ble_eq_true rfl) rfl ?_
    exact k
  · have k := k.2 hb
    refine zr_aload_n dX12_findRaisings_62 rfl rfl ?_
    refine zr_getR dX12_findRaisings_63 zf_X12_150 rfl (hS.has (a := 84) rfl rfl) (hS.ref (a := 127) rfl) ?_
    refine zr_iload_n dX12_findRaisings_66 rfl rfl ?_
    refine zr_iconst (v := 0) dX12_findRaisings_67 (by decide) ?_
    obtain ⟨hi4, k⟩ := k
    refine zr_iast dX12_findRaisings_68 (hS.has (a := 127) rfl rfl) hi4 ?_
    refine zr_aload_n dX12_findRaisings_69 rfl rfl ?_
    refine zr_getR dX12_findRaisings_70 zf_X12_153 rfl (hS.has (a := 84) rfl rfl) (hS.ref (a := 128) rfl) ?_
    refine zr_iload_n dX12_findRaisings_73 rfl rfl ?_
    refine zr_iconst (v := 0) dX12_findRaisings_74 (by decide) ?_
    refine zr_iast dX12_findRaisings_75 (hS.has (a := 128) rfl rfl) hi4 ?_
    refine zr_iconst (v := 0) dX12_findRaisings_76 (by decide) ?_
    refine zr_istore dX12_findRaisings_77 (Nat.le_of_ble_eq_true rfl) rfl ?_
    exact k
set_option maxHeartbeats 2000000 in
theorem vX12_findRaisings_79 {G : Gp} {bc bs : Nat} {Q : zPost} {S : zSh} {I : zFI} {L : zFL} {v1 : Int32} {v2 : Int32} {v3 : Int32} {v4 : Int32} (hS : zStd S)  (k : (((I 84 66) ≤ v4 → ZW G mX12_findRaisings fX12_findRaisings lX12_findRaisings 54 [zo G 84, .int v1, .int v2, .int (v3 + 1), .null, .null, .null, .null] [] S I L bc bs Q) ∧ (¬ (I 84 66) ≤ v4 → vp_in v3 16 ∧ vp_in (I 126 v3.toNatClampNeg) 16 ∧ vp_in v4 16 ∧ ((¬ (((I 124 (I 126 v3.toNatClampNeg).toNatClampNeg) >>> ((I 126 v4.toNatClampNeg) &&& 31)) &&& (1 : Int32)) = 0 → vp_in (I 126 v4.toNatClampNeg) 16 ∧ (vp_in (((((50 : Int32) * v1) + (30 : Int32)) + ((4 : Int32) * (I 85 (I 126 v4.toNatClampNeg).toNatClampNeg))) + (I 85 (I 126 v3.toNatClampNeg).toNatClampNeg)) 150) ∧ (((u2 I 127 v3.toNatClampNeg ((I 127 v3.toNatClampNeg) ||| ((1 : Int32) <<< (v4 &&& 31)))) 105 (((((50 : Int32) * v1) + (30 : Int32)) + ((4 : Int32) * (I 85 (I 126 v4.toNatClampNeg).toNatClampNeg))) + (I 85 (I 126 v3.toNatClampNeg).toNatClampNeg)).toNatClampNeg) = (1 : Int32) → vp_in (((((50 : Int32) * v1) + (30 : Int32)) + ((4 : Int32) * (I 85 (I 126 v3.toNatClampNeg).toNatClampNeg))) + (I 85 (I 126 v4.toNatClampNeg).toNatClampNeg)) 150) ∧ (((p_X12_isAhead (u2 I 127 v3.toNatClampNeg ((I 127 v3.toNatClampNeg) ||| ((1 : Int32) <<< (v4 &&& 31)))) v1 (I 85 (I 126 v4.toNatClampNeg).toNatClampNeg) (I 85 (I 126 v3.toNatClampNeg).toNatClampNeg)) = 0 → ZW G mX12_findRaisings fX12_findRaisings lX12_findRaisings 79 [zo G 84, .int v1, .int v2, .int v3, .int (v4 + 1), .null, .null, .null] [] S (u2 I 127 v3.toNatClampNeg ((I 127 v3.toNatClampNeg) ||| ((1 : Int32) <<< (v4 &&& 31)))) L bc bs Q) ∧ (¬ (p_X12_isAhead (u2 I 127 v3.toNatClampNeg ((I 127 v3.toNatClampNeg) ||| ((1 : Int32) <<< (v4 &&& 31)))) v1 (I 85 (I 126 v4.toNatClampNeg).toNatClampNeg) (I 85 (I 126 v3.toNatClampNeg).toNatClampNeg)) = 0 → ZW G mX12_findRaisings fX12_findRaisings lX12_findRaisings 79 [zo G 84, .int v1, .int v2, .int v3, .int (v4 + 1), .null, .null, .null] [] S (u2 (u2 I 127 v3.toNatClampNeg ((I 127 v3.toNatClampNeg) ||| ((1 : Int32) <<< (v4 &&& 31)))) 128 v3.toNatClampNeg ((I 128 v3.toNatClampNeg) ||| ((1 : Int32) <<< (v4 &&& 31)))) L bc bs Q))) ∧ ((((I 124 (I 126 v3.toNatClampNeg).toNatClampNeg) >>> ((I 126 v4.toNatClampNeg) &&& 31)) &&& (1 : Int32)) = 0 → ZW G mX12_findRaisings fX12_findRaisings lX12_findRaisings 79 [zo G 84, .int v1, .int v2, .int v3, .int (v4 + 1), .null, .null, .null] [] S I L bc bs Q))))) : ZW G mX12_findRaisings fX12_findRaisings lX12_findRaisings 79 [zo G 84, .int v1, .int v2, .int v3, .int v4, .null, .null, .null] [] S I L bc bs Q := by
  refine zr_iload dX12_findRaisings_79 rfl ?_
  refine zr_aload_n dX12_findRaisings_81 rfl rfl ?_
  refine zr_getIv (x := (I 84 66)) dX12_findRaisings_82 zf_X12_369 rfl (hS.has (a := 84) rfl rfl) rfl ?_
  refine zr_icge (tgt := 186) dX12_findRaisings_85 (by decide) (fun hb => ?_) (fun hb => ?_)
  · have k := k.1 hb
    refine zr_iinc (v := (v3 + 1)) dX12_findRaisings_186 rfl rfl (Nat.le_of_ble_eq_true rfl) rfl ?_
    refine zr_goto (tgt := 54) dX12_findRaisings_189 (by decide) ?_
    exact zr_mask [true, true, true, true, false, false, false, false] rfl k
  · have k := k.2 hb
    refine zr_aload_n dX12_findRaisings_88 rfl rfl ?_
    refine zr_getR dX12_findRaisings_89 zf_X12_141 rfl (hS.has (a := 84) rfl rfl) (hS.ref (a := 124) rfl) ?_
    refine zr_aload_n dX12_findRaisings_92 rfl rfl ?_
    refine zr_getR dX12_findRaisings_93 zf_X12_147 rfl (hS.has (a := 84) rfl rfl) (hS.ref (a := 126) rfl) ?_
    refine zr_iload_n dX12_findRaisings_96 rfl rfl ?_
    obtain ⟨hi5, k⟩ := k
    refine zr_ialdv (x := (I 126 v3.toNatClampNeg)) dX12_findRaisings_97 (hS.has (a := 126) rfl rfl) hi5 rfl ?_
    obtain ⟨hi6, k⟩ := k
    refine zr_ialdv (x := (I 124 (I 126 v3.toNatClampNeg).toNatClampNeg)) dX12_findRaisings_98 (hS.has (a := 124) rfl rfl) hi6 rfl ?_
    refine zr_aload_n dX12_findRaisings_99 rfl rfl ?_
    refine zr_getR dX12_findRaisings_100 zf_X12_147 rfl (hS.has (a := 84) rfl rfl) (hS.ref (a := 126) rfl) ?_
    refine zr_iload dX12_findRaisings_103 rfl ?_
    obtain ⟨hi7, k⟩ := k
    refine zr_ialdv (x := (I 126 v4.toNatClampNeg)) dX12_findRaisings_105 (hS.has (a := 126) rfl rfl) hi7 rfl ?_
    refine zr_ishr dX12_findRaisings_106 ?_
    refine zr_iconst (v := 1) dX12_findRaisings_107 (by decide) ?_
    refine zr_iand dX12_findRaisings_108 ?_
    refine zr_ifne (tgt := 115) dX12_findRaisings_109 (by decide) (fun hb => ?_) (fun hb => ?_)
    · have k := k.1 hb
      refine zr_aload_n dX12_findRaisings_115 rfl rfl ?_
      refine zr_getR dX12_findRaisings_116 zf_X12_150 rfl (hS.has (a := 84) rfl rfl) (hS.ref (a := 127) rfl) ?_
      refine zr_iload_n dX12_findRaisings_119 rfl rfl ?_
      refine zr_aload_n dX12_findRaisings_120 rfl rfl ?_
      refine zr_getR dX12_findRaisings_121 zf_X12_150 rfl (hS.has (a := 84) rfl rfl) (hS.ref (a := 127) rfl) ?_
      refine zr_iload_n dX12_findRaisings_124 rfl rfl ?_
      refine zr_ialdv (x := (I 127 v3.toNatClampNeg)) dX12_findRaisings_125 (hS.has (a := 127) rfl rfl) hi5 rfl ?_
      refine zr_iconst (v := 1) dX12_findRaisings_126 (by decide) ?_
      refine zr_iload dX12_findRaisings_127 rfl ?_
      refine zr_ishl dX12_findRaisings_129 ?_
      refine zr_ior dX12_findRaisings_130 ?_
      refine zr_iast dX12_findRaisings_131 (hS.has (a := 127) rfl rfl) hi5 ?_
      refine zr_aload_n dX12_findRaisings_132 rfl rfl ?_
      refine zr_iload_n dX12_findRaisings_133 rfl rfl ?_
      refine zr_aload_n dX12_findRaisings_134 rfl rfl ?_
      refine zr_getR dX12_findRaisings_135 zf_X12_13 rfl (hS.has (a := 84) rfl rfl) (hS.ref (a := 85) rfl) ?_
      refine zr_aload_n dX12_findRaisings_138 rfl rfl ?_
      refine zr_getR dX12_findRaisings_139 zf_X12_147 rfl (hS.has (a := 84) rfl rfl) (hS.ref (a := 126) rfl) ?_
      refine zr_iload dX12_findRaisings_142 rfl ?_
      refine zr_ialdv (x := (I 126 v4.toNatClampNeg)) dX12_findRaisings_144 (hS.has (a := 126) rfl rfl) hi7 rfl ?_
      obtain ⟨hi8, k⟩ := k
      refine zr_ialdv (x := (I 85 (I 126 v4.toNatClampNeg).toNatClampNeg)) dX12_findRaisings_145 (hS.has (a := 85) rfl rfl) hi8 rfl ?_
      refine zr_aload_n dX12_findRaisings_146 rfl rfl ?_
      refine zr_getR dX12_findRaisings_147 zf_X12_13 rfl (hS.has (a := 84) rfl rfl) (hS.ref (a := 85) rfl) ?_
      refine zr_aload_n dX12_findRaisings_150 rfl rfl ?_
      refine zr_getR dX12_findRaisings_151 zf_X12_147 rfl (hS.has (a := 84) rfl rfl) (hS.ref (a := 126) rfl) ?_
      refine zr_iload_n dX12_findRaisings_154 rfl rfl ?_
      refine zr_ialdv (x := (I 126 v3.toNatClampNeg)) dX12_findRaisings_155 (hS.has (a := 126) rfl rfl) hi5 rfl ?_
      refine zr_ialdv (x := (I 85 (I 126 v3.toNatClampNeg).toNatClampNeg)) dX12_findRaisings_156 (hS.has (a := 85) rfl rfl) hi6 rfl ?_
      refine zr_callV (As := [.int v1, .int (I 85 (I 126 v4.toNatClampNeg).toNatClampNeg), .int (I 85 (I 126 v3.toNatClampNeg).toNatClampNeg)]) (fr' := fX12_isAhead) (lo' := lX12_isAhead) (bc' := 0) (bs' := 0) (bcr := bc) (bsr := bs) dX12_findRaisings_157 zs_X12_283 zi_X12_isAhead zcl_12 (hS.has (a := 84) rfl rfl) rfl rfl (Nat.le_of_ble_eq_true rfl) (Nat.le_of_ble_eq_true rfl) (Nat.le_of_ble_eq_true rfl) (Nat.le_refl _) (Nat.le_refl _) ?_
      obtain ⟨hq0, hq1, k⟩ := k
      refine sp_X12_isAhead hS hq0 hq1 ?_
      show ZW G mX12_findRaisings fX12_findRaisings lX12_findRaisings 160 [zo G 84, .int v1, .int v2, .int v3, .int v4, .null, .null, .null] [.int (p_X12_isAhead (u2 I 127 v3.toNatClampNeg ((I 127 v3.toNatClampNeg) ||| ((1 : Int32) <<< (v4 &&& 31)))) v1 (I 85 (I 126 v4.toNatClampNeg).toNatClampNeg) (I 85 (I 126 v3.toNatClampNeg).toNatClampNeg))] S (u2 I 127 v3.toNatClampNeg ((I 127 v3.toNatClampNeg) ||| ((1 : Int32) <<< (v4 &&& 31)))) L bc bs Q
      refine zr_ifeq (tgt := 180) dX12_findRaisings_160 (by decide) (fun hb => ?_) (fun hb => ?_)
      · have k := k.1 hb
        refine zr_iinc (v := (v4 + 1)) dX12_findRaisings_180 rfl rfl (Nat.le_of_ble_eq_true rfl) rfl ?_
        refine zr_goto (tgt := 79) dX12_findRaisings_183 (by decide) ?_
        exact k
      · have k := k.2 hb
        refine zr_aload_n dX12_findRaisings_163 rfl rfl ?_
        refine zr_getR dX12_findRaisings_164 zf_X12_153 rfl (hS.has (a := 84) rfl rfl) (hS.ref (a := 128) rfl) ?_
        refine zr_iload_n dX12_findRaisings_167 rfl rfl ?_
        refine zr_aload_n dX12_findRaisings_168 rfl rfl ?_
        refine zr_getR dX12_findRaisings_169 zf_X12_153 rfl (hS.has (a := 84) rfl rfl) (hS.ref (a := 128) rfl) ?_
        refine zr_iload_n dX12_findRaisings_172 rfl rfl ?_
        refine zr_ialdv (x := (I 128 v3.toNatClampNeg)) dX12_findRaisings_173 (hS.has (a := 128) rfl rfl) hi5 rfl ?_
        refine zr_iconst (v := 1) dX12_findRaisings_174 (by decide) ?_
        refine zr_iload dX12_findRaisings_175 rfl ?_
        refine zr_ishl dX12_findRaisings_177 ?_
        refine zr_ior dX12_findRaisings_178 ?_
        refine zr_iast dX12_findRaisings_179 (hS.has (a := 128) rfl rfl) hi5 ?_
        refine zr_iinc (v := (v4 + 1)) dX12_findRaisings_180 rfl rfl (Nat.le_of_ble_eq_true rfl) rfl ?_
        refine zr_goto (tgt := 79) dX12_findRaisings_183 (by decide) ?_
        exact k
    · have k := k.2 hb
      refine zr_goto (tgt := 180) dX12_findRaisings_112 (by decide) ?_
      refine zr_iinc (v := (v4 + 1)) dX12_findRaisings_180 rfl rfl (Nat.le_of_ble_eq_true rfl) rfl ?_
      refine zr_goto (tgt := 79) dX12_findRaisings_183 (by decide) ?_
      exact k
set_option maxHeartbeats 2000000 in
theorem vX12_findRaisings_226 {G : Gp} {bc bs : Nat} {Q : zPost} {S : zSh} {I : zFI} {L : zFL} {v1 : Int32} {v2 : Int32} {v3 : Int32} {v4 : Int32} {v5 : Int32} (hS : zStd S)  (k : ((v5 < 0 → ZW G mX12_findRaisings fX12_findRaisings lX12_findRaisings 374 [zo G 84, .int v1, .int v2, .int v3, .int v4, .int (1 : Int32), .null, .null] [] S I (u2 L 130 (0 : Int32).toNatClampNeg (1 : Int64)) bc bs Q) ∧ (¬ v5 < 0 → vp_in v5 65536 ∧ ZW G mX12_findRaisings fX12_findRaisings lX12_findRaisings 244 [zo G 84, .int v1, .int v2, .int v3, .int v4, .int v5, .int (0 : Int32), .null] [] S (u2 I 129 v5.toNatClampNeg (1000000 : Int32)) L bc bs Q))) : ZW G mX12_findRaisings fX12_findRaisings lX12_findRaisings 226 [zo G 84, .int v1, .int v2, .int v3, .int v4, .int v5, .null, .null] [] S I L bc bs Q := by
  refine zr_iload dX12_findRaisings_226 rfl ?_
  refine zr_iflt (tgt := 364) dX12_findRaisings_228 (by decide) (fun hb => ?_) (fun hb => ?_)
  · have k := k.1 hb
    refine zr_aload_n dX12_findRaisings_364 rfl rfl ?_
    refine zr_getR dX12_findRaisings_365 zf_X12_160 rfl (hS.has (a := 84) rfl rfl) (hS.ref (a := 130) rfl) ?_
    refine zr_iconst (v := 0) dX12_findRaisings_368 (by decide) ?_
    refine zr_lconst (v := 1) dX12_findRaisings_369 (by decide) ?_
    refine zr_last dX12_findRaisings_370 (hS.has (a := 130) rfl rfl) (zvl (by decide)) ?_
    refine zr_iconst (v := 1) dX12_findRaisings_371 (by decide) ?_
    refine zr_istore dX12_findRaisings_372 (Nat.le_of_ble_eq_true rfl) rfl ?_
    exact k
  · have k := k.2 hb
    refine zr_aload_n dX12_findRaisings_231 rfl rfl ?_
    refine zr_getR dX12_findRaisings_232 zf_X12_157 rfl (hS.has (a := 84) rfl rfl) (hS.ref (a := 129) rfl) ?_
    refine zr_iload dX12_findRaisings_235 rfl ?_
    refine zr_ldc_w dX12_findRaisings_237 zk_X12_343 ?_
    obtain ⟨hi9, k⟩ := k
    refine zr_iast dX12_findRaisings_240 (hS.has (a := 129) rfl rfl) hi9 ?_
    refine zr_iconst (v := 0) dX12_findRaisings_241 (by decide) ?_
    refine zr_istore dX12_findRaisings_242 (Nat.le_of_ble_eq_true rfl) rfl ?_
    exact k
set_option maxHeartbeats 2000000 in
theorem vX12_findRaisings_244 {G : Gp} {bc bs : Nat} {Q : zPost} {S : zSh} {I : zFI} {L : zFL} {v1 : Int32} {v2 : Int32} {v3 : Int32} {v4 : Int32} {v5 : Int32} {v6 : Int32} (hS : zStd S)  (k : (((I 84 66) ≤ v6 → ZW G mX12_findRaisings fX12_findRaisings lX12_findRaisings 226 [zo G 84, .int v1, .int v2, .int v3, .int v4, .int (v5 + (-1)), .null, .null] [] S I L bc bs Q) ∧ (¬ (I 84 66) ≤ v6 → (((v5 >>> (v6 &&& 31)) &&& (1 : Int32)) = 0 → vp_in v6 16) ∧ (((p_X12_canCome I v6 v5) = 0 → ZW G mX12_findRaisings fX12_findRaisings lX12_findRaisings 244 [zo G 84, .int v1, .int v2, .int v3, .int v4, .int v5, .int (v6 + 1), .null] [] S I L bc bs Q) ∧ (¬ (p_X12_canCome I v6 v5) = 0 → vp_in (v5 ||| ((1 : Int32) <<< (v6 &&& 31))) 65536 ∧ ((¬ (I 129 (v5 ||| ((1 : Int32) <<< (v6 &&& 31))).toNatClampNeg) = (1000000 : Int32) → ZC G mX12_props fX12_props lX12_props [zo G 84, .int v4, .int (v5 ||| ((1 : Int32) <<< (v6 &&& 31)))] S I L 0 0 (fun w S' I1 L1 => ∃ r1 : Int32, w = some (.int r1) ∧ S = S' ∧ (((I1 129 (v5 ||| ((1 : Int32) <<< (v6 &&& 31))).toNatClampNeg) ≤ r1 → vp_in v5 65536 ∧ (((I1 129 v5.toNatClampNeg) ≤ r1 → ZW G mX12_findRaisings fX12_findRaisings lX12_findRaisings 244 [zo G 84, .int v1, .int v2, .int v3, .int v4, .int v5, .int (v6 + 1), .null] [] S I1 L1 bc bs Q) ∧ (¬ (I1 129 v5.toNatClampNeg) ≤ r1 → ZW G mX12_findRaisings fX12_findRaisings lX12_findRaisings 244 [zo G 84, .int v1, .int v2, .int v3, .int v4, .int v5, .int (v6 + 1), .null] [] S (u2 I1 129 v5.toNatClampNeg r1) L1 bc bs Q))) ∧ (¬ (I1 129 (v5 ||| ((1 : Int32) <<< (v6 &&& 31))).toNatClampNeg) ≤ r1 → vp_in v5 65536 ∧ (((I1 129 v5.toNatClampNeg) ≤ (I1 129 (v5 ||| ((1 : Int32) <<< (v6 &&& 31))).toNatClampNeg) → ZW G mX12_findRaisings fX12_findRaisings lX12_findRaisings 244 [zo G 84, .int v1, .int v2, .int v3, .int v4, .int v5, .int (v6 + 1), .null] [] S I1 L1 bc bs Q) ∧ (¬ (I1 129 v5.toNatClampNeg) ≤ (I1 129 (v5 ||| ((1 : Int32) <<< (v6 &&& 31))).toNatClampNeg) → ZW G mX12_findRaisings fX12_findRaisings lX12_findRaisings 244 [zo G 84, .int v1, .int v2, .int v3, .int v4, .int v5, .int (v6 + 1), .null] [] S (u2 I1 129 v5.toNatClampNeg (I1 129 (v5 ||| ((1 : Int32) <<< (v6 &&& 31))).toNatClampNeg)) L1 bc bs Q)))))) ∧ ((I 129 (v5 ||| ((1 : Int32) <<< (v6 &&& 31))).toNatClampNeg) = (1000000 : Int32) → ZW G mX12_findRaisings fX12_findRaisings lX12_findRaisings 244 [zo G 84, .int v1, .int v2, .int v3, .int v4, .int v5, .int (v6 + 1), .null] [] S I L bc bs Q))))))) : ZW G mX12_findRaisings fX12_findRaisings lX12_findRaisings 244 [zo G 84, .int v1, .int v2, .int v3, .int v4, .int v5, .int v6, .null] [] S I L bc bs Q := by
  refine zr_iload dX12_findRaisings_244 rfl ?_
  refine zr_aload_n dX12_findRaisings_246 rfl rfl ?_
  refine zr_getIv (x := (I 84 66)) dX12_findRaisings_247 zf_X12_369 rfl (hS.has (a := 84) rfl rfl) rfl ?_
  refine zr_icge (tgt := 358) dX12_findRaisings_250 (by decide) (fun hb => ?_) (fun hb => ?_)
  · have k := k.1 hb
    refine zr_iinc (v := (v5 + (-1))) dX12_findRaisings_358 rfl rfl (Nat.le_of_ble_eq_true rfl) rfl ?_
    refine zr_goto (tgt := 226) dX12_findRaisings_361 (by decide) ?_
    exact zr_mask [true, true, true, true, true, true, false, false] rfl k
  · have k := k.2 hb
    refine zr_aload_n dX12_findRaisings_253 rfl rfl ?_
    refine zr_iload dX12_findRaisings_254 rfl ?_
    refine zr_iload dX12_findRaisings_256 rfl ?_
    refine zr_callV (As := [.int v6, .int v5]) (fr' := fX12_canCome) (lo' := lX12_canCome) (bc' := 0) (bs' := 0) (bcr := bc) (bsr := bs) dX12_findRaisings_258 zs_X12_375 zi_X12_canCome zcl_12 (hS.has (a := 84) rfl rfl) rfl rfl (Nat.le_of_ble_eq_true rfl) (Nat.le_of_ble_eq_true rfl) (Nat.le_of_ble_eq_true rfl) (Nat.le_refl _) (Nat.le_refl _) ?_
    obtain ⟨hq0, k⟩ := k
    refine sp_X12_canCome hS hq0 ?_
    show ZW G mX12_findRaisings fX12_findRaisings lX12_findRaisings 261 [zo G 84, .int v1, .int v2, .int v3, .int v4, .int v5, .int v6, .null] [.int (p_X12_canCome I v6 v5)] S I L bc bs Q
    refine zr_ifeq (tgt := 352) dX12_findRaisings_261 (by decide) (fun hb => ?_) (fun hb => ?_)
    · have k := k.1 hb
      refine zr_iinc (v := (v6 + 1)) dX12_findRaisings_352 rfl rfl (Nat.le_of_ble_eq_true rfl) rfl ?_
      refine zr_goto (tgt := 244) dX12_findRaisings_355 (by decide) ?_
      exact k
    · have k := k.2 hb
      refine zr_aload_n dX12_findRaisings_264 rfl rfl ?_
      refine zr_getR dX12_findRaisings_265 zf_X12_157 rfl (hS.has (a := 84) rfl rfl) (hS.ref (a := 129) rfl) ?_
      refine zr_iload dX12_findRaisings_268 rfl ?_
      refine zr_iconst (v := 1) dX12_findRaisings_270 (by decide) ?_
      refine zr_iload dX12_findRaisings_271 rfl ?_
      refine zr_ishl dX12_findRaisings_273 ?_
      refine zr_ior dX12_findRaisings_274 ?_
      obtain ⟨hi10, k⟩ := k
      refine zr_ialdv (x := (I 129 (v5 ||| ((1 : Int32) <<< (v6 &&& 31))).toNatClampNeg)) dX12_findRaisings_275 (hS.has (a := 129) rfl rfl) hi10 rfl ?_
      refine zr_ldc_w dX12_findRaisings_276 zk_X12_343 ?_
      refine zr_icne (tgt := 285) dX12_findRaisings_279 (by decide) (fun hb => ?_) (fun hb => ?_)
      · have k := k.1 hb
        refine zr_aload_n dX12_findRaisings_285 rfl rfl ?_
        refine zr_iload dX12_findRaisings_286 rfl ?_
        refine zr_iload dX12_findRaisings_288 rfl ?_
        refine zr_iconst (v := 1) dX12_findRaisings_290 (by decide) ?_
        refine zr_iload dX12_findRaisings_291 rfl ?_
        refine zr_ishl dX12_findRaisings_293 ?_
        refine zr_ior dX12_findRaisings_294 ?_
        refine zr_callV (As := [.int v4, .int (v5 ||| ((1 : Int32) <<< (v6 &&& 31)))]) (fr' := fX12_props) (lo' := lX12_props) (bc' := 0) (bs' := 0) (bcr := bc) (bsr := bs) dX12_findRaisings_295 zs_X12_378 zi_X12_props zcl_12 (hS.has (a := 84) rfl rfl) rfl rfl (Nat.le_of_ble_eq_true rfl) (Nat.le_of_ble_eq_true rfl) (Nat.le_of_ble_eq_true rfl) (Nat.le_refl _) (Nat.le_refl _) ?_
        refine ZC.mono (fun w S' I1 L1 k => ?_) k
        obtain ⟨r1, rfl, rfl, k⟩ := k
        show ZW G mX12_findRaisings fX12_findRaisings lX12_findRaisings 298 [zo G 84, .int v1, .int v2, .int v3, .int v4, .int v5, .int v6, .null] [.int r1] S I1 L1 bc bs Q
        refine zr_istore dX12_findRaisings_298 (Nat.le_of_ble_eq_true rfl) rfl ?_
        refine zr_aload_n dX12_findRaisings_300 rfl rfl ?_
        refine zr_getR dX12_findRaisings_301 zf_X12_157 rfl (hS.has (a := 84) rfl rfl) (hS.ref (a := 129) rfl) ?_
        refine zr_iload dX12_findRaisings_304 rfl ?_
        refine zr_iconst (v := 1) dX12_findRaisings_306 (by decide) ?_
        refine zr_iload dX12_findRaisings_307 rfl ?_
        refine zr_ishl dX12_findRaisings_309 ?_
        refine zr_ior dX12_findRaisings_310 ?_
        refine zr_ialdv (x := (I1 129 (v5 ||| ((1 : Int32) <<< (v6 &&& 31))).toNatClampNeg)) dX12_findRaisings_311 (hS.has (a := 129) rfl rfl) hi10 rfl ?_
        refine zr_iload dX12_findRaisings_312 rfl ?_
        refine zr_icle (tgt := 331) dX12_findRaisings_314 (by decide) (fun hb => ?_) (fun hb => ?_)
        · have k := k.1 hb
          refine zr_iload dX12_findRaisings_331 rfl ?_
          refine zr_aload_n dX12_findRaisings_333 rfl rfl ?_
          refine zr_getR dX12_findRaisings_334 zf_X12_157 rfl (hS.has (a := 84) rfl rfl) (hS.ref (a := 129) rfl) ?_
          refine zr_iload dX12_findRaisings_337 rfl ?_
          obtain ⟨hi11, k⟩ := k
          refine zr_ialdv (x := (I1 129 v5.toNatClampNeg)) dX12_findRaisings_339 (hS.has (a := 129) rfl rfl) hi11 rfl ?_
          refine zr_icge (tgt := 352) dX12_findRaisings_340 (by decide) (fun hb => ?_) (fun hb => ?_)
          · have k := k.1 hb
            refine zr_iinc (v := (v6 + 1)) dX12_findRaisings_352 rfl rfl (Nat.le_of_ble_eq_true rfl) rfl ?_
            refine zr_goto (tgt := 244) dX12_findRaisings_355 (by decide) ?_
            exact zr_mask [true, true, true, true, true, true, true, false] rfl k
          · have k := k.2 hb
            refine zr_aload_n dX12_findRaisings_343 rfl rfl ?_
            refine zr_getR dX12_findRaisings_344 zf_X12_157 rfl (hS.has (a := 84) rfl rfl) (hS.ref (a := 129) rfl) ?_
            refine zr_iload dX12_findRaisings_347 rfl ?_
            refine zr_iload dX12_findRaisings_349 rfl ?_
            refine zr_iast dX12_findRaisings_351 (hS.has (a := 129) rfl rfl) hi11 ?_
            refine zr_iinc (v := (v6 + 1)) dX12_findRaisings_352 rfl rfl (Nat.le_of_ble_eq_true rfl) rfl ?_
            refine zr_goto (tgt := 244) dX12_findRaisings_355 (by decide) ?_
            exact zr_mask [true, true, true, true, true, true, true, false] rfl k
        · have k := k.2 hb
          refine zr_aload_n dX12_findRaisings_317 rfl rfl ?_
          refine zr_getR dX12_findRaisings_318 zf_X12_157 rfl (hS.has (a := 84) rfl rfl) (hS.ref (a := 129) rfl) ?_
          refine zr_iload dX12_findRaisings_321 rfl ?_
          refine zr_iconst (v := 1) dX12_findRaisings_323 (by decide) ?_
          refine zr_iload dX12_findRaisings_324 rfl ?_
          refine zr_ishl dX12_findRaisings_326 ?_
          refine zr_ior dX12_findRaisings_327 ?_
          refine zr_ialdv (x := (I1 129 (v5 ||| ((1 : Int32) <<< (v6 &&& 31))).toNatClampNeg)) dX12_findRaisings_328 (hS.has (a := 129) rfl rfl) hi10 rfl ?_
          refine zr_istore dX12_findRaisings_329 (Nat.le_of_ble_eq_true rfl) rfl ?_
          refine zr_iload dX12_findRaisings_331 rfl ?_
          refine zr_aload_n dX12_findRaisings_333 rfl rfl ?_
          refine zr_getR dX12_findRaisings_334 zf_X12_157 rfl (hS.has (a := 84) rfl rfl) (hS.ref (a := 129) rfl) ?_
          refine zr_iload dX12_findRaisings_337 rfl ?_
          obtain ⟨hi12, k⟩ := k
          refine zr_ialdv (x := (I1 129 v5.toNatClampNeg)) dX12_findRaisings_339 (hS.has (a := 129) rfl rfl) hi12 rfl ?_
          refine zr_icge (tgt := 352) dX12_findRaisings_340 (by decide) (fun hb => ?_) (fun hb => ?_)
          · have k := k.1 hb
            refine zr_iinc (v := (v6 + 1)) dX12_findRaisings_352 rfl rfl (Nat.le_of_ble_eq_true rfl) rfl ?_
            refine zr_goto (tgt := 244) dX12_findRaisings_355 (by decide) ?_
            exact zr_mask [true, true, true, true, true, true, true, false] rfl k
          · have k := k.2 hb
            refine zr_aload_n dX12_findRaisings_343 rfl rfl ?_
            refine zr_getR dX12_findRaisings_344 zf_X12_157 rfl (hS.has (a := 84) rfl rfl) (hS.ref (a := 129) rfl) ?_
            refine zr_iload dX12_findRaisings_347 rfl ?_
            refine zr_iload dX12_findRaisings_349 rfl ?_
            refine zr_iast dX12_findRaisings_351 (hS.has (a := 129) rfl rfl) hi12 ?_
            refine zr_iinc (v := (v6 + 1)) dX12_findRaisings_352 rfl rfl (Nat.le_of_ble_eq_true rfl) rfl ?_
            refine zr_goto (tgt := 244) dX12_findRaisings_355 (by decide) ?_
            exact zr_mask [true, true, true, true, true, true, true, false] rfl k
      · have k := k.2 hb
        refine zr_goto (tgt := 352) dX12_findRaisings_282 (by decide) ?_
        refine zr_iinc (v := (v6 + 1)) dX12_findRaisings_352 rfl rfl (Nat.le_of_ble_eq_true rfl) rfl ?_
        refine zr_goto (tgt := 244) dX12_findRaisings_355 (by decide) ?_
        exact k
set_option maxHeartbeats 2000000 in
theorem vX12_findRaisings_374 {G : Gp} {bc bs : Nat} {Q : zPost} {S : zSh} {I : zFI} {L : zFL} {v1 : Int32} {v2 : Int32} {v3 : Int32} {v4 : Int32} {v5 : Int32} (hS : zStd S)  (k : ((v3 < v5 → Q none S I L) ∧ (¬ v3 < v5 → vp_in v5 65536 ∧ ZW G mX12_findRaisings fX12_findRaisings lX12_findRaisings 391 [zo G 84, .int v1, .int v2, .int v3, .int v4, .int v5, .int (0 : Int32), .null] [] S I (u2 L 130 v5.toNatClampNeg (0 : Int64)) bc bs Q))) : ZW G mX12_findRaisings fX12_findRaisings lX12_findRaisings 374 [zo G 84, .int v1, .int v2, .int v3, .int v4, .int v5, .null, .null] [] S I L bc bs Q := by
  refine zr_iload dX12_findRaisings_374 rfl ?_
  refine zr_iload_n dX12_findRaisings_376 rfl rfl ?_
  refine zr_icgt (tgt := 470) dX12_findRaisings_377 (by decide) (fun hb => ?_) (fun hb => ?_)
  · have k := k.1 hb
    exact zr_return_ dX12_findRaisings_470 rfl k
  · have k := k.2 hb
    refine zr_aload_n dX12_findRaisings_380 rfl rfl ?_
    refine zr_getR dX12_findRaisings_381 zf_X12_160 rfl (hS.has (a := 84) rfl rfl) (hS.ref (a := 130) rfl) ?_
    refine zr_iload dX12_findRaisings_384 rfl ?_
    refine zr_lconst (v := 0) dX12_findRaisings_386 (by decide) ?_
    obtain ⟨hi13, k⟩ := k
    refine zr_last dX12_findRaisings_387 (hS.has (a := 130) rfl rfl) hi13 ?_
    refine zr_iconst (v := 0) dX12_findRaisings_388 (by decide) ?_
    refine zr_istore dX12_findRaisings_389 (Nat.le_of_ble_eq_true rfl) rfl ?_
    exact k
set_option maxHeartbeats 2000000 in
theorem vX12_findRaisings_391 {G : Gp} {bc bs : Nat} {Q : zPost} {S : zSh} {I : zFI} {L : zFL} {v1 : Int32} {v2 : Int32} {v3 : Int32} {v4 : Int32} {v5 : Int32} {v6 : Int32} (hS : zStd S)  (k : (((I 84 66) ≤ v6 → ZW G mX12_findRaisings fX12_findRaisings lX12_findRaisings 374 [zo G 84, .int v1, .int v2, .int v3, .int v4, .int (v5 + 1), .null, .null] [] S I L bc bs Q) ∧ (¬ (I 84 66) ≤ v6 → ((¬ ((v5 >>> (v6 &&& 31)) &&& (1 : Int32)) = (1 : Int32) → ZW G mX12_findRaisings fX12_findRaisings lX12_findRaisings 391 [zo G 84, .int v1, .int v2, .int v3, .int v4, .int v5, .int (v6 + 1), .null] [] S I L bc bs Q) ∧ (((v5 >>> (v6 &&& 31)) &&& (1 : Int32)) = (1 : Int32) → ((((v5 &&& (((1 : Int32) <<< (v6 &&& 31)) ^^^ (-1 : Int32))) >>> (v6 &&& 31)) &&& (1 : Int32)) = 0 → vp_in v6 16) ∧ (((p_X12_canCome I v6 (v5 &&& (((1 : Int32) <<< (v6 &&& 31)) ^^^ (-1 : Int32)))) = 0 → ZW G mX12_findRaisings fX12_findRaisings lX12_findRaisings 391 [zo G 84, .int v1, .int v2, .int v3, .int v4, .int v5, .int (v6 + 1), .null] [] S I L bc bs Q) ∧ (¬ (p_X12_canCome I v6 (v5 &&& (((1 : Int32) <<< (v6 &&& 31)) ^^^ (-1 : Int32)))) = 0 → vp_in v5 65536 ∧ vp_in (v5 &&& (((1 : Int32) <<< (v6 &&& 31)) ^^^ (-1 : Int32))) 65536 ∧ ZW G mX12_findRaisings fX12_findRaisings lX12_findRaisings 391 [zo G 84, .int v1, .int v2, .int v3, .int v4, .int v5, .int (v6 + 1), .null] [] S I (u2 L 130 v5.toNatClampNeg ((L 130 v5.toNatClampNeg) + (L 130 (v5 &&& (((1 : Int32) <<< (v6 &&& 31)) ^^^ (-1 : Int32))).toNatClampNeg))) bc bs Q))))))) : ZW G mX12_findRaisings fX12_findRaisings lX12_findRaisings 391 [zo G 84, .int v1, .int v2, .int v3, .int v4, .int v5, .int v6, .null] [] S I L bc bs Q := by
  refine zr_iload dX12_findRaisings_391 rfl ?_
  refine zr_aload_n dX12_findRaisings_393 rfl rfl ?_
  refine zr_getIv (x := (I 84 66)) dX12_findRaisings_394 zf_X12_369 rfl (hS.has (a := 84) rfl rfl) rfl ?_
  refine zr_icge (tgt := 464) dX12_findRaisings_397 (by decide) (fun hb => ?_) (fun hb => ?_)
  · have k := k.1 hb
    refine zr_iinc (v := (v5 + 1)) dX12_findRaisings_464 rfl rfl (Nat.le_of_ble_eq_true rfl) rfl ?_
    refine zr_goto (tgt := 374) dX12_findRaisings_467 (by decide) ?_
    exact zr_mask [true, true, true, true, true, true, false, false] rfl k
  · have k := k.2 hb
    refine zr_iload dX12_findRaisings_400 rfl ?_
    refine zr_iload dX12_findRaisings_402 rfl ?_
    refine zr_ishr dX12_findRaisings_404 ?_
    refine zr_iconst (v := 1) dX12_findRaisings_405 (by decide) ?_
    refine zr_iand dX12_findRaisings_406 ?_
    refine zr_iconst (v := 1) dX12_findRaisings_407 (by decide) ?_
    refine zr_icne (tgt := 458) dX12_findRaisings_408 (by decide) (fun hb => ?_) (fun hb => ?_)
    · have k := k.1 hb
      refine zr_iinc (v := (v6 + 1)) dX12_findRaisings_458 rfl rfl (Nat.le_of_ble_eq_true rfl) rfl ?_
      refine zr_goto (tgt := 391) dX12_findRaisings_461 (by decide) ?_
      exact k
    · have k := k.2 hb
      refine zr_aload_n dX12_findRaisings_411 rfl rfl ?_
      refine zr_iload dX12_findRaisings_412 rfl ?_
      refine zr_iload dX12_findRaisings_414 rfl ?_
      refine zr_iconst (v := 1) dX12_findRaisings_416 (by decide) ?_
      refine zr_iload dX12_findRaisings_417 rfl ?_
      refine zr_ishl dX12_findRaisings_419 ?_
      refine zr_iconst (v := -1) dX12_findRaisings_420 (by decide) ?_
      refine zr_ixor dX12_findRaisings_421 ?_
      refine zr_iand dX12_findRaisings_422 ?_
      refine zr_callV (As := [.int v6, .int (v5 &&& (((1 : Int32) <<< (v6 &&& 31)) ^^^ (-1 : Int32)))]) (fr' := fX12_canCome) (lo' := lX12_canCome) (bc' := 0) (bs' := 0) (bcr := bc) (bsr := bs) dX12_findRaisings_423 zs_X12_375 zi_X12_canCome zcl_12 (hS.has (a := 84) rfl rfl) rfl rfl (Nat.le_of_ble_eq_true rfl) (Nat.le_of_ble_eq_true rfl) (Nat.le_of_ble_eq_true rfl) (Nat.le_refl _) (Nat.le_refl _) ?_
      obtain ⟨hq0, k⟩ := k
      refine sp_X12_canCome hS hq0 ?_
      show ZW G mX12_findRaisings fX12_findRaisings lX12_findRaisings 426 [zo G 84, .int v1, .int v2, .int v3, .int v4, .int v5, .int v6, .null] [.int (p_X12_canCome I v6 (v5 &&& (((1 : Int32) <<< (v6 &&& 31)) ^^^ (-1 : Int32))))] S I L bc bs Q
      refine zr_ifeq (tgt := 458) dX12_findRaisings_426 (by decide) (fun hb => ?_) (fun hb => ?_)
      · have k := k.1 hb
        refine zr_iinc (v := (v6 + 1)) dX12_findRaisings_458 rfl rfl (Nat.le_of_ble_eq_true rfl) rfl ?_
        refine zr_goto (tgt := 391) dX12_findRaisings_461 (by decide) ?_
        exact k
      · have k := k.2 hb
        refine zr_aload_n dX12_findRaisings_429 rfl rfl ?_
        refine zr_getR dX12_findRaisings_430 zf_X12_160 rfl (hS.has (a := 84) rfl rfl) (hS.ref (a := 130) rfl) ?_
        refine zr_iload dX12_findRaisings_433 rfl ?_
        refine zr_aload_n dX12_findRaisings_435 rfl rfl ?_
        refine zr_getR dX12_findRaisings_436 zf_X12_160 rfl (hS.has (a := 84) rfl rfl) (hS.ref (a := 130) rfl) ?_
        refine zr_iload dX12_findRaisings_439 rfl ?_
        obtain ⟨hi14, k⟩ := k
        refine zr_laldv (x := (L 130 v5.toNatClampNeg)) dX12_findRaisings_441 (hS.has (a := 130) rfl rfl) hi14 rfl ?_
        refine zr_aload_n dX12_findRaisings_442 rfl rfl ?_
        refine zr_getR dX12_findRaisings_443 zf_X12_160 rfl (hS.has (a := 84) rfl rfl) (hS.ref (a := 130) rfl) ?_
        refine zr_iload dX12_findRaisings_446 rfl ?_
        refine zr_iconst (v := 1) dX12_findRaisings_448 (by decide) ?_
        refine zr_iload dX12_findRaisings_449 rfl ?_
        refine zr_ishl dX12_findRaisings_451 ?_
        refine zr_iconst (v := -1) dX12_findRaisings_452 (by decide) ?_
        refine zr_ixor dX12_findRaisings_453 ?_
        refine zr_iand dX12_findRaisings_454 ?_
        obtain ⟨hi15, k⟩ := k
        refine zr_laldv (x := (L 130 (v5 &&& (((1 : Int32) <<< (v6 &&& 31)) ^^^ (-1 : Int32))).toNatClampNeg)) dX12_findRaisings_455 (hS.has (a := 130) rfl rfl) hi15 rfl ?_
        refine zr_ladd dX12_findRaisings_456 ?_
        refine zr_last dX12_findRaisings_457 (hS.has (a := 130) rfl rfl) hi14 ?_
        refine zr_iinc (v := (v6 + 1)) dX12_findRaisings_458 rfl rfl (Nat.le_of_ble_eq_true rfl) rfl ?_
        refine zr_goto (tgt := 391) dX12_findRaisings_461 (by decide) ?_
        exact k
