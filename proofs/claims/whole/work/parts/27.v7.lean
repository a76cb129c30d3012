set_option maxHeartbeats 2000000 in
theorem vX12_common_0 {G : Gp} {bc bs : Nat} {Q : zPost} {S : zSh} {I : zFI} {L : zFL} {v1 : Int32} {v2 : Int32} (hS : zStd S)  (k : ((0 ≤ v1 → ZW G mX12_common fX12_common lX12_common 14 [zo G 84, .int v1, .int v2, .int v1, .int v2, .null] [] S I L bc bs Q) ∧ (¬ 0 ≤ v1 → ZW G mX12_common fX12_common lX12_common 14 [zo G 84, .int v1, .int v2, .int (-v1), .int v2, .null] [] S I L bc bs Q))) : ZW G mX12_common fX12_common lX12_common 0 [zo G 84, .int v1, .int v2, .null, .null, .null] [] S I L bc bs Q := by
  refine zr_iload_n dX12_common_0 rfl rfl ?_
  refine zr_ifge (tgt := 9) dX12_common_1 (by decide) (fun hb => ?_) (fun hb => ?_)
  · have k := k.1 hb
    refine zr_iload_n dX12_common_9 rfl rfl ?_
    refine zr_istore_n dX12_common_10 rfl (Nat.le_of_ble_eq_true rfl) rfl ?_
    refine zr_iload_n dX12_common_11 rfl rfl ?_
    refine zr_istore dX12_common_12 (Nat.le_of_ble_eq_true rfl) rfl ?_
    exact k
  · have k := k.2 hb
    refine zr_iload_n dX12_common_4 rfl rfl ?_
    refine zr_ineg dX12_common_5 ?_
    refine zr_goto (tgt := 10) dX12_common_6 (by decide) ?_
    refine zr_istore_n dX12_common_10 rfl (Nat.le_of_ble_eq_true rfl) rfl ?_
    refine zr_iload_n dX12_common_11 rfl rfl ?_
    refine zr_istore dX12_common_12 (Nat.le_of_ble_eq_true rfl) rfl ?_
    exact k
set_option maxHeartbeats 2000000 in
theorem vX12_common_14 {G : Gp} {bc bs : Nat} {Q : zPost} {S : zSh} {I : zFI} {L : zFL} {v1 : Int32} {v2 : Int32} {v3 : Int32} {v4 : Int32} (hS : zStd S)  (k : ((v4 = 0 → Q (some (.int v3)) S I L) ∧ (¬ v4 = 0 → ¬ v4 = 0 ∧ ZW G mX12_common fX12_common lX12_common 14 [zo G 84, .int v1, .int v2, .int v4, .int (v3 - v3 / v4 * v4), .null] [] S I L bc bs Q))) : ZW G mX12_common fX12_common lX12_common 14 [zo G 84, .int v1, .int v2, .int v3, .int v4, .null] [] S I L bc bs Q := by
  refine zr_iload dX12_common_14 rfl ?_
  refine zr_ifeq (tgt := 35) dX12_common_16 (by decide) (fun hb => ?_) (fun hb => ?_)
  · have k := k.1 hb
    refine zr_iload_n dX12_common_35 rfl rfl ?_
    exact zr_ireturn dX12_common_36 rfl rfl k
  · have k := k.2 hb
    refine zr_iload_n dX12_common_19 rfl rfl ?_
    refine zr_iload dX12_common_20 rfl ?_
    obtain ⟨hc, k⟩ := k
    refine zr_irem dX12_common_22 hc ?_
    refine zr_istore dX12_common_23 (Nat.le_of_ble_eq_true rfl) rfl ?_
    refine zr_iload dX12_common_25 rfl ?_
    refine zr_istore_n dX12_common_27 rfl (Nat.le_of_ble_eq_true rfl) rfl ?_
    refine zr_iload dX12_common_28 rfl ?_
    refine zr_istore dX12_common_30 (Nat.le_of_ble_eq_true rfl) rfl ?_
    refine zr_goto (tgt := 14) dX12_common_32 (by decide) ?_
    exact zr_mask [true, true, true, true, true, false] rfl k
set_option maxHeartbeats 2000000 in
theorem vX12_leans_0 {G : Gp} {bc bs : Nat} {Q : zPost} {S : zSh} {I : zFI} {L : zFL} {v1 : Int32} {v2 : Int32} (hS : zStd S)  (k : (¬ v1 < 0 → ¬ ((u2 I 84 0 (0 : Int32)) 84 3) ≤ v1 → vp_in v1 16) ∧ (((p_X12_isTimber (u2 I 84 0 (0 : Int32)) v1) = 0 → Q (some (.int (-1000 : Int32))) S (u2 I 84 0 (0 : Int32)) L) ∧ (¬ (p_X12_isTimber (u2 I 84 0 (0 : Int32)) v1) = 0 → ((¬ (p_X12_isIn v2 (0 : Int32) (4 : Int32)) = 0 → ZC G mX12_findLeans fX12_findLeans lX12_findLeans [zo G 84, .int v1] S (u2 I 84 0 (0 : Int32)) L 0 0 (fun w S' I1 L1 => w = none ∧ S = S' ∧ ((¬ v2 = 0 → (((I1 84 84) = 0 → Q (some (.int (-1000 : Int32))) S I1 L1) ∧ (¬ (I1 84 84) = 0 → ((v2 ≤ (2 : Int32) → ((¬ v2 = (1 : Int32) → ((¬ v2 = (2 : Int32) → ZC G mX12_common fX12_common lX12_common [zo G 84, .int ((I1 84 88) - (I1 84 87)), .int ((I1 84 86) - (I1 84 85))] S I1 L1 0 0 (fun w S' I2 L2 => ∃ r2 : Int32, w = some (.int r2) ∧ S = S' ∧ ((¬ v2 = (3 : Int32) → ¬ r2 = 0 ∧ Q (some (.int (((I2 84 86) - (I2 84 85)) / r2))) S I2 L2) ∧ (v2 = (3 : Int32) → ¬ r2 = 0 ∧ Q (some (.int (((I2 84 88) - (I2 84 87)) / r2))) S I2 L2)))) ∧ (v2 = (2 : Int32) → Q (some (.int (I1 84 88))) S I1 L1))) ∧ (v2 = (1 : Int32) → Q (some (.int (I1 84 86))) S I1 L1))) ∧ (¬ v2 ≤ (2 : Int32) → ((¬ (I1 84 84) = (1 : Int32) → ((¬ v2 = (1 : Int32) → ((¬ v2 = (2 : Int32) → ZC G mX12_common fX12_common lX12_common [zo G 84, .int ((I1 84 88) - (I1 84 87)), .int ((I1 84 86) - (I1 84 85))] S I1 L1 0 0 (fun w S' I3 L3 => ∃ r3 : Int32, w = some (.int r3) ∧ S = S' ∧ ((¬ v2 = (3 : Int32) → ¬ r3 = 0 ∧ Q (some (.int (((I3 84 86) - (I3 84 85)) / r3))) S I3 L3) ∧ (v2 = (3 : Int32) → ¬ r3 = 0 ∧ Q (some (.int (((I3 84 88) - (I3 84 87)) / r3))) S I3 L3)))) ∧ (v2 = (2 : Int32) → Q (some (.int (I1 84 88))) S I1 L1))) ∧ (v2 = (1 : Int32) → Q (some (.int (I1 84 86))) S I1 L1))) ∧ ((I1 84 84) = (1 : Int32) → Q (some (.int (-1000 : Int32))) S I1 L1))))))) ∧ (v2 = 0 → Q (some (.int (I1 84 84))) S I1 L1)))) ∧ ((p_X12_isIn v2 (0 : Int32) (4 : Int32)) = 0 → Q (some (.int (-1000 : Int32))) S (u2 I 84 0 (0 : Int32)) L))))) : ZW G mX12_leans fX12_leans lX12_leans 0 [zo G 84, .int v1, .int v2, .null] [] S I L bc bs Q := by
  refine zr_aload_n dX12_leans_0 rfl rfl ?_
  refine zr_iconst (v := 0) dX12_leans_1 (by decide) ?_
  refine zr_putI dX12_leans_2 zf_X12_188 rfl (hS.has (a := 84) rfl rfl) rfl rfl ?_
  refine zr_aload_n dX12_leans_5 rfl rfl ?_
  refine zr_iload_n dX12_leans_6 rfl rfl ?_
  refine zr_callV (As := [.int v1]) (fr' := fX12_isTimber) (lo' := lX12_isTimber) (bc' := 0) (bs' := 0) (bcr := bc) (bsr := bs) dX12_leans_7 zs_X12_289 zi_X12_isTimber zcl_12 (hS.has (a := 84) rfl rfl) rfl rfl (Nat.le_of_ble_eq_true rfl) (Nat.le_of_ble_eq_true rfl) (Nat.le_of_ble_eq_true rfl) (Nat.le_refl _) (Nat.le_refl _) ?_
  obtain ⟨hq0, k⟩ := k
  refine sp_X12_isTimber hS hq0 ?_
  show ZW G mX12_leans fX12_leans lX12_leans 10 [zo G 84, .int v1, .int v2, .null] [.int (p_X12_isTimber (u2 I 84 0 (0 : Int32)) v1)] S (u2 I 84 0 (0 : Int32)) L bc bs Q
  refine zr_ifeq (tgt := 23) dX12_leans_10 (by decide) (fun hb => ?_) (fun hb => ?_)
  · have k := k.1 hb
    refine zr_sipush (v := -1000) dX12_leans_23 (by decide) ?_
    exact zr_ireturn dX12_leans_26 rfl rfl k
  · have k := k.2 hb
    refine zr_aload_n dX12_leans_13 rfl rfl ?_
    refine zr_iload_n dX12_leans_14 rfl rfl ?_
    refine zr_iconst (v := 0) dX12_leans_15 (by decide) ?_
    refine zr_iconst (v := 4) dX12_leans_16 (by decide) ?_
    refine zr_callV (As := [.int v2, .int (0 : Int32), .int (4 : Int32)]) (fr' := fX12_isIn) (lo' := lX12_isIn) (bc' := 0) (bs' := 0) (bcr := bc) (bsr := bs) dX12_leans_17 zs_X12_201 zi_X12_isIn zcl_12 (hS.has (a := 84) rfl rfl) rfl rfl (Nat.le_of_ble_eq_true rfl) (Nat.le_of_ble_eq_true rfl) (Nat.le_of_ble_eq_true rfl) (Nat.le_refl _) (Nat.le_refl _) ?_
    refine sp_X12_isIn hS  ?_
    show ZW G mX12_leans fX12_leans lX12_leans 20 [zo G 84, .int v1, .int v2, .null] [.int (p_X12_isIn v2 (0 : Int32) (4 : Int32))] S (u2 I 84 0 (0 : Int32)) L bc bs Q
    refine zr_ifne (tgt := 27) dX12_leans_20 (by decide) (fun hb => ?_) (fun hb => ?_)
    · have k := k.1 hb
      refine zr_aload_n dX12_leans_27 rfl rfl ?_
      refine zr_iload_n dX12_leans_28 rfl rfl ?_
      refine zr_callV (As := [.int v1]) (fr' := fX12_findLeans) (lo' := lX12_findLeans) (bc' := 0) (bs' := 0) (bcr := bc) (bsr := bs) dX12_leans_29 zs_X12_439 zi_X12_findLeans zcl_12 (hS.has (a := 84) rfl rfl) rfl rfl (Nat.le_of_ble_eq_true rfl) (Nat.le_of_ble_eq_true rfl) (Nat.le_of_ble_eq_true rfl) (Nat.le_refl _) (Nat.le_refl _) ?_
      refine ZC.mono (fun w S' I1 L1 k => ?_) k
      obtain ⟨rfl, rfl, k⟩ := k
      show ZW G mX12_leans fX12_leans lX12_leans 32 [zo G 84, .int v1, .int v2, .null] [] S I1 L1 bc bs Q
      refine zr_iload_n dX12_leans_32 rfl rfl ?_
      refine zr_ifne (tgt := 41) dX12_leans_33 (by decide) (fun hb => ?_) (fun hb => ?_)
      · have k := k.1 hb
        refine zr_aload_n dX12_leans_41 rfl rfl ?_
        refine zr_getIv (x := (I1 84 84)) dX12_leans_42 zf_X12_421 rfl (hS.has (a := 84) rfl rfl) rfl ?_
        refine zr_ifeq (tgt := 61) dX12_leans_45 (by decide) (fun hb => ?_) (fun hb => ?_)
        · have k := k.1 hb
          refine zr_sipush (v := -1000) dX12_leans_61 (by decide) ?_
          exact zr_ireturn dX12_leans_64 rfl rfl k
        · have k := k.2 hb
          refine zr_iload_n dX12_leans_48 rfl rfl ?_
          refine zr_iconst (v := 2) dX12_leans_49 (by decide) ?_
          refine zr_icle (tgt := 65) dX12_leans_50 (by decide) (fun hb => ?_) (fun hb => ?_)
          · have k := k.1 hb
            refine zr_iload_n dX12_leans_65 rfl rfl ?_
            refine zr_iconst (v := 1) dX12_leans_66 (by decide) ?_
            refine zr_icne (tgt := 75) dX12_leans_67 (by decide) (fun hb => ?_) (fun hb => ?_)
            · have k := k.1 hb
              refine zr_iload_n dX12_leans_75 rfl rfl ?_
              refine zr_iconst (v := 2) dX12_leans_76 (by decide) ?_
              refine zr_icne (tgt := 85) dX12_leans_77 (by decide) (fun hb => ?_) (fun hb => ?_)
              · have k := k.1 hb
                refine zr_aload_n dX12_leans_85 rfl rfl ?_
                refine zr_aload_n dX12_leans_86 rfl rfl ?_
                refine zr_getIv (x := (I1 84 88)) dX12_leans_87 zf_X12_436 rfl (hS.has (a := 84) rfl rfl) rfl ?_
                refine zr_aload_n dX12_leans_90 rfl rfl ?_
                refine zr_getIv (x := (I1 84 87)) dX12_leans_91 zf_X12_430 rfl (hS.has (a := 84) rfl rfl) rfl ?_
                refine zr_isub dX12_leans_94 ?_
                refine zr_aload_n dX12_leans_95 rfl rfl ?_
                refine zr_getIv (x := (I1 84 86)) dX12_leans_96 zf_X12_433 rfl (hS.has (a := 84) rfl rfl) rfl ?_
                refine zr_aload_n dX12_leans_99 rfl rfl ?_
                refine zr_getIv (x := (I1 84 85)) dX12_leans_100 zf_X12_427 rfl (hS.has (a := 84) rfl rfl) rfl ?_
                refine zr_isub dX12_leans_103 ?_
                refine zr_callV (As := [.int ((I1 84 88) - (I1 84 87)), .int ((I1 84 86) - (I1 84 85))]) (fr' := fX12_common) (lo' := lX12_common) (bc' := 0) (bs' := 0) (bcr := bc) (bsr := bs) dX12_leans_104 zs_X12_442 zi_X12_common zcl_12 (hS.has (a := 84) rfl rfl) rfl rfl (Nat.le_of_ble_eq_true rfl) (Nat.le_of_ble_eq_true rfl) (Nat.le_of_ble_eq_true rfl) (Nat.le_refl _) (Nat.le_refl _) ?_
                refine ZC.mono (fun w S' I2 L2 k => ?_) k
                obtain ⟨r2, rfl, rfl, k⟩ := k
                show ZW G mX12_leans fX12_leans lX12_leans 107 [zo G 84, .int v1, .int v2, .null] [.int r2] S I2 L2 bc bs Q
                refine zr_istore_n dX12_leans_107 rfl (Nat.le_of_ble_eq_true rfl) rfl ?_
                refine zr_iload_n dX12_leans_108 rfl rfl ?_
                refine zr_iconst (v := 3) dX12_leans_109 (by decide) ?_
                refine zr_icne (tgt := 127) dX12_leans_110 (by decide) (fun hb => ?_) (fun hb => ?_)
                · have k := k.1 hb
                  refine zr_aload_n dX12_leans_127 rfl rfl ?_
                  refine zr_getIv (x := (I2 84 86)) dX12_leans_128 zf_X12_433 rfl (hS.has (a := 84) rfl rfl) rfl ?_
                  refine zr_aload_n dX12_leans_131 rfl rfl ?_
                  refine zr_getIv (x := (I2 84 85)) dX12_leans_132 zf_X12_427 rfl (hS.has (a := 84) rfl rfl) rfl ?_
                  refine zr_isub dX12_leans_135 ?_
                  refine zr_iload_n dX12_leans_136 rfl rfl ?_
                  obtain ⟨hc, k⟩ := k
                  refine zr_idiv dX12_leans_137 hc ?_
                  exact zr_ireturn dX12_leans_138 rfl rfl k
                · have k := k.2 hb
                  refine zr_aload_n dX12_leans_113 rfl rfl ?_
                  refine zr_getIv (x := (I2 84 88)) dX12_leans_114 zf_X12_436 rfl (hS.has (a := 84) rfl rfl) rfl ?_
                  refine zr_aload_n dX12_leans_117 rfl rfl ?_
                  refine zr_getIv (x := (I2 84 87)) dX12_leans_118 zf_X12_430 rfl (hS.has (a := 84) rfl rfl) rfl ?_
                  refine zr_isub dX12_leans_121 ?_
                  refine zr_iload_n dX12_leans_122 rfl rfl ?_
                  obtain ⟨hc, k⟩ := k
                  refine zr_idiv dX12_leans_123 hc ?_
                  refine zr_goto (tgt := 138) dX12_leans_124 (by decide) ?_
                  exact zr_ireturn dX12_leans_138 rfl rfl k
              · have k := k.2 hb
                refine zr_aload_n dX12_leans_80 rfl rfl ?_
                refine zr_getIv (x := (I1 84 88)) dX12_leans_81 zf_X12_436 rfl (hS.has (a := 84) rfl rfl) rfl ?_
                exact zr_ireturn dX12_leans_84 rfl rfl k
            · have k := k.2 hb
              refine zr_aload_n dX12_leans_70 rfl rfl ?_
              refine zr_getIv (x := (I1 84 86)) dX12_leans_71 zf_X12_433 rfl (hS.has (a := 84) rfl rfl) rfl ?_
              exact zr_ireturn dX12_leans_74 rfl rfl k
          · have k := k.2 hb
            refine zr_aload_n dX12_leans_53 rfl rfl ?_
            refine zr_getIv (x := (I1 84 84)) dX12_leans_54 zf_X12_421 rfl (hS.has (a := 84) rfl rfl) rfl ?_
            refine zr_iconst (v := 1) dX12_leans_57 (by decide) ?_
            refine zr_icne (tgt := 65) dX12_leans_58 (by decide) (fun hb => ?_) (fun hb => ?_)
            · have k := k.1 hb
              refine zr_iload_n dX12_leans_65 rfl rfl ?_
              refine zr_iconst (v := 1) dX12_leans_66 (by decide) ?_
              refine zr_icne (tgt := 75) dX12_leans_67 (by decide) (fun hb => ?_) (fun hb => ?_)
              · have k := k.1 hb
                refine zr_iload_n dX12_leans_75 rfl rfl ?_
                refine zr_iconst (v := 2) dX12_leans_76 (by decide) ?_
                refine zr_icne (tgt := 85) dX12_leans_77 (by decide) (fun hb => ?_) (fun hb => ?_)
                · have k := k.1 hb
                  refine zr_aload_n dX12_leans_85 rfl rfl ?_
                  refine zr_aload_n dX12_leans_86 rfl rfl ?_
                  refine zr_getIv (x := (I1 84 88)) dX12_leans_87 zf_X12_436 rfl (hS.has (a := 84) rfl rfl) rfl ?_
                  refine zr_aload_n dX12_leans_90 rfl rfl ?_
                  refine zr_getIv (x := (I1 84 87)) dX12_leans_91 zf_X12_430 rfl (hS.has (a := 84) rfl rfl) rfl ?_
                  refine zr_isub dX12_leans_94 ?_
                  refine zr_aload_n dX12_leans_95 rfl rfl ?_
                  refine zr_getIv (x := (I1 84 86)) dX12_leans_96 zf_X12_433 rfl (hS.has (a := 84) rfl rfl) rfl ?_
                  refine zr_aload_n dX12_leans_99 rfl rfl ?_
                  refine zr_getIv (x := (I1 84 85)) dX12_leans_100 zf_X12_427 rfl (hS.has (a := 84) rfl rfl) rfl ?_
                  refine zr_isub dX12_leans_103 ?_
                  refine zr_callV (As := [.int ((I1 84 88) - (I1 84 87)), .int ((I1 84 86) - (I1 84 85))]) (fr' := fX12_common) (lo' := lX12_common) (bc' := 0) (bs' := 0) (bcr := bc) (bsr := bs) dX12_leans_104 zs_X12_442 zi_X12_common zcl_12 (hS.has (a := 84) rfl rfl) rfl rfl (Nat.le_of_ble_eq_true rfl) (Nat.le_of_ble_eq_true rfl) (Nat.le_of_ble_eq_true rfl) (Nat.le_refl _) (Nat.le_refl _) ?_
                  refine ZC.mono (fun w S' I3 L3 k => ?_) k
                  obtain ⟨r3, rfl, rfl, k⟩ := k
                  show ZW G mX12_leans fX12_leans lX12_leans 107 [zo G 84, .int v1, .int v2, .null] [.int r3] S I3 L3 bc bs Q
                  refine zr_istore_n dX12_leans_107 rfl (Nat.le_of_ble_eq_true rfl) rfl ?_
                  refine zr_iload_n dX12_leans_108 rfl rfl ?_
                  refine zr_iconst (v := 3) dX12_leans_109 (by decide) ?_
                  refine zr_icne (tgt := 127) dX12_leans_110 (by decide) (fun hb => ?_) (fun hb => ?_)
                  · have k := k.1 hb
                    refine zr_aload_n dX12_leans_127 rfl rfl ?_
                    refine zr_getIv (x := (I3 84 86)) dX12_leans_128 zf_X12_433 rfl (hS.has (a := 84) rfl rfl) rfl ?_
                    refine zr_aload_n dX12_leans_131 rfl rfl ?_
                    refine zr_getIv (x := (I3 84 85)) dX12_leans_132 zf_X12_427 rfl (hS.has (a := 84) rfl rfl) rfl ?_
                    refine zr_isub dX12_leans_135 ?_
                    refine zr_iload_n dX12_leans_136 rfl rfl ?_
                    obtain ⟨hc, k⟩ := k
                    refine zr_idiv dX12_leans_137 hc ?_
                    exact zr_ireturn dX12_leans_138 rfl rfl k
                  · have k := k.2 hb
                    refine zr_aload_n dX12_leans_113 rfl rfl ?_
                    refine zr_getIv (x := (I3 84 88)) dX12_leans_114 zf_X12_436 rfl (hS.has (a := 84) rfl rfl) rfl ?_
                    refine zr_aload_n dX12_leans_117 rfl rfl ?_
                    refine zr_getIv (x := (I3 84 87)) dX12_leans_118 zf_X12_430 rfl (hS.has (a := 84) rfl rfl) rfl ?_
                    refine zr_isub dX12_leans_121 ?_
                    refine zr_iload_n dX12_leans_122 rfl rfl ?_
                    obtain ⟨hc, k⟩ := k
                    refine zr_idiv dX12_leans_123 hc ?_
                    refine zr_goto (tgt := 138) dX12_leans_124 (by decide) ?_
                    exact zr_ireturn dX12_leans_138 rfl rfl k
                · have k := k.2 hb
                  refine zr_aload_n dX12_leans_80 rfl rfl ?_
                  refine zr_getIv (x := (I1 84 88)) dX12_leans_81 zf_X12_436 rfl (hS.has (a := 84) rfl rfl) rfl ?_
                  exact zr_ireturn dX12_leans_84 rfl rfl k
              · have k := k.2 hb
                refine zr_aload_n dX12_leans_70 rfl rfl ?_
                refine zr_getIv (x := (I1 84 86)) dX12_leans_71 zf_X12_433 rfl (hS.has (a := 84) rfl rfl) rfl ?_
                exact zr_ireturn dX12_leans_74 rfl rfl k
            · have k := k.2 hb
              refine zr_sipush (v := -1000) dX12_leans_61 (by decide) ?_
              exact zr_ireturn dX12_leans_64 rfl rfl k
      · have k := k.2 hb
        refine zr_aload_n dX12_leans_36 rfl rfl ?_
        refine zr_getIv (x := (I1 84 84)) dX12_leans_37 zf_X12_421 rfl (hS.has (a := 84) rfl rfl) rfl ?_
        exact zr_ireturn dX12_leans_40 rfl rfl k
    · have k := k.2 hb
      refine zr_sipush (v := -1000) dX12_leans_23 (by decide) ?_
      exact zr_ireturn dX12_leans_26 rfl rfl k
set_option maxHeartbeats 2000000 in
theorem vX12_falls_0 {G : Gp} {bc bs : Nat} {Q : zPost} {S : zSh} {I : zFI} {L : zFL} {v1 : Int32} {v2 : Int32} (hS : zStd S)  (k : (¬ v1 < 0 → ¬ ((u2 I 84 0 (0 : Int32)) 84 3) ≤ v1 → vp_in v1 16) ∧ (((p_X12_isTimber (u2 I 84 0 (0 : Int32)) v1) = 0 → Q (some (.int (-1 : Int32))) S (u2 I 84 0 (0 : Int32)) L) ∧ (¬ (p_X12_isTimber (u2 I 84 0 (0 : Int32)) v1) = 0 → ((¬ (p_X12_isIn v2 (0 : Int32) (999 : Int32)) = 0 → ZC G mX12_findLeans fX12_findLeans lX12_findLeans [zo G 84, .int v1] S (u2 I 84 0 (0 : Int32)) L 0 0 (fun w S' I1 L1 => w = none ∧ S = S' ∧ (((2 : Int32) ≤ (I1 84 84) → ZW G mX12_falls fX12_falls lX12_falls 58 [zo G 84, .int v1, .int v2, .int ((I1 84 86) - (I1 84 85)), .int (I1 84 86), .null] [] S I1 L1 bc bs Q) ∧ (¬ (2 : Int32) ≤ (I1 84 84) → Q (some (.int (-1 : Int32))) S I1 L1)))) ∧ ((p_X12_isIn v2 (0 : Int32) (999 : Int32)) = 0 → Q (some (.int (-1 : Int32))) S (u2 I 84 0 (0 : Int32)) L))))) : ZW G mX12_falls fX12_falls lX12_falls 0 [zo G 84, .int v1, .int v2, .null, .null, .null] [] S I L bc bs Q := by
  refine zr_aload_n dX12_falls_0 rfl rfl ?_
  refine zr_iconst (v := 0) dX12_falls_1 (by decide) ?_
  refine zr_putI dX12_falls_2 zf_X12_188 rfl (hS.has (a := 84) rfl rfl) rfl rfl ?_
  refine zr_aload_n dX12_falls_5 rfl rfl ?_
  refine zr_iload_n dX12_falls_6 rfl rfl ?_
  refine zr_callV (As := [.int v1]) (fr' := fX12_isTimber) (lo' := lX12_isTimber) (bc' := 0) (bs' := 0) (bcr := bc) (bsr := bs) dX12_falls_7 zs_X12_289 zi_X12_isTimber zcl_12 (hS.has (a := 84) rfl rfl) rfl rfl (Nat.le_of_ble_eq_true rfl) (Nat.le_of_ble_eq_true rfl) (Nat.le_of_ble_eq_true rfl) (Nat.le_refl _) (Nat.le_refl _) ?_
  obtain ⟨hq0, k⟩ := k
  refine sp_X12_isTimber hS hq0 ?_
  show ZW G mX12_falls fX12_falls lX12_falls 10 [zo G 84, .int v1, .int v2, .null, .null, .null] [.int (p_X12_isTimber (u2 I 84 0 (0 : Int32)) v1)] S (u2 I 84 0 (0 : Int32)) L bc bs Q
  refine zr_ifeq (tgt := 25) dX12_falls_10 (by decide) (fun hb => ?_) (fun hb => ?_)
  · have k := k.1 hb
    refine zr_iconst (v := -1) dX12_falls_25 (by decide) ?_
    exact zr_ireturn dX12_falls_26 rfl rfl k
  · have k := k.2 hb
    refine zr_aload_n dX12_falls_13 rfl rfl ?_
    refine zr_iload_n dX12_falls_14 rfl rfl ?_
    refine zr_iconst (v := 0) dX12_falls_15 (by decide) ?_
    refine zr_sipush (v := 999) dX12_falls_16 (by decide) ?_
    refine zr_callV (As := [.int v2, .int (0 : Int32), .int (999 : Int32)]) (fr' := fX12_isIn) (lo' := lX12_isIn) (bc' := 0) (bs' := 0) (bcr := bc) (bsr := bs) dX12_falls_19 zs_X12_201 zi_X12_isIn zcl_12 (hS.has (a := 84) rfl rfl) rfl rfl (Nat.le_of_ble_eq_true rfl) (Nat.le_of_ble_eq_true rfl) (Nat.le_of_ble_eq_true rfl) (Nat.le_refl _) (Nat.le_refl _) ?_
    refine sp_X12_isIn hS  ?_
    show ZW G mX12_falls fX12_falls lX12_falls 22 [zo G 84, .int v1, .int v2, .null, .null, .null] [.int (p_X12_isIn v2 (0 : Int32) (999 : Int32))] S (u2 I 84 0 (0 : Int32)) L bc bs Q
    refine zr_ifne (tgt := 27) dX12_falls_22 (by decide) (fun hb => ?_) (fun hb => ?_)
    · have k := k.1 hb
      refine zr_aload_n dX12_falls_27 rfl rfl ?_
      refine zr_iload_n dX12_falls_28 rfl rfl ?_
      refine zr_callV (As := [.int v1]) (fr' := fX12_findLeans) (lo' := lX12_findLeans) (bc' := 0) (bs' := 0) (bcr := bc) (bsr := bs) dX12_falls_29 zs_X12_439 zi_X12_findLeans zcl_12 (hS.has (a := 84) rfl rfl) rfl rfl (Nat.le_of_ble_eq_true rfl) (Nat.le_of_ble_eq_true rfl) (Nat.le_of_ble_eq_true rfl) (Nat.le_refl _) (Nat.le_refl _) ?_
      refine ZC.mono (fun w S' I1 L1 k => ?_) k
      obtain ⟨rfl, rfl, k⟩ := k
      show ZW G mX12_falls fX12_falls lX12_falls 32 [zo G 84, .int v1, .int v2, .null, .null, .null] [] S I1 L1 bc bs Q
      refine zr_aload_n dX12_falls_32 rfl rfl ?_
      refine zr_getIv (x := (I1 84 84)) dX12_falls_33 zf_X12_421 rfl (hS.has (a := 84) rfl rfl) rfl ?_
      refine zr_iconst (v := 2) dX12_falls_36 (by decide) ?_
      refine zr_icge (tgt := 42) dX12_falls_37 (by decide) (fun hb => ?_) (fun hb => ?_)
      · have k := k.1 hb
        refine zr_aload_n dX12_falls_42 rfl rfl ?_
        refine zr_getIv (x := (I1 84 86)) dX12_falls_43 zf_X12_433 rfl (hS.has (a := 84) rfl rfl) rfl ?_
        refine zr_aload_n dX12_falls_46 rfl rfl ?_
        refine zr_getIv (x := (I1 84 85)) dX12_falls_47 zf_X12_427 rfl (hS.has (a := 84) rfl rfl) rfl ?_
        refine zr_isub dX12_falls_50 ?_
        refine zr_istore_n dX12_falls_51 rfl (Nat.le_of_ble_eq_true rfl) rfl ?_
        refine zr_aload_n dX12_falls_52 rfl rfl ?_
        refine zr_getIv (x := (I1 84 86)) dX12_falls_53 zf_X12_433 rfl (hS.has (a := 84) rfl rfl) rfl ?_
        refine zr_istore dX12_falls_56 (Nat.le_of_ble_eq_true rfl) rfl ?_
        exact k
      · have k := k.2 hb
        refine zr_iconst (v := -1) dX12_falls_40 (by decide) ?_
        exact zr_ireturn dX12_falls_41 rfl rfl k
    · have k := k.2 hb
      refine zr_iconst (v := -1) dX12_falls_25 (by decide) ?_
      exact zr_ireturn dX12_falls_26 rfl rfl k
set_option maxHeartbeats 2000000 in
theorem vX12_falls_58 {G : Gp} {bc bs : Nat} {Q : zPost} {S : zSh} {I : zFI} {L : zFL} {v1 : Int32} {v2 : Int32} {v3 : Int32} {v4 : Int32} (hS : zStd S)  (k : (((10000 : Int32) ≤ v4 → Q (some (.int (-1 : Int32))) S I L) ∧ (¬ (10000 : Int32) ≤ v4 → (((v2 * v3) < (((I 84 88) * v3) + (((I 84 88) - (I 84 87)) * (v4 - (I 84 86)))) → Q (some (.int v4)) S I L) ∧ (¬ (v2 * v3) < (((I 84 88) * v3) + (((I 84 88) - (I 84 87)) * (v4 - (I 84 86)))) → ((((-v2) * v3) ≤ (((I 84 88) * v3) + (((I 84 88) - (I 84 87)) * (v4 - (I 84 86)))) → ZW G mX12_falls fX12_falls lX12_falls 58 [zo G 84, .int v1, .int v2, .int v3, .int (v4 + 1), .null] [] S I L bc bs Q) ∧ (¬ ((-v2) * v3) ≤ (((I 84 88) * v3) + (((I 84 88) - (I 84 87)) * (v4 - (I 84 86)))) → Q (some (.int v4)) S I L))))))) : ZW G mX12_falls fX12_falls lX12_falls 58 [zo G 84, .int v1, .int v2, .int v3, .int v4, .null] [] S I L bc bs Q := by
  refine zr_iload dX12_falls_58 rfl ?_
  refine zr_sipush (v := 10000) dX12_falls_60 (by decide) ?_
  refine zr_icge (tgt := 118) dX12_falls_63 (by decide) (fun hb => ?_) (fun hb => ?_)
  · have k := k.1 hb
    refine zr_iconst (v := -1) dX12_falls_118 (by decide) ?_
    exact zr_ireturn dX12_falls_119 rfl rfl k
  · have k := k.2 hb
    refine zr_aload_n dX12_falls_66 rfl rfl ?_
    refine zr_getIv (x := (I 84 88)) dX12_falls_67 zf_X12_436 rfl (hS.has (a := 84) rfl rfl) rfl ?_
    refine zr_iload_n dX12_falls_70 rfl rfl ?_
    refine zr_imul dX12_falls_71 ?_
    refine zr_aload_n dX12_falls_72 rfl rfl ?_
    refine zr_getIv (x := (I 84 88)) dX12_falls_73 zf_X12_436 rfl (hS.has (a := 84) rfl rfl) rfl ?_
    refine zr_aload_n dX12_falls_76 rfl rfl ?_
    refine zr_getIv (x := (I 84 87)) dX12_falls_77 zf_X12_430 rfl (hS.has (a := 84) rfl rfl) rfl ?_
    refine zr_isub dX12_falls_80 ?_
    refine zr_iload dX12_falls_81 rfl ?_
    refine zr_aload_n dX12_falls_83 rfl rfl ?_
    refine zr_getIv (x := (I 84 86)) dX12_falls_84 zf_X12_433 rfl (hS.has (a := 84) rfl rfl) rfl ?_
    refine zr_isub dX12_falls_87 ?_
    refine zr_imul dX12_falls_88 ?_
    refine zr_iadd dX12_falls_89 ?_
    refine zr_istore dX12_falls_90 (Nat.le_of_ble_eq_true rfl) rfl ?_
    refine zr_iload dX12_falls_92 rfl ?_
    refine zr_iload_n dX12_falls_94 rfl rfl ?_
    refine zr_iload_n dX12_falls_95 rfl rfl ?_
    refine zr_imul dX12_falls_96 ?_
    refine zr_icgt (tgt := 109) dX12_falls_97 (by decide) (fun hb => ?_) (fun hb => ?_)
    · have k := k.1 hb
      refine zr_iload dX12_falls_109 rfl ?_
      exact zr_ireturn dX12_falls_111 rfl rfl k
    · have k := k.2 hb
      refine zr_iload dX12_falls_100 rfl ?_
      refine zr_iload_n dX12_falls_102 rfl rfl ?_
      refine zr_ineg dX12_falls_103 ?_
      refine zr_iload_n dX12_falls_104 rfl rfl ?_
      refine zr_imul dX12_falls_105 ?_
      refine zr_icge (tgt := 112) dX12_falls_106 (by decide) (fun hb => ?_) (fun hb => ?_)
      · have k := k.1 hb
        refine zr_iinc (v := (v4 + 1)) dX12_falls_112 rfl rfl (Nat.le_of_ble_eq_true rfl) rfl ?_
        refine zr_goto (tgt := 58) dX12_falls_115 (by decide) ?_
        exact zr_mask [true, true, true, true, true, false] rfl k
      · have k := k.2 hb
        refine zr_iload dX12_falls_109 rfl ?_
        exact zr_ireturn dX12_falls_111 rfl rfl k
set_option maxHeartbeats 2000000 in
theorem vX12_look_0 {G : Gp} {bc bs : Nat} {Q : zPost} {S : zSh} {I : zFI} {L : zFL} {v1 : Int32} (hS : zStd S)  (k : ((¬ v1 = 0 → ((¬ v1 = (1 : Int32) → ((¬ v1 = (2 : Int32) → ((¬ v1 = (3 : Int32) → ((¬ (p_X12_isIn v1 (4 : Int32) (6 : Int32)) = 0 → ZC G mX12_findJoins fX12_findJoins lX12_findJoins [zo G 84, .int (1 : Int32)] S (u2 I 84 0 (0 : Int32)) L 0 0 (fun w S' I1 L1 => w = none ∧ S = S' ∧ ((v1 ≤ (4 : Int32) → ZW G mX12_look fX12_look lX12_look 199 [zo G 84, .int v1, .int (0 : Int32), .int (0 : Int32), .int (0 : Int32), .int (0 : Int32)] [] S I1 L1 bc bs Q) ∧ (¬ v1 ≤ (4 : Int32) → ZW G mX12_look fX12_look lX12_look 121 [zo G 84, .int v1, .int (0 : Int32), .int (0 : Int32), .null, .null] [] S I1 L1 bc bs Q)))) ∧ ((p_X12_isIn v1 (4 : Int32) (6 : Int32)) = 0 → Q (some (.int (-1 : Int32))) S (u2 I 84 0 (0 : Int32)) L))) ∧ (v1 = (3 : Int32) → ZW G mX12_look fX12_look lX12_look 68 [zo G 84, .int v1, .int (0 : Int32), .int (0 : Int32), .null, .null] [] S (u2 I 84 0 (0 : Int32)) L bc bs Q))) ∧ (v1 = (2 : Int32) → ZW G mX12_look fX12_look lX12_look 33 [zo G 84, .int v1, .int (0 : Int32), .int (0 : Int32), .null, .null] [] S (u2 I 84 0 (0 : Int32)) L bc bs Q))) ∧ (v1 = (1 : Int32) → Q (some (.int (I 84 2))) S (u2 I 84 0 (0 : Int32)) L))) ∧ (v1 = 0 → Q (some (.int (I 84 1))) S (u2 I 84 0 (0 : Int32)) L))) : ZW G mX12_look fX12_look lX12_look 0 [zo G 84, .int v1, .null, .null, .null, .null] [] S I L bc bs Q := by
  refine zr_aload_n dX12_look_0 rfl rfl ?_
  refine zr_iconst (v := 0) dX12_look_1 (by decide) ?_
  refine zr_putI dX12_look_2 zf_X12_188 rfl (hS.has (a := 84) rfl rfl) rfl rfl ?_
  refine zr_iload_n dX12_look_5 rfl rfl ?_
  refine zr_ifne (tgt := 14) dX12_look_6 (by decide) (fun hb => ?_) (fun hb => ?_)
  · have k := k.1 hb
    refine zr_iload_n dX12_look_14 rfl rfl ?_
    refine zr_iconst (v := 1) dX12_look_15 (by decide) ?_
    refine zr_icne (tgt := 24) dX12_look_16 (by decide) (fun hb => ?_) (fun hb => ?_)
    · have k := k.1 hb
      refine zr_iconst (v := 0) dX12_look_24 (by decide) ?_
      refine zr_istore_n dX12_look_25 rfl (Nat.le_of_ble_eq_true rfl) rfl ?_
      refine zr_iload_n dX12_look_26 rfl rfl ?_
      refine zr_iconst (v := 2) dX12_look_27 (by decide) ?_
      refine zr_icne (tgt := 61) dX12_look_28 (by decide) (fun hb => ?_) (fun hb => ?_)
      · have k := k.1 hb
        refine zr_iload_n dX12_look_61 rfl rfl ?_
        refine zr_iconst (v := 3) dX12_look_62 (by decide) ?_
        refine zr_icne (tgt := 96) dX12_look_63 (by decide) (fun hb => ?_) (fun hb => ?_)
        · have k := k.1 hb
          refine zr_aload_n dX12_look_96 rfl rfl ?_
          refine zr_iload_n dX12_look_97 rfl rfl ?_
          refine zr_iconst (v := 4) dX12_look_98 (by decide) ?_
          refine zr_bipush (v := 6) dX12_look_99 (by decide) ?_
          refine zr_callV (As := [.int v1, .int (4 : Int32), .int (6 : Int32)]) (fr' := fX12_isIn) (lo' := lX12_isIn) (bc' := 0) (bs' := 0) (bcr := bc) (bsr := bs) dX12_look_101 zs_X12_201 zi_X12_isIn zcl_12 (hS.has (a := 84) rfl rfl) rfl rfl (Nat.le_of_ble_eq_true rfl) (Nat.le_of_ble_eq_true rfl) (Nat.le_of_ble_eq_true rfl) (Nat.le_refl _) (Nat.le_refl _) ?_
          refine sp_X12_isIn hS  ?_
          show ZW G mX12_look fX12_look lX12_look 104 [zo G 84, .int v1, .int (0 : Int32), .null, .null, .null] [.int (p_X12_isIn v1 (4 : Int32) (6 : Int32))] S (u2 I 84 0 (0 : Int32)) L bc bs Q
          refine zr_ifne (tgt := 109) dX12_look_104 (by decide) (fun hb => ?_) (fun hb => ?_)
          · have k := k.1 hb
            refine zr_aload_n dX12_look_109 rfl rfl ?_
            refine zr_iconst (v := 1) dX12_look_110 (by decide) ?_
            refine zr_callV (As := [.int (1 : Int32)]) (fr' := fX12_findJoins) (lo' := lX12_findJoins) (bc' := 0) (bs' := 0) (bcr := bc) (bsr := bs) dX12_look_111 zs_X12_360 zi_X12_findJoins zcl_12 (hS.has (a := 84) rfl rfl) rfl rfl (Nat.le_of_ble_eq_true rfl) (Nat.le_of_ble_eq_true rfl) (Nat.le_of_ble_eq_true rfl) (Nat.le_refl _) (Nat.le_refl _) ?_
            refine ZC.mono (fun w S' I1 L1 k => ?_) k
            obtain ⟨rfl, rfl, k⟩ := k
            show ZW G mX12_look fX12_look lX12_look 114 [zo G 84, .int v1, .int (0 : Int32), .null, .null, .null] [] S I1 L1 bc bs Q
            refine zr_iload_n dX12_look_114 rfl rfl ?_
            refine zr_iconst (v := 4) dX12_look_115 (by decide) ?_
            refine zr_icle (tgt := 191) dX12_look_116 (by decide) (fun hb => ?_) (fun hb => ?_)
            · have k := k.1 hb
              refine zr_iconst (v := 0) dX12_look_191 (by decide) ?_
              refine zr_istore_n dX12_look_192 rfl (Nat.le_of_ble_eq_true rfl) rfl ?_
              refine zr_iconst (v := 0) dX12_look_193 (by decide) ?_
              refine zr_istore dX12_look_194 (Nat.le_of_ble_eq_true rfl) rfl ?_
              refine zr_iconst (v := 0) dX12_look_196 (by decide) ?_
              refine zr_istore dX12_look_197 (Nat.le_of_ble_eq_true rfl) rfl ?_
              exact k
            · have k := k.2 hb
              refine zr_iconst (v := 0) dX12_look_119 (by decide) ?_
              refine zr_istore_n dX12_look_120 rfl (Nat.le_of_ble_eq_true rfl) rfl ?_
              exact k
          · have k := k.2 hb
            refine zr_iconst (v := -1) dX12_look_107 (by decide) ?_
            exact zr_ireturn dX12_look_108 rfl rfl k
        · have k := k.2 hb
          refine zr_iconst (v := 0) dX12_look_66 (by decide) ?_
          refine zr_istore_n dX12_look_67 rfl (Nat.le_of_ble_eq_true rfl) rfl ?_
          exact k
      · have k := k.2 hb
        refine zr_iconst (v := 0) dX12_look_31 (by decide) ?_
        refine zr_istore_n dX12_look_32 rfl (Nat.le_of_ble_eq_true rfl) rfl ?_
        exact k
    · have k := k.2 hb
      refine zr_aload_n dX12_look_19 rfl rfl ?_
      refine zr_getIv (x := (I 84 2)) dX12_look_20 zf_X12_9 rfl (hS.has (a := 84) rfl rfl) rfl ?_
      exact zr_ireturn dX12_look_23 rfl rfl k
  · have k := k.2 hb
    refine zr_aload_n dX12_look_9 rfl rfl ?_
    refine zr_getIv (x := (I 84 1)) dX12_look_10 zf_X12_205 rfl (hS.has (a := 84) rfl rfl) rfl ?_
    exact zr_ireturn dX12_look_13 rfl rfl k
set_option maxHeartbeats 2000000 in
theorem vX12_look_33 {G : Gp} {bc bs : Nat} {Q : zPost} {S : zSh} {I : zFI} {L : zFL} {v1 : Int32} {v2 : Int32} {v3 : Int32} (hS : zStd S)  (k : (((I 84 3) ≤ v3 → Q (some (.int v2)) S I L) ∧ (¬ (I 84 3) ≤ v3 → (¬ v3 < 0 → ¬ (I 84 3) ≤ v3 → vp_in v3 16) ∧ (((p_X12_isTimber I v3) = 0 → ZW G mX12_look fX12_look lX12_look 33 [zo G 84, .int v1, .int v2, .int (v3 + 1), .null, .null] [] S I L bc bs Q) ∧ (¬ (p_X12_isTimber I v3) = 0 → ZW G mX12_look fX12_look lX12_look 33 [zo G 84, .int v1, .int (v2 + (1 : Int32)), .int (v3 + 1), .null, .null] [] S I L bc bs Q))))) : ZW G mX12_look fX12_look lX12_look 33 [zo G 84, .int v1, .int v2, .int v3, .null, .null] [] S I L bc bs Q := by
  refine zr_iload_n dX12_look_33 rfl rfl ?_
  refine zr_aload_n dX12_look_34 rfl rfl ?_
  refine zr_getIv (x := (I 84 3)) dX12_look_35 zf_X12_191 rfl (hS.has (a := 84) rfl rfl) rfl ?_
  refine zr_icge (tgt := 59) dX12_look_38 (by decide) (fun hb => ?_) (fun hb => ?_)
  · have k := k.1 hb
    refine zr_iload_n dX12_look_59 rfl rfl ?_
    exact zr_ireturn dX12_look_60 rfl rfl k
  · have k := k.2 hb
    refine zr_aload_n dX12_look_41 rfl rfl ?_
    refine zr_iload_n dX12_look_42 rfl rfl ?_
    refine zr_callV (As := [.int v3]) (fr' := fX12_isTimber) (lo' := lX12_isTimber) (bc' := 0) (bs' := 0) (bcr := bc) (bsr := bs) dX12_look_43 zs_X12_289 zi_X12_isTimber zcl_12 (hS.has (a := 84) rfl rfl) rfl rfl (Nat.le_of_ble_eq_true rfl) (Nat.le_of_ble_eq_true rfl) (Nat.le_of_ble_eq_true rfl) (Nat.le_refl _) (Nat.le_refl _) ?_
    obtain ⟨hq0, k⟩ := k
    refine sp_X12_isTimber hS hq0 ?_
    show ZW G mX12_look fX12_look lX12_look 46 [zo G 84, .int v1, .int v2, .int v3, .null, .null] [.int (p_X12_isTimber I v3)] S I L bc bs Q
    refine zr_ifeq (tgt := 53) dX12_look_46 (by decide) (fun hb => ?_) (fun hb => ?_)
    · have k := k.1 hb
      refine zr_iinc (v := (v3 + 1)) dX12_look_53 rfl rfl (Nat.le_of_ble_eq_true rfl) rfl ?_
      refine zr_goto (tgt := 33) dX12_look_56 (by decide) ?_
      exact k
    · have k := k.2 hb
      refine zr_iload_n dX12_look_49 rfl rfl ?_
      refine zr_iconst (v := 1) dX12_look_50 (by decide) ?_
      refine zr_iadd dX12_look_51 ?_
      refine zr_istore_n dX12_look_52 rfl (Nat.le_of_ble_eq_true rfl) rfl ?_
      refine zr_iinc (v := (v3 + 1)) dX12_look_53 rfl rfl (Nat.le_of_ble_eq_true rfl) rfl ?_
      refine zr_goto (tgt := 33) dX12_look_56 (by decide) ?_
      exact k
set_option maxHeartbeats 2000000 in
theorem vX12_look_68 {G : Gp} {bc bs : Nat} {Q : zPost} {S : zSh} {I : zFI} {L : zFL} {v1 : Int32} {v2 : Int32} {v3 : Int32} (hS : zStd S)  (k : (((I 84 13) ≤ v3 → Q (some (.int v2)) S I L) ∧ (¬ (I 84 13) ≤ v3 → (¬ v3 < 0 → ¬ (I 84 13) ≤ v3 → vp_in v3 48) ∧ (((p_X12_isJoint I v3) = 0 → ZW G mX12_look fX12_look lX12_look 68 [zo G 84, .int v1, .int v2, .int (v3 + 1), .null, .null] [] S I L bc bs Q) ∧ (¬ (p_X12_isJoint I v3) = 0 → ZW G mX12_look fX12_look lX12_look 68 [zo G 84, .int v1, .int (v2 + (1 : Int32)), .int (v3 + 1), .null, .null] [] S I L bc bs Q))))) : ZW G mX12_look fX12_look lX12_look 68 [zo G 84, .int v1, .int v2, .int v3, .null, .null] [] S I L bc bs Q := by
  refine zr_iload_n dX12_look_68 rfl rfl ?_
  refine zr_aload_n dX12_look_69 rfl rfl ?_
  refine zr_getIv (x := (I 84 13)) dX12_look_70 zf_X12_198 rfl (hS.has (a := 84) rfl rfl) rfl ?_
  refine zr_icge (tgt := 94) dX12_look_73 (by decide) (fun hb => ?_) (fun hb => ?_)
  · have k := k.1 hb
    refine zr_iload_n dX12_look_94 rfl rfl ?_
    exact zr_ireturn dX12_look_95 rfl rfl k
  · have k := k.2 hb
    refine zr_aload_n dX12_look_76 rfl rfl ?_
    refine zr_iload_n dX12_look_77 rfl rfl ?_
    refine zr_callV (As := [.int v3]) (fr' := fX12_isJoint) (lo' := lX12_isJoint) (bc' := 0) (bs' := 0) (bcr := bc) (bsr := bs) dX12_look_78 zs_X12_286 zi_X12_isJoint zcl_12 (hS.has (a := 84) rfl rfl) rfl rfl (Nat.le_of_ble_eq_true rfl) (Nat.le_of_ble_eq_true rfl) (Nat.le_of_ble_eq_true rfl) (Nat.le_refl _) (Nat.le_refl _) ?_
    obtain ⟨hq0, k⟩ := k
    refine sp_X12_isJoint hS hq0 ?_
    show ZW G mX12_look fX12_look lX12_look 81 [zo G 84, .int v1, .int v2, .int v3, .null, .null] [.int (p_X12_isJoint I v3)] S I L bc bs Q
    refine zr_ifeq (tgt := 88) dX12_look_81 (by decide) (fun hb => ?_) (fun hb => ?_)
    · have k := k.1 hb
      refine zr_iinc (v := (v3 + 1)) dX12_look_88 rfl rfl (Nat.le_of_ble_eq_true rfl) rfl ?_
      refine zr_goto (tgt := 68) dX12_look_91 (by decide) ?_
      exact k
    · have k := k.2 hb
      refine zr_iload_n dX12_look_84 rfl rfl ?_
      refine zr_iconst (v := 1) dX12_look_85 (by decide) ?_
      refine zr_iadd dX12_look_86 ?_
      refine zr_istore_n dX12_look_87 rfl (Nat.le_of_ble_eq_true rfl) rfl ?_
      refine zr_iinc (v := (v3 + 1)) dX12_look_88 rfl rfl (Nat.le_of_ble_eq_true rfl) rfl ?_
      refine zr_goto (tgt := 68) dX12_look_91 (by decide) ?_
      exact k
set_option maxHeartbeats 2000000 in
theorem vX12_look_121 {G : Gp} {bc bs : Nat} {Q : zPost} {S : zSh} {I : zFI} {L : zFL} {v1 : Int32} {v2 : Int32} {v3 : Int32} (hS : zStd S)  (k : (((I 84 13) ≤ v3 → Q (some (.int v2)) S I L) ∧ (¬ (I 84 13) ≤ v3 → (¬ v3 < 0 → ¬ (I 84 13) ≤ v3 → vp_in v3 48) ∧ (((p_X12_isJoint I v3) = 0 → ZW G mX12_look fX12_look lX12_look 121 [zo G 84, .int v1, .int v2, .int (v3 + 1), .null, .null] [] S I L bc bs Q) ∧ (¬ (p_X12_isJoint I v3) = 0 → vp_in v3 48 ∧ ((¬ v1 = (5 : Int32) → ((¬ (I 96 v3.toNatClampNeg) = (0 : Int32) → ZW G mX12_look fX12_look lX12_look 121 [zo G 84, .int v1, .int v2, .int (v3 + 1), .null, .null] [] S I L bc bs Q) ∧ ((I 96 v3.toNatClampNeg) = (0 : Int32) → vp_in v3 96 ∧ ((¬ (I 119 v3.toNatClampNeg) = (-1 : Int32) → ZW G mX12_look fX12_look lX12_look 121 [zo G 84, .int v1, .int v2, .int (v3 + 1), .null, .null] [] S I L bc bs Q) ∧ ((I 119 v3.toNatClampNeg) = (-1 : Int32) → vp_in ((48 : Int32) + v3) 96 ∧ ((¬ (I 119 ((48 : Int32) + v3).toNatClampNeg) = (-1 : Int32) → ZW G mX12_look fX12_look lX12_look 121 [zo G 84, .int v1, .int v2, .int (v3 + 1), .null, .null] [] S I L bc bs Q) ∧ ((I 119 ((48 : Int32) + v3).toNatClampNeg) = (-1 : Int32) → ZW G mX12_look fX12_look lX12_look 121 [zo G 84, .int v1, .int (v2 + (1 : Int32)), .int (v3 + 1), .null, .null] [] S I L bc bs Q))))))) ∧ (v1 = (5 : Int32) → ((¬ (I 96 v3.toNatClampNeg) = (1 : Int32) → ZW G mX12_look fX12_look lX12_look 121 [zo G 84, .int v1, .int v2, .int (v3 + 1), .null, .null] [] S I L bc bs Q) ∧ ((I 96 v3.toNatClampNeg) = (1 : Int32) → vp_in v3 96 ∧ ((¬ (I 119 v3.toNatClampNeg) = (-1 : Int32) → ZW G mX12_look fX12_look lX12_look 121 [zo G 84, .int v1, .int v2, .int (v3 + 1), .null, .null] [] S I L bc bs Q) ∧ ((I 119 v3.toNatClampNeg) = (-1 : Int32) → vp_in ((48 : Int32) + v3) 96 ∧ ((¬ (I 119 ((48 : Int32) + v3).toNatClampNeg) = (-1 : Int32) → ZW G mX12_look fX12_look lX12_look 121 [zo G 84, .int v1, .int v2, .int (v3 + 1), .null, .null] [] S I L bc bs Q) ∧ ((I 119 ((48 : Int32) + v3).toNatClampNeg) = (-1 : Int32) → ZW G mX12_look fX12_look lX12_look 121 [zo G 84, .int v1, .int (v2 + (1 : Int32)), .int (v3 + 1), .null, .null] [] S I L bc bs Q))))))))))))) : ZW G mX12_look fX12_look lX12_look 121 [zo G 84, .int v1, .int v2, .int v3, .null, .null] [] S I L bc bs Q := by
  refine zr_iload_n dX12_look_121 rfl rfl ?_
  refine zr_aload_n dX12_look_122 rfl rfl ?_
  refine zr_getIv (x := (I 84 13)) dX12_look_123 zf_X12_198 rfl (hS.has (a := 84) rfl rfl) rfl ?_
  refine zr_icge (tgt := 189) dX12_look_126 (by decide) (fun hb => ?_) (fun hb => ?_)
  · have k := k.1 hb
    refine zr_iload_n dX12_look_189 rfl rfl ?_
    exact zr_ireturn dX12_look_190 rfl rfl k
  · have k := k.2 hb
    refine zr_aload_n dX12_look_129 rfl rfl ?_
    refine zr_iload_n dX12_look_130 rfl rfl ?_
    refine zr_callV (As := [.int v3]) (fr' := fX12_isJoint) (lo' := lX12_isJoint) (bc' := 0) (bs' := 0) (bcr := bc) (bsr := bs) dX12_look_131 zs_X12_286 zi_X12_isJoint zcl_12 (hS.has (a := 84) rfl rfl) rfl rfl (Nat.le_of_ble_eq_true rfl) (Nat.le_of_ble_eq_true rfl) (Nat.le_of_ble_eq_true rfl) (Nat.le_refl _) (Nat.le_refl _) ?_
    obtain ⟨hq0, k⟩ := k
    refine sp_X12_isJoint hS hq0 ?_
    show ZW G mX12_look fX12_look lX12_look 134 [zo G 84, .int v1, .int v2, .int v3, .null, .null] [.int (p_X12_isJoint I v3)] S I L bc bs Q
    refine zr_ifeq (tgt := 183) dX12_look_134 (by decide) (fun hb => ?_) (fun hb => ?_)
    · have k := k.1 hb
      refine zr_iinc (v := (v3 + 1)) dX12_look_183 rfl rfl (Nat.le_of_ble_eq_true rfl) rfl ?_
      refine zr_goto (tgt := 121) dX12_look_186 (by decide) ?_
      exact k
    · have k := k.2 hb
      refine zr_aload_n dX12_look_137 rfl rfl ?_
      refine zr_getR dX12_look_138 zf_X12_48 rfl (hS.has (a := 84) rfl rfl) (hS.ref (a := 96) rfl) ?_
      refine zr_iload_n dX12_look_141 rfl rfl ?_
      obtain ⟨hi1, k⟩ := k
      refine zr_ialdv (x := (I 96 v3.toNatClampNeg)) dX12_look_142 (hS.has (a := 96) rfl rfl) hi1 rfl ?_
      refine zr_iload_n dX12_look_143 rfl rfl ?_
      refine zr_iconst (v := 5) dX12_look_144 (by decide) ?_
      refine zr_icne (tgt := 152) dX12_look_145 (by decide) (fun hb => ?_) (fun hb => ?_)
      · have k := k.1 hb
        refine zr_iconst (v := 0) dX12_look_152 (by decide) ?_
        refine zr_icne (tgt := 183) dX12_look_153 (by decide) (fun hb => ?_) (fun hb => ?_)
        · have k := k.1 hb
          refine zr_iinc (v := (v3 + 1)) dX12_look_183 rfl rfl (Nat.le_of_ble_eq_true rfl) rfl ?_
          refine zr_goto (tgt := 121) dX12_look_186 (by decide) ?_
          exact k
        · have k := k.2 hb
          refine zr_aload_n dX12_look_156 rfl rfl ?_
          refine zr_getR dX12_look_157 zf_X12_126 rfl (hS.has (a := 84) rfl rfl) (hS.ref (a := 119) rfl) ?_
          refine zr_iload_n dX12_look_160 rfl rfl ?_
          obtain ⟨hi2, k⟩ := k
          refine zr_ialdv (x := (I 119 v3.toNatClampNeg)) dX12_look_161 (hS.has (a := 119) rfl rfl) hi2 rfl ?_
          refine zr_iconst (v := -1) dX12_look_162 (by decide) ?_
          refine zr_icne (tgt := 183) dX12_look_163 (by decide) (fun hb => ?_) (fun hb => ?_)
          · have k := k.1 hb
            refine zr_iinc (v := (v3 + 1)) dX12_look_183 rfl rfl (Nat.le_of_ble_eq_true rfl) rfl ?_
            refine zr_goto (tgt := 121) dX12_look_186 (by decide) ?_
            exact k
          · have k := k.2 hb
            refine zr_aload_n dX12_look_166 rfl rfl ?_
            refine zr_getR dX12_look_167 zf_X12_126 rfl (hS.has (a := 84) rfl rfl) (hS.ref (a := 119) rfl) ?_
            refine zr_bipush (v := 48) dX12_look_170 (by decide) ?_
            refine zr_iload_n dX12_look_172 rfl rfl ?_
            refine zr_iadd dX12_look_173 ?_
            obtain ⟨hi3, k⟩ := k
            refine zr_ialdv (x := (I 119 ((48 : Int32) + v3).toNatClampNeg)) dX12_look_174 (hS.has (a := 119) rfl rfl) hi3 rfl ?_
            refine zr_iconst (v := -1) dX12_look_175 (by decide) ?_
            refine zr_icne (tgt := 183) dX12_look_176 (by decide) (fun hb => ?_) (fun hb => ?_)
            · have k := k.1 hb
              refine zr_iinc (v := (v3 + 1)) dX12_look_183 rfl rfl (Nat.le_of_ble_eq_true rfl) rfl ?_
              refine zr_goto (tgt := 121) dX12_look_186 (by decide) ?_
              exact k
            · have k := k.2 hb
              refine zr_iload_n dX12_look_179 rfl rfl ?_
              refine zr_iconst (v := 1) dX12_look_180 (by decide) ?_
              refine zr_iadd dX12_look_181 ?_
              refine zr_istore_n dX12_look_182 rfl (Nat.le_of_ble_eq_true rfl) rfl ?_
              refine zr_iinc (v := (v3 + 1)) dX12_look_183 rfl rfl (Nat.le_of_ble_eq_true rfl) rfl ?_
              refine zr_goto (tgt := 121) dX12_look_186 (by decide) ?_
              exact k
      · have k := k.2 hb
        refine zr_iconst (v := 1) dX12_look_148 (by decide) ?_
        refine zr_goto (tgt := 153) dX12_look_149 (by decide) ?_
        refine zr_icne (tgt := 183) dX12_look_153 (by decide) (fun hb => ?_) (fun hb => ?_)
        · have k := k.1 hb
          refine zr_iinc (v := (v3 + 1)) dX12_look_183 rfl rfl (Nat.le_of_ble_eq_true rfl) rfl ?_
          refine zr_goto (tgt := 121) dX12_look_186 (by decide) ?_
          exact k
        · have k := k.2 hb
          refine zr_aload_n dX12_look_156 rfl rfl ?_
          refine zr_getR dX12_look_157 zf_X12_126 rfl (hS.has (a := 84) rfl rfl) (hS.ref (a := 119) rfl) ?_
          refine zr_iload_n dX12_look_160 rfl rfl ?_
          obtain ⟨hi4, k⟩ := k
          refine zr_ialdv (x := (I 119 v3.toNatClampNeg)) dX12_look_161 (hS.has (a := 119) rfl rfl) hi4 rfl ?_
          refine zr_iconst (v := -1) dX12_look_162 (by decide) ?_
          refine zr_icne (tgt := 183) dX12_look_163 (by decide) (fun hb => ?_) (fun hb => ?_)
          · have k := k.1 hb
            refine zr_iinc (v := (v3 + 1)) dX12_look_183 rfl rfl (Nat.le_of_ble_eq_true rfl) rfl ?_
            refine zr_goto (tgt := 121) dX12_look_186 (by decide) ?_
            exact k
          · have k := k.2 hb
            refine zr_aload_n dX12_look_166 rfl rfl ?_
            refine zr_getR dX12_look_167 zf_X12_126 rfl (hS.has (a := 84) rfl rfl) (hS.ref (a := 119) rfl) ?_
            refine zr_bipush (v := 48) dX12_look_170 (by decide) ?_
            refine zr_iload_n dX12_look_172 rfl rfl ?_
            refine zr_iadd dX12_look_173 ?_
            obtain ⟨hi5, k⟩ := k
            refine zr_ialdv (x := (I 119 ((48 : Int32) + v3).toNatClampNeg)) dX12_look_174 (hS.has (a := 119) rfl rfl) hi5 rfl ?_
            refine zr_iconst (v := -1) dX12_look_175 (by decide) ?_
            refine zr_icne (tgt := 183) dX12_look_176 (by decide) (fun hb => ?_) (fun hb => ?_)
            · have k := k.1 hb
              refine zr_iinc (v := (v3 + 1)) dX12_look_183 rfl rfl (Nat.le_of_ble_eq_true rfl) rfl ?_
              refine zr_goto (tgt := 121) dX12_look_186 (by decide) ?_
              exact k
            · have k := k.2 hb
              refine zr_iload_n dX12_look_179 rfl rfl ?_
              refine zr_iconst (v := 1) dX12_look_180 (by decide) ?_
              refine zr_iadd dX12_look_181 ?_
              refine zr_istore_n dX12_look_182 rfl (Nat.le_of_ble_eq_true rfl) rfl ?_
              refine zr_iinc (v := (v3 + 1)) dX12_look_183 rfl rfl (Nat.le_of_ble_eq_true rfl) rfl ?_
              refine zr_goto (tgt := 121) dX12_look_186 (by decide) ?_
              exact k
set_option maxHeartbeats 2000000 in
theorem vX12_look_199 {G : Gp} {bc bs : Nat} {Q : zPost} {S : zSh} {I : zFI} {L : zFL} {v1 : Int32} {v2 : Int32} {v3 : Int32} {v4 : Int32} {v5 : Int32} (hS : zStd S)  (k : (((I 84 13) ≤ v5 → ZC G mX12_ones fX12_ones lX12_ones [zo G 84, .int (v3 &&& v4)] S I L 0 0 (fun w S' I1 L1 => ∃ r1 : Int32, w = some (.int r1) ∧ S = S' ∧ Q (some (.int r1)) S I1 L1)) ∧ (¬ (I 84 13) ≤ v5 → (¬ v5 < 0 → ¬ (I 84 13) ≤ v5 → vp_in v5 48) ∧ ((¬ (p_X12_isJoint I v5) = 0 → vp_in v5 96 ∧ (((I 119 v5.toNatClampNeg) = (-1 : Int32) → vp_in ((48 : Int32) + v5) 96 ∧ (((I 119 ((48 : Int32) + v5).toNatClampNeg) = (-1 : Int32) → ZW G mX12_look fX12_look lX12_look 199 [zo G 84, .int v1, .int v2, .int v3, .int v4, .int (v5 + 1)] [] S I L bc bs Q) ∧ (¬ (I 119 ((48 : Int32) + v5).toNatClampNeg) = (-1 : Int32) → vp_in v5 48 ∧ ZW G mX12_look fX12_look lX12_look 199 [zo G 84, .int v1, .int v2, .int v3, .int (v4 ||| ((1 : Int32) <<< ((I 94 v5.toNatClampNeg) &&& 31))), .int (v5 + 1)] [] S I L bc bs Q))) ∧ (¬ (I 119 v5.toNatClampNeg) = (-1 : Int32) → vp_in v5 48 ∧ vp_in ((48 : Int32) + v5) 96 ∧ (((I 119 ((48 : Int32) + v5).toNatClampNeg) = (-1 : Int32) → ZW G mX12_look fX12_look lX12_look 199 [zo G 84, .int v1, .int v2, .int (v3 ||| ((1 : Int32) <<< ((I 94 v5.toNatClampNeg) &&& 31))), .int v4, .int (v5 + 1)] [] S I L bc bs Q) ∧ (¬ (I 119 ((48 : Int32) + v5).toNatClampNeg) = (-1 : Int32) → ZW G mX12_look fX12_look lX12_look 199 [zo G 84, .int v1, .int v2, .int (v3 ||| ((1 : Int32) <<< ((I 94 v5.toNatClampNeg) &&& 31))), .int (v4 ||| ((1 : Int32) <<< ((I 94 v5.toNatClampNeg) &&& 31))), .int (v5 + 1)] [] S I L bc bs Q))))) ∧ ((p_X12_isJoint I v5) = 0 → ZW G mX12_look fX12_look lX12_look 199 [zo G 84, .int v1, .int v2, .int v3, .int v4, .int (v5 + 1)] [] S I L bc bs Q))))) : ZW G mX12_look fX12_look lX12_look 199 [zo G 84, .int v1, .int v2, .int v3, .int v4, .int v5] [] S I L bc bs Q := by
  refine zr_iload dX12_look_199 rfl ?_
  refine zr_aload_n dX12_look_201 rfl rfl ?_
  refine zr_getIv (x := (I 84 13)) dX12_look_202 zf_X12_198 rfl (hS.has (a := 84) rfl rfl) rfl ?_
  refine zr_icge (tgt := 277) dX12_look_205 (by decide) (fun hb => ?_) (fun hb => ?_)
  · have k := k.1 hb
    refine zr_aload_n dX12_look_277 rfl rfl ?_
    refine zr_iload_n dX12_look_278 rfl rfl ?_
    refine zr_iload dX12_look_279 rfl ?_
    refine zr_iand dX12_look_281 ?_
    refine zr_callV (As := [.int (v3 &&& v4)]) (fr' := fX12_ones) (lo' := lX12_ones) (bc' := 0) (bs' := 0) (bcr := bc) (bsr := bs) dX12_look_282 zs_X12_372 zi_X12_ones zcl_12 (hS.has (a := 84) rfl rfl) rfl rfl (Nat.le_of_ble_eq_true rfl) (Nat.le_of_ble_eq_true rfl) (Nat.le_of_ble_eq_true rfl) (Nat.le_refl _) (Nat.le_refl _) ?_
    refine ZC.mono (fun w S' I1 L1 k => ?_) k
    obtain ⟨r1, rfl, rfl, k⟩ := k
    show ZW G mX12_look fX12_look lX12_look 285 [zo G 84, .int v1, .int v2, .int v3, .int v4, .int v5] [.int r1] S I1 L1 bc bs Q
    exact zr_ireturn dX12_look_285 rfl rfl k
  · have k := k.2 hb
    refine zr_aload_n dX12_look_208 rfl rfl ?_
    refine zr_iload dX12_look_209 rfl ?_
    refine zr_callV (As := [.int v5]) (fr' := fX12_isJoint) (lo' := lX12_isJoint) (bc' := 0) (bs' := 0) (bcr := bc) (bsr := bs) dX12_look_211 zs_X12_286 zi_X12_isJoint zcl_12 (hS.has (a := 84) rfl rfl) rfl rfl (Nat.le_of_ble_eq_true rfl) (Nat.le_of_ble_eq_true rfl) (Nat.le_of_ble_eq_true rfl) (Nat.le_refl _) (Nat.le_refl _) ?_
    obtain ⟨hq0, k⟩ := k
    refine sp_X12_isJoint hS hq0 ?_
    show ZW G mX12_look fX12_look lX12_look 214 [zo G 84, .int v1, .int v2, .int v3, .int v4, .int v5] [.int (p_X12_isJoint I v5)] S I L bc bs Q
    refine zr_ifne (tgt := 220) dX12_look_214 (by decide) (fun hb => ?_) (fun hb => ?_)
    · have k := k.1 hb
      refine zr_aload_n dX12_look_220 rfl rfl ?_
      refine zr_getR dX12_look_221 zf_X12_126 rfl (hS.has (a := 84) rfl rfl) (hS.ref (a := 119) rfl) ?_
      refine zr_iload dX12_look_224 rfl ?_
      obtain ⟨hi6, k⟩ := k
      refine zr_ialdv (x := (I 119 v5.toNatClampNeg)) dX12_look_226 (hS.has (a := 119) rfl rfl) hi6 rfl ?_
      refine zr_iconst (v := -1) dX12_look_227 (by decide) ?_
      refine zr_iceq (tgt := 243) dX12_look_228 (by decide) (fun hb => ?_) (fun hb => ?_)
      · have k := k.1 hb
        refine zr_aload_n dX12_look_243 rfl rfl ?_
        refine zr_getR dX12_look_244 zf_X12_126 rfl (hS.has (a := 84) rfl rfl) (hS.ref (a := 119) rfl) ?_
        refine zr_bipush (v := 48) dX12_look_247 (by decide) ?_
        refine zr_iload dX12_look_249 rfl ?_
        refine zr_iadd dX12_look_251 ?_
        obtain ⟨hi7, k⟩ := k
        refine zr_ialdv (x := (I 119 ((48 : Int32) + v5).toNatClampNeg)) dX12_look_252 (hS.has (a := 119) rfl rfl) hi7 rfl ?_
        refine zr_iconst (v := -1) dX12_look_253 (by decide) ?_
        refine zr_iceq (tgt := 271) dX12_look_254 (by decide) (fun hb => ?_) (fun hb => ?_)
        · have k := k.1 hb
          refine zr_iinc (v := (v5 + 1)) dX12_look_271 rfl rfl (Nat.le_of_ble_eq_true rfl) rfl ?_
          refine zr_goto (tgt := 199) dX12_look_274 (by decide) ?_
          exact k
        · have k := k.2 hb
          refine zr_iload dX12_look_257 rfl ?_
          refine zr_iconst (v := 1) dX12_look_259 (by decide) ?_
          refine zr_aload_n dX12_look_260 rfl rfl ?_
          refine zr_getR dX12_look_261 zf_X12_42 rfl (hS.has (a := 84) rfl rfl) (hS.ref (a := 94) rfl) ?_
          refine zr_iload dX12_look_264 rfl ?_
          obtain ⟨hi8, k⟩ := k
          refine zr_ialdv (x := (I 94 v5.toNatClampNeg)) dX12_look_266 (hS.has (a := 94) rfl rfl) hi8 rfl ?_
          refine zr_ishl dX12_look_267 ?_
          refine zr_ior dX12_look_268 ?_
          refine zr_istore dX12_look_269 (Nat.le_of_ble_eq_true rfl) rfl ?_
          refine zr_iinc (v := (v5 + 1)) dX12_look_271 rfl rfl (Nat.le_of_ble_eq_true rfl) rfl ?_
          refine zr_goto (tgt := 199) dX12_look_274 (by decide) ?_
          exact k
      · have k := k.2 hb
        refine zr_iload_n dX12_look_231 rfl rfl ?_
        refine zr_iconst (v := 1) dX12_look_232 (by decide) ?_
        refine zr_aload_n dX12_look_233 rfl rfl ?_
        refine zr_getR dX12_look_234 zf_X12_42 rfl (hS.has (a := 84) rfl rfl) (hS.ref (a := 94) rfl) ?_
        refine zr_iload dX12_look_237 rfl ?_
        obtain ⟨hi9, k⟩ := k
        refine zr_ialdv (x := (I 94 v5.toNatClampNeg)) dX12_look_239 (hS.has (a := 94) rfl rfl) hi9 rfl ?_
        refine zr_ishl dX12_look_240 ?_
        refine zr_ior dX12_look_241 ?_
        refine zr_istore_n dX12_look_242 rfl (Nat.le_of_ble_eq_true rfl) rfl ?_
        refine zr_aload_n dX12_look_243 rfl rfl ?_
        refine zr_getR dX12_look_244 zf_X12_126 rfl (hS.has (a := 84) rfl rfl) (hS.ref (a := 119) rfl) ?_
        refine zr_bipush (v := 48) dX12_look_247 (by decide) ?_
        refine zr_iload dX12_look_249 rfl ?_
        refine zr_iadd dX12_look_251 ?_
        obtain ⟨hi10, k⟩ := k
        refine zr_ialdv (x := (I 119 ((48 : Int32) + v5).toNatClampNeg)) dX12_look_252 (hS.has (a := 119) rfl rfl) hi10 rfl ?_
        refine zr_iconst (v := -1) dX12_look_253 (by decide) ?_
        refine zr_iceq (tgt := 271) dX12_look_254 (by decide) (fun hb => ?_) (fun hb => ?_)
        · have k := k.1 hb
          refine zr_iinc (v := (v5 + 1)) dX12_look_271 rfl rfl (Nat.le_of_ble_eq_true rfl) rfl ?_
          refine zr_goto (tgt := 199) dX12_look_274 (by decide) ?_
          exact k
        · have k := k.2 hb
          refine zr_iload dX12_look_257 rfl ?_
          refine zr_iconst (v := 1) dX12_look_259 (by decide) ?_
          refine zr_aload_n dX12_look_260 rfl rfl ?_
          refine zr_getR dX12_look_261 zf_X12_42 rfl (hS.has (a := 84) rfl rfl) (hS.ref (a := 94) rfl) ?_
          refine zr_iload dX12_look_264 rfl ?_
          refine zr_ialdv (x := (I 94 v5.toNatClampNeg)) dX12_look_266 (hS.has (a := 94) rfl rfl) hi9 rfl ?_
          refine zr_ishl dX12_look_267 ?_
          refine zr_ior dX12_look_268 ?_
          refine zr_istore dX12_look_269 (Nat.le_of_ble_eq_true rfl) rfl ?_
          refine zr_iinc (v := (v5 + 1)) dX12_look_271 rfl rfl (Nat.le_of_ble_eq_true rfl) rfl ?_
          refine zr_goto (tgt := 199) dX12_look_274 (by decide) ?_
          exact k
    · have k := k.2 hb
      refine zr_goto (tgt := 271) dX12_look_217 (by decide) ?_
      refine zr_iinc (v := (v5 + 1)) dX12_look_271 rfl rfl (Nat.le_of_ble_eq_true rfl) rfl ?_
      refine zr_goto (tgt := 199) dX12_look_274 (by decide) ?_
      exact k
set_option maxHeartbeats 2000000 in
theorem vX12_says_0 {G : Gp} {bc bs : Nat} {Q : zPost} {S : zSh} {I : zFI} {L : zFL} {v1 : Int32} (hS : zStd S)  (k : vp_in (I 84 90) 400 ∧ Q none S (u2 (u2 I 138 (I 84 90).toNatClampNeg v1) 84 90 ((I 84 90) + (1 : Int32))) L) : ZW G mX12_says fX12_says lX12_says 0 [zo G 84, .int v1] [] S I L bc bs Q := by
  refine zr_aload_n dX12_says_0 rfl rfl ?_
  refine zr_getR dX12_says_1 zf_X12_185 rfl (hS.has (a := 84) rfl rfl) (hS.ref (a := 138) rfl) ?_
  refine zr_aload_n dX12_says_4 rfl rfl ?_
  refine zr_getIv (x := (I 84 90)) dX12_says_5 zf_X12_445 rfl (hS.has (a := 84) rfl rfl) rfl ?_
  refine zr_iload_n dX12_says_8 rfl rfl ?_
  obtain ⟨hi1, k⟩ := k
  refine zr_iast dX12_says_9 (hS.has (a := 138) rfl rfl) hi1 ?_
  refine zr_aload_n dX12_says_10 rfl rfl ?_
  refine zr_aload_n dX12_says_11 rfl rfl ?_
  refine zr_getIv (x := (I 84 90)) dX12_says_12 zf_X12_445 rfl (hS.has (a := 84) rfl rfl) rfl ?_
  refine zr_iconst (v := 1) dX12_says_15 (by decide) ?_
  refine zr_iadd dX12_says_16 ?_
  refine zr_putI dX12_says_17 zf_X12_445 rfl (hS.has (a := 84) rfl rfl) rfl rfl ?_
  exact zr_return_ dX12_says_20 rfl k
set_option maxHeartbeats 2000000 in
theorem vX12_saysNumber_0 {G : Gp} {bc bs : Nat} {Q : zPost} {S : zSh} {I : zFI} {L : zFL} {v1 : Int32} (hS : zStd S)  (k : ((v1 ≤ (9 : Int32) → ZC G mX12_says fX12_says lX12_says [zo G 84, .int ((48 : Int32) + (v1 - v1 / (10 : Int32) * (10 : Int32)))] S I L 0 0 (fun w S' I1 L1 => w = none ∧ S = S' ∧ Q none S I1 L1)) ∧ (¬ v1 ≤ (9 : Int32) → ZC G mX12_says fX12_says lX12_says [zo G 84, .int ((48 : Int32) + (v1 / (10 : Int32)))] S I L 0 0 (fun w S' I2 L2 => w = none ∧ S = S' ∧ ZC G mX12_says fX12_says lX12_says [zo G 84, .int ((48 : Int32) + (v1 - v1 / (10 : Int32) * (10 : Int32)))] S I2 L2 0 0 (fun w S' I3 L3 => w = none ∧ S = S' ∧ Q none S I3 L3))))) : ZW G mX12_saysNumber fX12_saysNumber lX12_saysNumber 0 [zo G 84, .int v1] [] S I L bc bs Q := by
  refine zr_iload_n dX12_saysNumber_0 rfl rfl ?_
  refine zr_bipush (v := 9) dX12_saysNumber_1 (by decide) ?_
  refine zr_icle (tgt := 17) dX12_saysNumber_3 (by decide) (fun hb => ?_) (fun hb => ?_)
  · have k := k.1 hb
    refine zr_aload_n dX12_saysNumber_17 rfl rfl ?_
    refine zr_bipush (v := 48) dX12_saysNumber_18 (by decide) ?_
    refine zr_iload_n dX12_saysNumber_20 rfl rfl ?_
    refine zr_bipush (v := 10) dX12_saysNumber_21 (by decide) ?_
    refine zr_irem dX12_saysNumber_23 (by decide) ?_
    refine zr_iadd dX12_saysNumber_24 ?_
    refine zr_callV (As := [.int ((48 : Int32) + (v1 - v1 / (10 : Int32) * (10 : Int32)))]) (fr' := fX12_says) (lo' := lX12_says) (bc' := 0) (bs' := 0) (bcr := bc) (bsr := bs) dX12_saysNumber_25 zs_X12_448 zi_X12_says zcl_12 (hS.has (a := 84) rfl rfl) rfl rfl (Nat.le_of_ble_eq_true rfl) (Nat.le_of_ble_eq_true rfl) (Nat.le_of_ble_eq_true rfl) (Nat.le_refl _) (Nat.le_refl _) ?_
    refine ZC.mono (fun w S' I1 L1 k => ?_) k
    obtain ⟨rfl, rfl, k⟩ := k
    show ZW G mX12_saysNumber fX12_saysNumber lX12_saysNumber 28 [zo G 84, .int v1] [] S I1 L1 bc bs Q
    exact zr_return_ dX12_saysNumber_28 rfl k
  · have k := k.2 hb
    refine zr_aload_n dX12_saysNumber_6 rfl rfl ?_
    refine zr_bipush (v := 48) dX12_saysNumber_7 (by decide) ?_
    refine zr_iload_n dX12_saysNumber_9 rfl rfl ?_
    refine zr_bipush (v := 10) dX12_saysNumber_10 (by decide) ?_
    refine zr_idiv dX12_saysNumber_12 (by decide) ?_
    refine zr_iadd dX12_saysNumber_13 ?_
    refine zr_callV (As := [.int ((48 : Int32) + (v1 / (10 : Int32)))]) (fr' := fX12_says) (lo' := lX12_says) (bc' := 0) (bs' := 0) (bcr := bc) (bsr := bs) dX12_saysNumber_14 zs_X12_448 zi_X12_says zcl_12 (hS.has (a := 84) rfl rfl) rfl rfl (Nat.le_of_ble_eq_true rfl) (Nat.le_of_ble_eq_true rfl) (Nat.le_of_ble_eq_true rfl) (Nat.le_refl _) (Nat.le_refl _) ?_
    refine ZC.mono (fun w S' I2 L2 k => ?_) k
    obtain ⟨rfl, rfl, k⟩ := k
    show ZW G mX12_saysNumber fX12_saysNumber lX12_saysNumber 17 [zo G 84, .int v1] [] S I2 L2 bc bs Q
    refine zr_aload_n dX12_saysNumber_17 rfl rfl ?_
    refine zr_bipush (v := 48) dX12_saysNumber_18 (by decide) ?_
    refine zr_iload_n dX12_saysNumber_20 rfl rfl ?_
    refine zr_bipush (v := 10) dX12_saysNumber_21 (by decide) ?_
    refine zr_irem dX12_saysNumber_23 (by decide) ?_
    refine zr_iadd dX12_saysNumber_24 ?_
    refine zr_callV (As := [.int ((48 : Int32) + (v1 - v1 / (10 : Int32) * (10 : Int32)))]) (fr' := fX12_says) (lo' := lX12_says) (bc' := 0) (bs' := 0) (bcr := bc) (bsr := bs) dX12_saysNumber_25 zs_X12_448 zi_X12_says zcl_12 (hS.has (a := 84) rfl rfl) rfl rfl (Nat.le_of_ble_eq_true rfl) (Nat.le_of_ble_eq_true rfl) (Nat.le_of_ble_eq_true rfl) (Nat.le_refl _) (Nat.le_refl _) ?_
    refine ZC.mono (fun w S' I3 L3 k => ?_) k
    obtain ⟨rfl, rfl, k⟩ := k
    show ZW G mX12_saysNumber fX12_saysNumber lX12_saysNumber 28 [zo G 84, .int v1] [] S I3 L3 bc bs Q
    exact zr_return_ dX12_saysNumber_28 rfl k
set_option maxHeartbeats 2000000 in
theorem vX12_write_0 {G : Gp} {bc bs : Nat} {Q : zPost} {S : zSh} {I : zFI} {L : zFL} {v1 : Int32} (hS : zStd S)  (k : ((¬ (p_X12_isIn v1 (0 : Int32) (1 : Int32)) = 0 → ZC G mX12_findJoins fX12_findJoins lX12_findJoins [zo G 84, .int v1] S (u2 I 84 0 (0 : Int32)) L 0 0 (fun w S' I1 L1 => w = none ∧ S = S' ∧ ZW G mX12_write fX12_write lX12_write 29 [zo G 84, .int v1, .int (0 : Int32)] [] S (u2 I1 84 90 (0 : Int32)) L1 bc bs Q)) ∧ ((p_X12_isIn v1 (0 : Int32) (1 : Int32)) = 0 → Q (some (.int (-1 : Int32))) S (u2 I 84 0 (0 : Int32)) L))) : ZW G mX12_write fX12_write lX12_write 0 [zo G 84, .int v1, .null] [] S I L bc bs Q := by
  refine zr_aload_n dX12_write_0 rfl rfl ?_
  refine zr_iconst (v := 0) dX12_write_1 (by decide) ?_
  refine zr_putI dX12_write_2 zf_X12_188 rfl (hS.has (a := 84) rfl rfl) rfl rfl ?_
  refine zr_aload_n dX12_write_5 rfl rfl ?_
  refine zr_iload_n dX12_write_6 rfl rfl ?_
  refine zr_iconst (v := 0) dX12_write_7 (by decide) ?_
  refine zr_iconst (v := 1) dX12_write_8 (by decide) ?_
  refine zr_callV (As := [.int v1, .int (0 : Int32), .int (1 : Int32)]) (fr' := fX12_isIn) (lo' := lX12_isIn) (bc' := 0) (bs' := 0) (bcr := bc) (bsr := bs) dX12_write_9 zs_X12_201 zi_X12_isIn zcl_12 (hS.has (a := 84) rfl rfl) rfl rfl (Nat.le_of_ble_eq_true rfl) (Nat.le_of_ble_eq_true rfl) (Nat.le_of_ble_eq_true rfl) (Nat.le_refl _) (Nat.le_refl _) ?_
  refine sp_X12_isIn hS  ?_
  show ZW G mX12_write fX12_write lX12_write 12 [zo G 84, .int v1, .null] [.int (p_X12_isIn v1 (0 : Int32) (1 : Int32))] S (u2 I 84 0 (0 : Int32)) L bc bs Q
  refine zr_ifne (tgt := 17) dX12_write_12 (by decide) (fun hb => ?_) (fun hb => ?_)
  · have k := k.1 hb
    refine zr_aload_n dX12_write_17 rfl rfl ?_
    refine zr_iload_n dX12_write_18 rfl rfl ?_
    refine zr_callV (As := [.int v1]) (fr' := fX12_findJoins) (lo' := lX12_findJoins) (bc' := 0) (bs' := 0) (bcr := bc) (bsr := bs) dX12_write_19 zs_X12_360 zi_X12_findJoins zcl_12 (hS.has (a := 84) rfl rfl) rfl rfl (Nat.le_of_ble_eq_true rfl) (Nat.le_of_ble_eq_true rfl) (Nat.le_of_ble_eq_true rfl) (Nat.le_refl _) (Nat.le_refl _) ?_
    refine ZC.mono (fun w S' I1 L1 k => ?_) k
    obtain ⟨rfl, rfl, k⟩ := k
    show ZW G mX12_write fX12_write lX12_write 22 [zo G 84, .int v1, .null] [] S I1 L1 bc bs Q
    refine zr_aload_n dX12_write_22 rfl rfl ?_
    refine zr_iconst (v := 0) dX12_write_23 (by decide) ?_
    refine zr_putI dX12_write_24 zf_X12_445 rfl (hS.has (a := 84) rfl rfl) rfl rfl ?_
    refine zr_iconst (v := 0) dX12_write_27 (by decide) ?_
    refine zr_istore_n dX12_write_28 rfl (Nat.le_of_ble_eq_true rfl) rfl ?_
    exact k
  · have k := k.2 hb
    refine zr_iconst (v := -1) dX12_write_15 (by decide) ?_
    exact zr_ireturn dX12_write_16 rfl rfl k
set_option maxHeartbeats 2000000 in
theorem vX12_write_29 {G : Gp} {bc bs : Nat} {Q : zPost} {S : zSh} {I : zFI} {L : zFL} {v1 : Int32} {v2 : Int32} (hS : zStd S)  (k : (((I 84 13) ≤ v2 → Q (some (.int (I 84 90))) S I L) ∧ (¬ (I 84 13) ≤ v2 → (¬ v2 < 0 → ¬ (I 84 13) ≤ v2 → vp_in v2 48) ∧ (((p_X12_isJoint I v2) = 0 → ZW G mX12_write fX12_write lX12_write 29 [zo G 84, .int v1, .int (v2 + 1)] [] S I L bc bs Q) ∧ (¬ (p_X12_isJoint I v2) = 0 → vp_in v2 48 ∧ ((¬ (I 96 v2.toNatClampNeg) = 0 → ZW G mX12_write fX12_write lX12_write 29 [zo G 84, .int v1, .int (v2 + 1)] [] S I L bc bs Q) ∧ ((I 96 v2.toNatClampNeg) = 0 → vp_in (((48 : Int32) * v1) + v2) 96 ∧ ((¬ (I 119 (((48 : Int32) * v1) + v2).toNatClampNeg) = (-1 : Int32) → ZC G mX12_saysNumber fX12_saysNumber lX12_saysNumber [zo G 84, .int v2] S I L 0 0 (fun w S' I1 L1 => w = none ∧ S = S' ∧ ZC G mX12_says fX12_says lX12_says [zo G 84, .int (45 : Int32)] S I1 L1 0 0 (fun w S' I2 L2 => w = none ∧ S = S' ∧ ZC G mX12_saysNumber fX12_saysNumber lX12_saysNumber [zo G 84, .int (I2 119 (((48 : Int32) * v1) + v2).toNatClampNeg)] S I2 L2 0 0 (fun w S' I3 L3 => w = none ∧ S = S' ∧ (((I3 120 (((48 : Int32) * v1) + v2).toNatClampNeg) = 0 → ZC G mX12_says fX12_says lX12_says [zo G 84, .int (59 : Int32)] S I3 L3 0 0 (fun w S' I4 L4 => w = none ∧ S = S' ∧ ZW G mX12_write fX12_write lX12_write 29 [zo G 84, .int v1, .int (v2 + 1)] [] S I4 L4 bc bs Q)) ∧ (¬ (I3 120 (((48 : Int32) * v1) + v2).toNatClampNeg) = 0 → ZC G mX12_says fX12_says lX12_says [zo G 84, .int (33 : Int32)] S I3 L3 0 0 (fun w S' I5 L5 => w = none ∧ S = S' ∧ ZC G mX12_says fX12_says lX12_says [zo G 84, .int (59 : Int32)] S I5 L5 0 0 (fun w S' I6 L6 => w = none ∧ S = S' ∧ ZW G mX12_write fX12_write lX12_write 29 [zo G 84, .int v1, .int (v2 + 1)] [] S I6 L6 bc bs Q)))))))) ∧ ((I 119 (((48 : Int32) * v1) + v2).toNatClampNeg) = (-1 : Int32) → ZW G mX12_write fX12_write lX12_write 29 [zo G 84, .int v1, .int (v2 + 1)] [] S I L bc bs Q))))))))) : ZW G mX12_write fX12_write lX12_write 29 [zo G 84, .int v1, .int v2] [] S I L bc bs Q := by
  refine zr_iload_n dX12_write_29 rfl rfl ?_
  refine zr_aload_n dX12_write_30 rfl rfl ?_
  refine zr_getIv (x := (I 84 13)) dX12_write_31 zf_X12_198 rfl (hS.has (a := 84) rfl rfl) rfl ?_
  refine zr_icge (tgt := 130) dX12_write_34 (by decide) (fun hb => ?_) (fun hb => ?_)
  · have k := k.1 hb
    refine zr_aload_n dX12_write_130 rfl rfl ?_
    refine zr_getIv (x := (I 84 90)) dX12_write_131 zf_X12_445 rfl (hS.has (a := 84) rfl rfl) rfl ?_
    exact zr_ireturn dX12_write_134 rfl rfl k
  · have k := k.2 hb
    refine zr_aload_n dX12_write_37 rfl rfl ?_
    refine zr_iload_n dX12_write_38 rfl rfl ?_
    refine zr_callV (As := [.int v2]) (fr' := fX12_isJoint) (lo' := lX12_isJoint) (bc' := 0) (bs' := 0) (bcr := bc) (bsr := bs) dX12_write_39 zs_X12_286 zi_X12_isJoint zcl_12 (hS.has (a := 84) rfl rfl) rfl rfl (Nat.le_of_ble_eq_true rfl) (Nat.le_of_ble_eq_true rfl) (Nat.le_of_ble_eq_true rfl) (Nat.le_refl _) (Nat.le_refl _) ?_
    obtain ⟨hq0, k⟩ := k
    refine sp_X12_isJoint hS hq0 ?_
    show ZW G mX12_write fX12_write lX12_write 42 [zo G 84, .int v1, .int v2] [.int (p_X12_isJoint I v2)] S I L bc bs Q
    refine zr_ifeq (tgt := 124) dX12_write_42 (by decide) (fun hb => ?_) (fun hb => ?_)
    · have k := k.1 hb
      refine zr_iinc (v := (v2 + 1)) dX12_write_124 rfl rfl (Nat.le_of_ble_eq_true rfl) rfl ?_
      refine zr_goto (tgt := 29) dX12_write_127 (by decide) ?_
      exact k
    · have k := k.2 hb
      refine zr_aload_n dX12_write_45 rfl rfl ?_
      refine zr_getR dX12_write_46 zf_X12_48 rfl (hS.has (a := 84) rfl rfl) (hS.ref (a := 96) rfl) ?_
      refine zr_iload_n dX12_write_49 rfl rfl ?_
      obtain ⟨hi1, k⟩ := k
      refine zr_ialdv (x := (I 96 v2.toNatClampNeg)) dX12_write_50 (hS.has (a := 96) rfl rfl) hi1 rfl ?_
      refine zr_ifne (tgt := 124) dX12_write_51 (by decide) (fun hb => ?_) (fun hb => ?_)
      · have k := k.1 hb
        refine zr_iinc (v := (v2 + 1)) dX12_write_124 rfl rfl (Nat.le_of_ble_eq_true rfl) rfl ?_
        refine zr_goto (tgt := 29) dX12_write_127 (by decide) ?_
        exact k
      · have k := k.2 hb
        refine zr_aload_n dX12_write_54 rfl rfl ?_
        refine zr_getR dX12_write_55 zf_X12_126 rfl (hS.has (a := 84) rfl rfl) (hS.ref (a := 119) rfl) ?_
        refine zr_bipush (v := 48) dX12_write_58 (by decide) ?_
        refine zr_iload_n dX12_write_60 rfl rfl ?_
        refine zr_imul dX12_write_61 ?_
        refine zr_iload_n dX12_write_62 rfl rfl ?_
        refine zr_iadd dX12_write_63 ?_
        obtain ⟨hi2, k⟩ := k
        refine zr_ialdv (x := (I 119 (((48 : Int32) * v1) + v2).toNatClampNeg)) dX12_write_64 (hS.has (a := 119) rfl rfl) hi2 rfl ?_
        refine zr_iconst (v := -1) dX12_write_65 (by decide) ?_
        refine zr_icne (tgt := 72) dX12_write_66 (by decide) (fun hb => ?_) (fun hb => ?_)
        · have k := k.1 hb
          refine zr_aload_n dX12_write_72 rfl rfl ?_
          refine zr_iload_n dX12_write_73 rfl rfl ?_
          refine zr_callV (As := [.int v2]) (fr' := fX12_saysNumber) (lo' := lX12_saysNumber) (bc' := 0) (bs' := 0) (bcr := bc) (bsr := bs) dX12_write_74 zs_X12_451 zi_X12_saysNumber zcl_12 (hS.has (a := 84) rfl rfl) rfl rfl (Nat.le_of_ble_eq_true rfl) (Nat.le_of_ble_eq_true rfl) (Nat.le_of_ble_eq_true rfl) (Nat.le_refl _) (Nat.le_refl _) ?_
          refine ZC.mono (fun w S' I1 L1 k => ?_) k
          obtain ⟨rfl, rfl, k⟩ := k
          show ZW G mX12_write fX12_write lX12_write 77 [zo G 84, .int v1, .int v2] [] S I1 L1 bc bs Q
          refine zr_aload_n dX12_write_77 rfl rfl ?_
          refine zr_bipush (v := 45) dX12_write_78 (by decide) ?_
          refine zr_callV (As := [.int (45 : Int32)]) (fr' := fX12_says) (lo' := lX12_says) (bc' := 0) (bs' := 0) (bcr := bc) (bsr := bs) dX12_write_80 zs_X12_448 zi_X12_says zcl_12 (hS.has (a := 84) rfl rfl) rfl rfl (Nat.le_of_ble_eq_true rfl) (Nat.le_of_ble_eq_true rfl) (Nat.le_of_ble_eq_true rfl) (Nat.le_refl _) (Nat.le_refl _) ?_
          refine ZC.mono (fun w S' I2 L2 k => ?_) k
          obtain ⟨rfl, rfl, k⟩ := k
          show ZW G mX12_write fX12_write lX12_write 83 [zo G 84, .int v1, .int v2] [] S I2 L2 bc bs Q
          refine zr_aload_n dX12_write_83 rfl rfl ?_
          refine zr_aload_n dX12_write_84 rfl rfl ?_
          refine zr_getR dX12_write_85 zf_X12_126 rfl (hS.has (a := 84) rfl rfl) (hS.ref (a := 119) rfl) ?_
          refine zr_bipush (v := 48) dX12_write_88 (by decide) ?_
          refine zr_iload_n dX12_write_90 rfl rfl ?_
          refine zr_imul dX12_write_91 ?_
          refine zr_iload_n dX12_write_92 rfl rfl ?_
          refine zr_iadd dX12_write_93 ?_
          refine zr_ialdv (x := (I2 119 (((48 : Int32) * v1) + v2).toNatClampNeg)) dX12_write_94 (hS.has (a := 119) rfl rfl) hi2 rfl ?_
          refine zr_callV (As := [.int (I2 119 (((48 : Int32) * v1) + v2).toNatClampNeg)]) (fr' := fX12_saysNumber) (lo' := lX12_saysNumber) (bc' := 0) (bs' := 0) (bcr := bc) (bsr := bs) dX12_write_95 zs_X12_451 zi_X12_saysNumber zcl_12 (hS.has (a := 84) rfl rfl) rfl rfl (Nat.le_of_ble_eq_true rfl) (Nat.le_of_ble_eq_true rfl) (Nat.le_of_ble_eq_true rfl) (Nat.le_refl _) (Nat.le_refl _) ?_
          refine ZC.mono (fun w S' I3 L3 k => ?_) k
          obtain ⟨rfl, rfl, k⟩ := k
          show ZW G mX12_write fX12_write lX12_write 98 [zo G 84, .int v1, .int v2] [] S I3 L3 bc bs Q
          refine zr_aload_n dX12_write_98 rfl rfl ?_
          refine zr_getR dX12_write_99 zf_X12_129 rfl (hS.has (a := 84) rfl rfl) (hS.ref (a := 120) rfl) ?_
          refine zr_bipush (v := 48) dX12_write_102 (by decide) ?_
          refine zr_iload_n dX12_write_104 rfl rfl ?_
          refine zr_imul dX12_write_105 ?_
          refine zr_iload_n dX12_write_106 rfl rfl ?_
          refine zr_iadd dX12_write_107 ?_
          refine zr_zaldv (x := (I3 120 (((48 : Int32) * v1) + v2).toNatClampNeg)) dX12_write_108 (hS.has (a := 120) rfl rfl) hi2 rfl ?_
          refine zr_ifeq (tgt := 118) dX12_write_109 (by decide) (fun hb => ?_) (fun hb => ?_)
          · have k := k.1 hb
            refine zr_aload_n dX12_write_118 rfl rfl ?_
            refine zr_bipush (v := 59) dX12_write_119 (by decide) ?_
            refine zr_callV (As := [.int (59 : Int32)]) (fr' := fX12_says) (lo' := lX12_says) (bc' := 0) (bs' := 0) (bcr := bc) (bsr := bs) dX12_write_121 zs_X12_448 zi_X12_says zcl_12 (hS.has (a := 84) rfl rfl) rfl rfl (Nat.le_of_ble_eq_true rfl) (Nat.le_of_ble_eq_true rfl) (Nat.le_of_ble_eq_true rfl) (Nat.le_refl _) (Nat.le_refl _) ?_
            refine ZC.mono (fun w S' I4 L4 k => ?_) k
            obtain ⟨rfl, rfl, k⟩ := k
            show ZW G mX12_write fX12_write lX12_write 124 [zo G 84, .int v1, .int v2] [] S I4 L4 bc bs Q
            refine zr_iinc (v := (v2 + 1)) dX12_write_124 rfl rfl (Nat.le_of_ble_eq_true rfl) rfl ?_
            refine zr_goto (tgt := 29) dX12_write_127 (by decide) ?_
            exact k
          · have k := k.2 hb
            refine zr_aload_n dX12_write_112 rfl rfl ?_
            refine zr_bipush (v := 33) dX12_write_113 (by decide) ?_
            refine zr_callV (As := [.int (33 : Int32)]) (fr' := fX12_says) (lo' := lX12_says) (bc' := 0) (bs' := 0) (bcr := bc) (bsr := bs) dX12_write_115 zs_X12_448 zi_X12_says zcl_12 (hS.has (a := 84) rfl rfl) rfl rfl (Nat.le_of_ble_eq_true rfl) (Nat.le_of_ble_eq_true rfl) (Nat.le_of_ble_eq_true rfl) (Nat.le_refl _) (Nat.le_refl _) ?_
            refine ZC.mono (fun w S' I5 L5 k => ?_) k
            obtain ⟨rfl, rfl, k⟩ := k
            show ZW G mX12_write fX12_write lX12_write 118 [zo G 84, .int v1, .int v2] [] S I5 L5 bc bs Q
            refine zr_aload_n dX12_write_118 rfl rfl ?_
            refine zr_bipush (v := 59) dX12_write_119 (by decide) ?_
            refine zr_callV (As := [.int (59 : Int32)]) (fr' := fX12_says) (lo' := lX12_says) (bc' := 0) (bs' := 0) (bcr := bc) (bsr := bs) dX12_write_121 zs_X12_448 zi_X12_says zcl_12 (hS.has (a := 84) rfl rfl) rfl rfl (Nat.le_of_ble_eq_true rfl) (Nat.le_of_ble_eq_true rfl) (Nat.le_of_ble_eq_true rfl) (Nat.le_refl _) (Nat.le_refl _) ?_
            refine ZC.mono (fun w S' I6 L6 k => ?_) k
            obtain ⟨rfl, rfl, k⟩ := k
            show ZW G mX12_write fX12_write lX12_write 124 [zo G 84, .int v1, .int v2] [] S I6 L6 bc bs Q
            refine zr_iinc (v := (v2 + 1)) dX12_write_124 rfl rfl (Nat.le_of_ble_eq_true rfl) rfl ?_
            refine zr_goto (tgt := 29) dX12_write_127 (by decide) ?_
            exact k
        · have k := k.2 hb
          refine zr_goto (tgt := 124) dX12_write_69 (by decide) ?_
          refine zr_iinc (v := (v2 + 1)) dX12_write_124 rfl rfl (Nat.le_of_ble_eq_true rfl) rfl ?_
          refine zr_goto (tgt := 29) dX12_write_127 (by decide) ?_
          exact k
set_option maxHeartbeats 2000000 in
theorem vX12_out_0 {G : Gp} {bc bs : Nat} {Q : zPost} {S : zSh} {I : zFI} {L : zFL} {v1 : Int32} (hS : zStd S)  (k : (((p_X12_isIn v1 (0 : Int32) ((I 84 90) - (1 : Int32))) = 0 → Q (some (.int (-1 : Int32))) S (u2 I 84 0 (0 : Int32)) L) ∧ (¬ (p_X12_isIn v1 (0 : Int32) ((I 84 90) - (1 : Int32))) = 0 → vp_in v1 400 ∧ Q (some (.int (I 138 v1.toNatClampNeg))) S (u2 I 84 0 (0 : Int32)) L))) : ZW G mX12_out fX12_out lX12_out 0 [zo G 84, .int v1] [] S I L bc bs Q := by
  refine zr_aload_n dX12_out_0 rfl rfl ?_
  refine zr_iconst (v := 0) dX12_out_1 (by decide) ?_
  refine zr_putI dX12_out_2 zf_X12_188 rfl (hS.has (a := 84) rfl rfl) rfl rfl ?_
  refine zr_aload_n dX12_out_5 rfl rfl ?_
  refine zr_iload_n dX12_out_6 rfl rfl ?_
  refine zr_iconst (v := 0) dX12_out_7 (by decide) ?_
  refine zr_aload_n dX12_out_8 rfl rfl ?_
  refine zr_getIv (x := (I 84 90)) dX12_out_9 zf_X12_445 rfl (hS.has (a := 84) rfl rfl) rfl ?_
  refine zr_iconst (v := 1) dX12_out_12 (by decide) ?_
  refine zr_isub dX12_out_13 ?_
  refine zr_callV (As := [.int v1, .int (0 : Int32), .int ((I 84 90) - (1 : Int32))]) (fr' := fX12_isIn) (lo' := lX12_isIn) (bc' := 0) (bs' := 0) (bcr := bc) (bsr := bs) dX12_out_14 zs_X12_201 zi_X12_isIn zcl_12 (hS.has (a := 84) rfl rfl) rfl rfl (Nat.le_of_ble_eq_true rfl) (Nat.le_of_ble_eq_true rfl) (Nat.le_of_ble_eq_true rfl) (Nat.le_refl _) (Nat.le_refl _) ?_
  refine sp_X12_isIn hS  ?_
  show ZW G mX12_out fX12_out lX12_out 17 [zo G 84, .int v1] [.int (p_X12_isIn v1 (0 : Int32) ((I 84 90) - (1 : Int32)))] S (u2 I 84 0 (0 : Int32)) L bc bs Q
  refine zr_ifeq (tgt := 29) dX12_out_17 (by decide) (fun hb => ?_) (fun hb => ?_)
  · have k := k.1 hb
    refine zr_iconst (v := -1) dX12_out_29 (by decide) ?_
    exact zr_ireturn dX12_out_30 rfl rfl k
  · have k := k.2 hb
    refine zr_aload_n dX12_out_20 rfl rfl ?_
    refine zr_getR dX12_out_21 zf_X12_185 rfl (hS.has (a := 84) rfl rfl) (hS.ref (a := 138) rfl) ?_
    refine zr_iload_n dX12_out_24 rfl rfl ?_
    obtain ⟨hi1, k⟩ := k
    refine zr_ialdv (x := (I 138 v1.toNatClampNeg)) dX12_out_25 (hS.has (a := 138) rfl rfl) hi1 rfl ?_
    refine zr_goto (tgt := 30) dX12_out_26 (by decide) ?_
    exact zr_ireturn dX12_out_30 rfl rfl k
