set_option maxHeartbeats 2000000 in
theorem vX12_write_0 {G : Gp} {bc bs : Nat} {Q : zPost} {S : zSh} {I : zFI} {L : zFL} {v1 : Int32} (hS : zStd S)  (k : ((¬ (p_X12_isIn v1 (0 : Int32) (1 : Int32)) = 0 → ZC G mX12_findJoins fX12_findJoins lX12_findJoins [zo G 84, .int v1] S (u2 I 84 0 (0 : Int32)) L 0 0 (fun w S' I1 L1 => w = none ∧ S = S' ∧ ZW G mX12_write fX12_write lX12_write 29 [zo G 84, .int v1, .int (0 : Int32)] [] S (u2 I1 84 90 (0 : Int32)) L1 bc bs Q)) ∧ ((p_X12_isIn v1 (0 : Int32) (1 : Int32)) = 0 → Q (some (.int (-1 : Int32))) S (u2 I 84 0 (0 : Int32)) L))) : ZW G mX12_write fX12_write lX12_write 0 [zo G 84, .int v1, .null] [] S I L bc bs Q := by
  refine zr_aload_n dX12_write_0 rfl rfl ?_
  refine zr_iconst (v := 0) dX12_write_1 (by decide) ?_
  refine zr_putI dX12_write_2 zf_X12_188 rfl (hS.has (a := 84) rfl rfl) rfl rfl ?_
  refine zr_aload_n dX12_write_5 rfl rfl ?_
  refine zr_iload_n dX12_write_6 rfl rfl ?_
  refine zr_iconst (v := 0) dX12_write_7 (by decide) ?_
  refine zr_iconst (v := 1) dX12_write_8 (by decide) ?_
  refine zr_callV (As := [.int v1, .int (0 : Int32), .int (1 : Int32)]) (fr' := fX12_isIn) (lo' := lX12_isIn) (bc' := 0) (bs' := 0) (bcr := bc) (bsr := bs) dX12_write_9 zs_X12_201 zi_X12_isIn zcl_12 (hS.has (a := 84) rfl rfl) rfl rfl (Nat.le_of_ble_eq_true rfl) (Nat.le_of_ble_eq_true rfl) (Nat.le_of_ble_eq_true rfl) (Nat.le_refl _) (Nat.le_refl _) ?_
  refine sp_X12_isIn hS  ?_
  show ZW G mX12_write fX12_write lX12_write 12 [zo G 84, .int v1, .null] [.int (p_X12_isIn v1 (0 : Int32) (1 : Int32))] S (u2 I 84 0 (0 : Int32)) L bc bs Q
  refine zr_ifne (tgt := 17) dX12_write_12 (by decide) (fun hb => ?_) (fun hb => ?_)
  · have k := k.1 hb
    refine zr_aload_n dX12_write_17 rfl rfl ?_
    refine zr_iload_n dX12_write_18 rfl rfl ?_
    refine zr_callV (As := [.int v1]) (fr' := fX12_findJoins) (lo' := lX12_findJoins) (bc' := 0) (bs' := 0) (bcr := bc) (bsr := bs) dX12_write_19 zs_X12_360 zi_X12_findJoins zcl_12 (hS.has (a := 84) rfl rfl) rfl rfl (Nat.le_of_ble_eq_true rfl) (Nat.le_of_ble_eq_true rfl) (Nat.le_of_ble_eq_true rfl) (Nat.le_refl _) (Nat.le_refl _) ?_
    refine ZC.mono (fun w S' I1 L1 k => ?_) k
    obtain ⟨rfl, rfl, k⟩ := k
    show ZW G mX12_write fX12_write lX12_write 22 [zo G 84, .int v1, .null] [] S I1 L1 bc bs Q
    refine zr_aload_n dX12_write_22 rfl rfl ?_
    refine zr_iconst (v := 0) dX12_write_23 (by decide) ?_
    refine zr_putI dX12_write_24 zf_X12_445 rfl (hS.has (a := 84) rfl rfl) rfl rfl ?_
    refine zr_iconst (v := 0) dX12_write_27 (by decide) ?_
    refine zr_istore_n dX12_write_28 rfl (Nat.le_of_ble_eq_true rfl) rfl ?_
    exact k
  · have k := k.2 hb
    refine zr_iconst (v := -1) dX12_write_15 (by decide) ?_
    exact zr_ireturn dX12_write_16 rfl rfl k
set_option maxHeartbeats 2000000 in
theorem vX12_write_29 {G : Gp} {bc bs : Nat} {Q : zPost} {S : zSh} {I : zFI} {L : zFL} {v1 : Int32} {v2 : Int32} (hS : zStd S)  (k : (((I 84 13) ≤ v2 → Q (some (.int (I 84 90))) S I L) ∧ (¬ (I 84 13) ≤ v2 → (¬ v2 < 0 → ¬ (I 84 13) ≤ v2 → vp_in v2 48) ∧ (((p_X12_isJoint I v2) = 0 → ZW G mX12_write fX12_write lX12_write 29 [zo G 84, .int v1, .int (v2 + 1)] [] S I L bc bs Q) ∧ (¬ (p_X12_isJoint I v2) = 0 → vp_in v2 48 ∧ ((¬ (I 96 v2.toNatClampNeg) = 0 → ZW G mX12_write fX12_write lX12_write 29 [zo G 84, .int v1, .int (v2 + 1)] [] S I L bc bs Q) ∧ ((I 96 v2.toNatClampNeg) = 0 → vp_in (((48 : Int32) * v1) + v2) 96 ∧ ((¬ (I 119 (((48 : Int32) * v1) + v2).toNatClampNeg) = (-1 : Int32) → ZC G mX12_saysNumber fX12_saysNumber lX12_saysNumber [zo G 84, .int v2] S I L 0 0 (fun w S' I1 L1 => w = none ∧ S = S' ∧ ZC G mX12_says fX12_says lX12_says [zo G 84, .int (45 : Int32)] S I1 L1 0 0 (fun w S' I2 L2 => w = none ∧ S = S' ∧ ZC G mX12_saysNumber fX12_saysNumber lX12_saysNumber [zo G 84, .int (I2 119 (((48 : Int32) * v1) + v2).toNatClampNeg)] S I2 L2 0 0 (fun w S' I3 L3 => w = none ∧ S = S' ∧ (((I3 120 (((48 : Int32) * v1) + v2).toNatClampNeg) = 0 → ZC G mX12_says fX12_says lX12_says [zo G 84, .int (59 : Int32)] S I3 L3 0 0 (fun w S' I4 L4 => w = none ∧ S = S' ∧ ZW G mX12_write fX12_write lX12_write 29 [zo G 84, .int v1, .int (v2 + 1)] [] S I4 L4 bc bs Q)) ∧ (¬ (I3 120 (((48 : Int32) * v1) + v2).toNatClampNeg) = 0 → ZC G mX12_says fX12_says lX12_says [zo G 84, .int (33 : Int32)] S I3 L3 0 0 (fun w S' I5 L5 => w = none ∧ S = S' ∧ ZC G mX12_says fX12_says lX12_says [zo G 84, .int (59 : Int32)] S I5 L5 0 0 (fun w S' I6 L6 => w = none ∧ S = S' ∧ ZW G mX12_write fX12_write lX12_write 29 [zo G 84, .int v1, .int (v2 + 1)] [] S I6 L6 bc bs Q)))))))) ∧ ((I 119 (((48 : Int32) * v1) + v2).toNatClampNeg) = (-1 : Int32) → ZW G mX12_write fX12_write lX12_write 29 [zo G 84, .int v1, .int (v2 + 1)] [] S I L bc bs Q))))))))) : ZW G mX12_write fX12_write lX12_write 29 [zo G 84, .int v1, .int v2] [] S I L bc bs Q := by
  refine zr_iload_n dX12_write_29 rfl rfl ?_
  refine zr_aload_n dX12_write_30 rfl rfl ?_
  refine zr_getIv (x := (I 84 13)) dX12_write_31 zf_X12_198 rfl (hS.has (a := 84) rfl rfl) rfl ?_
  refine zr_icge (tgt := 130) dX12_write_34 (by decide) (fun hb => ?_) (fun hb => ?_)
  · have k := k.1 hb
    refine zr_aload_n dX12_write_130 rfl rfl ?_
    refine zr_getIv (x := (I 84 90)) dX12_write_131 zf_X12_445 rfl (hS.has (a := 84) rfl rfl) rfl ?_
    exact zr_ireturn dX12_write_134 rfl rfl k
  · have k := k.2 hb
    refine zr_aload_n dX12_write_37 rfl rfl ?_
    refine zr_iload_n dX12_write_38 rfl rfl ?_
    refine zr_callV (As := [.int v2]) (fr' := fX12_isJoint) (lo' := lX12_isJoint) (bc' := 0) (bs' := 0) (bcr := bc) (bsr := bs) dX12_write_39 zs_X12_286 zi_X12_isJoint zcl_12 (hS.has (a := 84) rfl rfl) rfl rfl (Nat.le_of_ble_eq_true rfl) (Nat.le_of_ble_eq_true rfl) (Nat.le_of_ble_eq_true rfl) (Nat.le_refl _) (Nat.le_refl _) ?_
    obtain ⟨hq0, k⟩ := k
    refine sp_X12_isJoint hS hq0 ?_
    show ZW G mX12_write fX12_write lX12_write 42 [zo G 84, .int v1, .int v2] [.int (p_X12_isJoint I v2)] S I L bc bs Q
    refine zr_ifeq (tgt := 124) dX12_write_42 (by decide) (fun hb => ?_) (fun hb => ?_)
    · have k := k.1 hb
      refine zr_iinc (v := (v2 + 1)) dX12_write_124 rfl rfl (Nat.le_of_ble_eq_true rfl) rfl ?_
      refine zr_goto (tgt := 29) dX12_write_127 (by decide) ?_
      exact k
    · have k := k.2 hb
      refine zr_aload_n dX12_write_45 rfl rfl ?_
      refine zr_getR dX12_write_46 zf_X12_48 rfl (hS.has (a := 84) rfl rfl) (hS.ref (a := 96) rfl) ?_
      refine zr_iload_n dX12_write_49 rfl rfl ?_
      obtain ⟨hi1, k⟩ := k
      refine zr_ialdv (x := (I 96 v2.toNatClampNeg)) dX12_write_50 (hS.has (a := 96) rfl rfl) hi1 rfl ?_
      refine zr_ifne (tgt := 124) dX12_write_51 (by decide) (fun hb => ?_) (fun hb => ?_)
      · have k := k.1 hb
        refine zr_iinc (v := (v2 + 1)) dX12_write_124 rfl rfl (Nat.le_of_ble_eq_true rfl) rfl ?_
        refine zr_goto (tgt := 29) dX12_write_127 (by decide) ?_
        exact k
      · have k := k.2 hb
        refine zr_aload_n dX12_write_54 rfl rfl ?_
        refine zr_getR dX12_write_55 zf_X12_126 rfl (hS.has (a := 84) rfl rfl) (hS.ref (a := 119) rfl) ?_
        refine zr_bipush (v := 48) dX12_write_58 (by decide) ?_
        refine zr_iload_n dX12_write_60 rfl rfl ?_
        refine zr_imul dX12_write_61 ?_
        refine zr_iload_n dX12_write_62 rfl rfl ?_
        refine zr_iadd dX12_write_63 ?_
        obtain ⟨hi2, k⟩ := k
        refine zr_ialdv (x := (I 119 (((48 : Int32) * v1) + v2).toNatClampNeg)) dX12_write_64 (hS.has (a := 119) rfl rfl) hi2 rfl ?_
        refine zr_iconst (v := -1) dX12_write_65 (by decide) ?_
        refine zr_icne (tgt := 72) dX12_write_66 (by decide) (fun hb => ?_) (fun hb => ?_)
        · have k := k.1 hb
          refine zr_aload_n dX12_write_72 rfl rfl ?_
          refine zr_iload_n dX12_write_73 rfl rfl ?_
          refine zr_callV (As := [.int v2]) (fr' := fX12_saysNumber) (lo' := lX12_saysNumber) (bc' := 0) (bs' := 0) (bcr := bc) (bsr := bs) dX12_write_74 zs_X12_451 zi_X12_saysNumber zcl_12 (hS.has (a := 84) rfl rfl) rfl rfl (Nat.le_of_ble_eq_true rfl) (Nat.le_of_ble_eq_true rfl) (Nat.le_of_ble_eq_true rfl) (Nat.le_refl _) (Nat.le_refl _) ?_
          refine ZC.mono (fun w S' I1 L1 k => ?_) k
          obtain ⟨rfl, rfl, k⟩ := k
          show ZW G mX12_write fX12_write lX12_write 77 [zo G 84, .int v1, .int v2] [] S I1 L1 bc bs Q
          refine zr_aload_n dX12_write_77 rfl rfl ?_
          refine zr_bipush (v := 45) dX12_write_78 (by decide) ?_
          refine zr_callV (As := [.int (45 : Int32)]) (fr' := fX12_says) (lo' := lX12_says) (bc' := 0) (bs' := 0) (bcr := bc) (bsr := bs) dX12_write_80 zs_X12_448 zi_X12_says zcl_12 (hS.has (a := 84) rfl rfl) rfl rfl (Nat.le_of_ble_eq_true rfl) (Nat.le_of_ble_eq_true rfl) (Nat.le_of_ble_eq_true rfl) (Nat.le_refl _) (Nat.le_refl _) ?_
          refine ZC.mono (fun w S' I2 L2 k => ?_) k
          obtain ⟨rfl, rfl, k⟩ := k
          show ZW G mX12_write fX12_write lX12_write 83 [zo G 84, .int v1, .int v2] [] S I2 L2 bc bs Q
          refine zr_aload_n dX12_write_83 rfl rfl ?_
          refine zr_aload_n dX12_write_84 rfl rfl ?_
          refine zr_getR dX12_write_85 zf_X12_126 rfl (hS.has (a := 84) rfl rfl) (hS.ref (a := 119) rfl) ?_
          refine zr_bipush (v := 48) dX12_write_88 (by decide) ?_
          refine zr_iload_n dX12_write_90 rfl rfl ?_
          refine zr_imul dX12_write_91 ?_
          refine zr_iload_n dX12_write_92 rfl rfl ?_
          refine zr_iadd dX12_write_93 ?_
          refine zr_ialdv (x := (I2 119 (((48 : Int32) * v1) + v2).toNatClampNeg)) dX12_write_94 (hS.has (a := 119) rfl rfl) hi2 rfl ?_
          refine zr_callV (As := [.int (I2 119 (((48 : Int32) * v1) + v2).toNatClampNeg)]) (fr' := fX12_saysNumber) (lo' := lX12_saysNumber) (bc' := 0) (bs' := 0) (bcr := bc) (bsr := bs) dX12_write_95 zs_X12_451 zi_X12_saysNumber zcl_12 (hS.has (a := 84) rfl rfl) rfl rfl (Nat.le_of_ble_eq_true rfl) (Nat.le_of_ble_eq_true rfl) (Nat.le_of_ble_eq_true rfl) (Nat.le_refl _) (Nat.le_refl _) ?_
          refine ZC.mono (fun w S' I3 L3 k => ?_) k
          obtain ⟨rfl, rfl, k⟩ := k
          show ZW G mX12_write fX12_write lX12_write 98 [zo G 84, .int v1, .int v2] [] S I3 L3 bc bs Q
          refine zr_aload_n dX12_write_98 rfl rfl ?_
          refine zr_getR dX12_write_99 zf_X12_129 rfl (hS.has (a := 84) rfl rfl) (hS.ref (a := 120) rfl) ?_
          refine zr_bipush (v := 48) dX12_write_102 (by decide) ?_
          refine zr_iload_n dX12_write_104 rfl rfl ?_
          refine zr_imul dX12_write_105 ?_
          refine zr_iload_n dX12_write_106 rfl rfl ?_
          refine zr_iadd dX12_write_107 ?_
          refine zr_zaldv (x := (I3 120 (((48 : Int32) * v1) + v2).toNatClampNeg)) dX12_write_108 (hS.has (a := 120) rfl rfl) hi2 rfl ?_
          refine zr_ifeq (tgt := 118) dX12_write_109 (by decide) (fun hb => ?_) (fun hb => ?_)
          · have k := k.1 hb
            refine zr_aload_n dX12_write_118 rfl rfl ?_
            refine zr_bipush (v := 59) dX12_write_119 (by decide) ?_
            refine zr_callV (As := [.int (59 : Int32)]) (fr' := fX12_says) (lo' := lX12_says) (bc' := 0) (bs' := 0) (bcr := bc) (bsr := bs) dX12_write_121 zs_X12_448 zi_X12_says zcl_12 (hS.has (a := 84) rfl rfl) rfl rfl (Nat.le_of_ble_eq_true rfl) (Nat.le_of_ble_eq_true rfl) (Nat.le_of_ble_eq_true rfl) (Nat.le_refl _) (Nat.le_refl _) ?_
            refine ZC.mono (fun w S' I4 L4 k => ?_) k
            obtain ⟨rfl, rfl, k⟩ := k
            show ZW G mX12_write fX12_write lX12_write 124 [zo G 84, .int v1, .int v2] [] S I4 L4 bc bs Q
            refine zr_iinc (v := (v2 + 1)) dX12_write_124 rfl rfl (Nat.le_of_ble_eq_true rfl) rfl ?_
            refine zr_goto (tgt := 29) dX12_write_127 (by decide) ?_
            exact k
          · have k := k.2 hb
            refine zr_aload_n dX12_write_112 rfl rfl ?_
            refine zr_bipush (v := 33) dX12_write_113 (by decide) ?_
            refine zr_callV (As := [.int (33 : Int32)]) (fr' := fX12_says) (lo' := lX12_says) (bc' := 0) (bs' := 0) (bcr := bc) (bsr := bs) dX12_write_115 zs_X12_448 zi_X12_says zcl_12 (hS.has (a := 84) rfl rfl) rfl rfl (Nat.le_of_ble_eq_true rfl) (Nat.le_of_ble_eq_true rfl) (Nat.le_of_ble_eq_true rfl) (Nat.le_refl _) (Nat.le_refl _) ?_
            refine ZC.mono (fun w S' I5 L5 k => ?_) k
            obtain ⟨rfl, rfl, k⟩ := k
            show ZW G mX12_write fX12_write lX12_write 118 [zo G 84, .int v1, .int v2] [] S I5 L5 bc bs Q
            refine zr_aload_n dX12_write_118 rfl rfl ?_
            refine zr_bipush (v := 59) dX12_write_119 (by decide) ?_
            refine zr_callV (As := [.int (59 : Int32)]) (fr' := fX12_says) (lo' := lX12_says) (bc' := 0) (bs' := 0) (bcr := bc) (bsr := bs) dX12_write_121 zs_X12_448 zi_X12_says zcl_12 (hS.has (a := 84) rfl rfl) rfl rfl (Nat.le_of_ble_eq_true rfl) (Nat.le_of_ble_eq_true rfl) (Nat.le_of_ble_eq_true rfl) (Nat.le_refl _) (Nat.le_refl _) ?_
            refine ZC.mono (fun w S' I6 L6 k => ?_) k
            obtain ⟨rfl, rfl, k⟩ := k
            show ZW G mX12_write fX12_write lX12_write 124 [zo G 84, .int v1, .int v2] [] S I6 L6 bc bs Q
            refine zr_iinc (v := (v2 + 1)) dX12_write_124 rfl rfl (Nat.le_of_ble_eq_true rfl) rfl ?_
            refine zr_goto (tgt := 29) dX12_write_127 (by decide) ?_
            exact k
        · have k := k.2 hb
          refine zr_goto (tgt := 124) dX12_write_69 (by decide) ?_
          refine zr_iinc (v := (v2 + 1)) dX12_write_124 rfl rfl (Nat.le_of_ble_eq_true rfl) rfl ?_
          refine zr_goto (tgt := 29) dX12_write_127 (by decide) ?_
          exact k
set_option maxHeartbeats 2000000 in
theorem vX12_out_0 {G : Gp} {bc bs : Nat} {Q : zPost} {S : zSh} {I : zFI} {L : zFL} {v1 : Int32} (hS : zStd S)  (k : (((p_X12_isIn v1 (0 : Int32) ((I 84 90) - (1 : Int32))) = 0 → Q (some (.int (-1 : Int32))) S (u2 I 84 0 (0 : Int32)) L) ∧ (¬ (p_X12_isIn v1 (0 : Int32) ((I 84 90) - (1 : Int32))) = 0 → vp_in v1 400 ∧ Q (some (.int (I 138 v1.toNatClampNeg))) S (u2 I 84 0 (0 : Int32)) L))) : ZW G mX12_out fX12_out lX12_out 0 [zo G 84, .int v1] [] S I L bc bs Q := by
  refine zr_aload_n dX12_out_0 rfl rfl ?_
  refine zr_iconst (v := 0) dX12_out_1 (by decide) ?_
  refine zr_putI dX12_out_2 zf_X12_188 rfl (hS.has (a := 84) rfl rfl) rfl rfl ?_
  refine zr_aload_n dX12_out_5 rfl rfl ?_
  refine zr_iload_n dX12_out_6 rfl rfl ?_
  refine zr_iconst (v := 0) dX12_out_7 (by decide) ?_
  refine zr_aload_n dX12_out_8 rfl rfl ?_
  refine zr_getIv (x := (I 84 90)) dX12_out_9 zf_X12_445 rfl (hS.has (a := 84) rfl rfl) rfl ?_
  refine zr_iconst (v := 1) dX12_out_12 (by decide) ?_
  refine zr_isub dX12_out_13 ?_
  refine zr_callV (As := [.int v1, .int (0 : Int32), .int ((I 84 90) - (1 : Int32))]) (fr' := fX12_isIn) (lo' := lX12_isIn) (bc' := 0) (bs' := 0) (bcr := bc) (bsr := bs) dX12_out_14 zs_X12_201 zi_X12_isIn zcl_12 (hS.has (a := 84) rfl rfl) rfl rfl (Nat.le_of_ble_eq_true rfl) (Nat.le_of_ble_eq_true rfl) (Nat.le_of_ble_eq_true rfl) (Nat.le_refl _) (Nat.le_refl _) ?_
  refine sp_X12_isIn hS  ?_
  show ZW G mX12_out fX12_out lX12_out 17 [zo G 84, .int v1] [.int (p_X12_isIn v1 (0 : Int32) ((I 84 90) - (1 : Int32)))] S (u2 I 84 0 (0 : Int32)) L bc bs Q
  refine zr_ifeq (tgt := 29) dX12_out_17 (by decide) (fun hb => ?_) (fun hb => ?_)
  · have k := k.1 hb
    refine zr_iconst (v := -1) dX12_out_29 (by decide) ?_
    exact zr_ireturn dX12_out_30 rfl rfl k
  · have k := k.2 hb
    refine zr_aload_n dX12_out_20 rfl rfl ?_
    refine zr_getR dX12_out_21 zf_X12_185 rfl (hS.has (a := 84) rfl rfl) (hS.ref (a := 138) rfl) ?_
    refine zr_iload_n dX12_out_24 rfl rfl ?_
    obtain ⟨hi1, k⟩ := k
    refine zr_ialdv (x := (I 138 v1.toNatClampNeg)) dX12_out_25 (hS.has (a := 138) rfl rfl) hi1 rfl ?_
    refine zr_goto (tgt := 30) dX12_out_26 (by decide) ?_
    exact zr_ireturn dX12_out_30 rfl rfl k
