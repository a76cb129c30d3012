set_option maxHeartbeats 2000000 in
theorem vX12_join_0 {G : Gp} {bc bs : Nat} {Q : zPost} {S : zSh} {I : zFI} {L : zFL} {v1 : Int32} {v2 : Int32} (hS : zStd S)  (k : (((p_X12_isIn v1 (0 : Int32) (1 : Int32)) = 0 → Q (some (.int (-1 : Int32))) S (u2 I 84 0 (0 : Int32)) L) ∧ (¬ (p_X12_isIn v1 (0 : Int32) (1 : Int32)) = 0 → ((¬ (p_X12_isIn v2 (0 : Int32) (3 : Int32)) = 0 → ZC G mX12_findJoins fX12_findJoins lX12_findJoins [zo G 84, .int v1] S (u2 I 84 0 (0 : Int32)) L 0 0 (fun w S' I1 L1 => w = none ∧ S = S' ∧ ((¬ v2 = 0 → ((¬ v2 = (1 : Int32) → ((¬ v2 = (2 : Int32) → ZC G mX12_findFrames fX12_findFrames lX12_findFrames [zo G 84, .int v1] S I1 L1 0 0 (fun w S' I2 L2 => w = none ∧ S = S' ∧ Q (some (.int (I2 84 64))) S I2 L2)) ∧ (v2 = (2 : Int32) → vp_in v1 2 ∧ Q (some (.int (I1 123 v1.toNatClampNeg))) S I1 L1))) ∧ (v2 = (1 : Int32) → vp_in v1 2 ∧ Q (some (.int (I1 122 v1.toNatClampNeg))) S I1 L1))) ∧ (v2 = 0 → vp_in v1 2 ∧ Q (some (.int (I1 121 v1.toNatClampNeg))) S I1 L1)))) ∧ ((p_X12_isIn v2 (0 : Int32) (3 : Int32)) = 0 → Q (some (.int (-1 : Int32))) S (u2 I 84 0 (0 : Int32)) L))))) : ZW G mX12_join fX12_join lX12_join 0 [zo G 84, .int v1, .int v2] [] S I L bc bs Q := by
  refine zr_aload_n dX12_join_0 rfl rfl ?_
  refine zr_iconst (v := 0) dX12_join_1 (by decide) ?_
  refine zr_putI dX12_join_2 zf_X12_188 rfl (hS.has (a := 84) rfl rfl) rfl rfl ?_
  refine zr_aload_n dX12_join_5 rfl rfl ?_
  refine zr_iload_n dX12_join_6 rfl rfl ?_
  refine zr_iconst (v := 0) dX12_join_7 (by decide) ?_
  refine zr_iconst (v := 1) dX12_join_8 (by decide) ?_
  refine zr_callV (As := [.int v1, .int (0 : Int32), .int (1 : Int32)]) (fr' := fX12_isIn) (lo' := lX12_isIn) (bc' := 0) (bs' := 0) (bcr := bc) (bsr := bs) dX12_join_9 zs_X12_201 zi_X12_isIn zcl_12 (hS.has (a := 84) rfl rfl) rfl rfl (Nat.le_of_ble_eq_true rfl) (Nat.le_of_ble_eq_true rfl) (Nat.le_of_ble_eq_true rfl) (Nat.le_refl _) (Nat.le_refl _) ?_
  refine sp_X12_isIn hS  ?_
  show ZW G mX12_join fX12_join lX12_join 12 [zo G 84, .int v1, .int v2] [.int (p_X12_isIn v1 (0 : Int32) (1 : Int32))] S (u2 I 84 0 (0 : Int32)) L bc bs Q
  refine zr_ifeq (tgt := 25) dX12_join_12 (by decide) (fun hb => ?_) (fun hb => ?_)
  · have k := k.1 hb
    refine zr_iconst (v := -1) dX12_join_25 (by decide) ?_
    exact zr_ireturn dX12_join_26 rfl rfl k
  · have k := k.2 hb
    refine zr_aload_n dX12_join_15 rfl rfl ?_
    refine zr_iload_n dX12_join_16 rfl rfl ?_
    refine zr_iconst (v := 0) dX12_join_17 (by decide) ?_
    refine zr_iconst (v := 3) dX12_join_18 (by decide) ?_
    refine zr_callV (As := [.int v2, .int (0 : Int32), .int (3 : Int32)]) (fr' := fX12_isIn) (lo' := lX12_isIn) (bc' := 0) (bs' := 0) (bcr := bc) (bsr := bs) dX12_join_19 zs_X12_201 zi_X12_isIn zcl_12 (hS.has (a := 84) rfl rfl) rfl rfl (Nat.le_of_ble_eq_true rfl) (Nat.le_of_ble_eq_true rfl) (Nat.le_of_ble_eq_true rfl) (Nat.le_refl _) (Nat.le_refl _) ?_
    refine sp_X12_isIn hS  ?_
    show ZW G mX12_join fX12_join lX12_join 22 [zo G 84, .int v1, .int v2] [.int (p_X12_isIn v2 (0 : Int32) (3 : Int32))] S (u2 I 84 0 (0 : Int32)) L bc bs Q
    refine zr_ifne (tgt := 27) dX12_join_22 (by decide) (fun hb => ?_) (fun hb => ?_)
    · have k := k.1 hb
      refine zr_aload_n dX12_join_27 rfl rfl ?_
      refine zr_iload_n dX12_join_28 rfl rfl ?_
      refine zr_callV (As := [.int v1]) (fr' := fX12_findJoins) (lo' := lX12_findJoins) (bc' := 0) (bs' := 0) (bcr := bc) (bsr := bs) dX12_join_29 zs_X12_360 zi_X12_findJoins zcl_12 (hS.has (a := 84) rfl rfl) rfl rfl (Nat.le_of_ble_eq_true rfl) (Nat.le_of_ble_eq_true rfl) (Nat.le_of_ble_eq_true rfl) (Nat.le_refl _) (Nat.le_refl _) ?_
      refine ZC.mono (fun w S' I1 L1 k => ?_) k
      obtain ⟨rfl, rfl, k⟩ := k
      show ZW G mX12_join fX12_join lX12_join 32 [zo G 84, .int v1, .int v2] [] S I1 L1 bc bs Q
      refine zr_iload_n dX12_join_32 rfl rfl ?_
      refine zr_ifne (tgt := 43) dX12_join_33 (by decide) (fun hb => ?_) (fun hb => ?_)
      · have k := k.1 hb
        refine zr_iload_n dX12_join_43 rfl rfl ?_
        refine zr_iconst (v := 1) dX12_join_44 (by decide) ?_
        refine zr_icne (tgt := 55) dX12_join_45 (by decide) (fun hb => ?_) (fun hb => ?_)
        · have k := k.1 hb
          refine zr_iload_n dX12_join_55 rfl rfl ?_
          refine zr_iconst (v := 2) dX12_join_56 (by decide) ?_
          refine zr_icne (tgt := 67) dX12_join_57 (by decide) (fun hb => ?_) (fun hb => ?_)
          · have k := k.1 hb
            refine zr_aload_n dX12_join_67 rfl rfl ?_
            refine zr_iload_n dX12_join_68 rfl rfl ?_
            refine zr_callV (As := [.int v1]) (fr' := fX12_findFrames) (lo' := lX12_findFrames) (bc' := 0) (bs' := 0) (bcr := bc) (bsr := bs) dX12_join_69 zs_X12_363 zi_X12_findFrames zcl_12 (hS.has (a := 84) rfl rfl) rfl rfl (Nat.le_of_ble_eq_true rfl) (Nat.le_of_ble_eq_true rfl) (Nat.le_of_ble_eq_true rfl) (Nat.le_refl _) (Nat.le_refl _) ?_
            refine ZC.mono (fun w S' I2 L2 k => ?_) k
            obtain ⟨rfl, rfl, k⟩ := k
            show ZW G mX12_join fX12_join lX12_join 72 [zo G 84, .int v1, .int v2] [] S I2 L2 bc bs Q
            refine zr_aload_n dX12_join_72 rfl rfl ?_
            refine zr_getIv (x := (I2 84 64)) dX12_join_73 zf_X12_366 rfl (hS.has (a := 84) rfl rfl) rfl ?_
            exact zr_ireturn dX12_join_76 rfl rfl k
          · have k := k.2 hb
            refine zr_aload_n dX12_join_60 rfl rfl ?_
            refine zr_getR dX12_join_61 zf_X12_138 rfl (hS.has (a := 84) rfl rfl) (hS.ref (a := 123) rfl) ?_
            refine zr_iload_n dX12_join_64 rfl rfl ?_
            obtain ⟨hi1, k⟩ := k
            refine zr_ialdv (x := (I1 123 v1.toNatClampNeg)) dX12_join_65 (hS.has (a := 123) rfl rfl) hi1 rfl ?_
            exact zr_ireturn dX12_join_66 rfl rfl k
        · have k := k.2 hb
          refine zr_aload_n dX12_join_48 rfl rfl ?_
          refine zr_getR dX12_join_49 zf_X12_135 rfl (hS.has (a := 84) rfl rfl) (hS.ref (a := 122) rfl) ?_
          refine zr_iload_n dX12_join_52 rfl rfl ?_
          obtain ⟨hi2, k⟩ := k
          refine zr_ialdv (x := (I1 122 v1.toNatClampNeg)) dX12_join_53 (hS.has (a := 122) rfl rfl) hi2 rfl ?_
          exact zr_ireturn dX12_join_54 rfl rfl k
      · have k := k.2 hb
        refine zr_aload_n dX12_join_36 rfl rfl ?_
        refine zr_getR dX12_join_37 zf_X12_132 rfl (hS.has (a := 84) rfl rfl) (hS.ref (a := 121) rfl) ?_
        refine zr_iload_n dX12_join_40 rfl rfl ?_
        obtain ⟨hi3, k⟩ := k
        refine zr_ialdv (x := (I1 121 v1.toNatClampNeg)) dX12_join_41 (hS.has (a := 121) rfl rfl) hi3 rfl ?_
        exact zr_ireturn dX12_join_42 rfl rfl k
    · have k := k.2 hb
      refine zr_iconst (v := -1) dX12_join_25 (by decide) ?_
      exact zr_ireturn dX12_join_26 rfl rfl k
set_option maxHeartbeats 2000000 in
theorem vX12_mate_0 {G : Gp} {bc bs : Nat} {Q : zPost} {S : zSh} {I : zFI} {L : zFL} {v1 : Int32} {v2 : Int32} (hS : zStd S)  (k : (((p_X12_isIn v1 (0 : Int32) (1 : Int32)) = 0 → Q (some (.int (-1 : Int32))) S (u2 I 84 0 (0 : Int32)) L) ∧ (¬ (p_X12_isIn v1 (0 : Int32) (1 : Int32)) = 0 → (¬ v2 < 0 → ¬ ((u2 I 84 0 (0 : Int32)) 84 13) ≤ v2 → vp_in v2 48) ∧ ((¬ (p_X12_isJoint (u2 I 84 0 (0 : Int32)) v2) = 0 → ZC G mX12_findJoins fX12_findJoins lX12_findJoins [zo G 84, .int v1] S (u2 I 84 0 (0 : Int32)) L 0 0 (fun w S' I1 L1 => w = none ∧ S = S' ∧ vp_in (((48 : Int32) * v1) + v2) 96 ∧ Q (some (.int (I1 119 (((48 : Int32) * v1) + v2).toNatClampNeg))) S I1 L1)) ∧ ((p_X12_isJoint (u2 I 84 0 (0 : Int32)) v2) = 0 → Q (some (.int (-1 : Int32))) S (u2 I 84 0 (0 : Int32)) L))))) : ZW G mX12_mate fX12_mate lX12_mate 0 [zo G 84, .int v1, .int v2] [] S I L bc bs Q := by
  refine zr_aload_n dX12_mate_0 rfl rfl ?_
  refine zr_iconst (v := 0) dX12_mate_1 (by decide) ?_
  refine zr_putI dX12_mate_2 zf_X12_188 rfl (hS.has (a := 84) rfl rfl) rfl rfl ?_
  refine zr_aload_n dX12_mate_5 rfl rfl ?_
  refine zr_iload_n dX12_mate_6 rfl rfl ?_
  refine zr_iconst (v := 0) dX12_mate_7 (by decide) ?_
  refine zr_iconst (v := 1) dX12_mate_8 (by decide) ?_
  refine zr_callV (As := [.int v1, .int (0 : Int32), .int (1 : Int32)]) (fr' := fX12_isIn) (lo' := lX12_isIn) (bc' := 0) (bs' := 0) (bcr := bc) (bsr := bs) dX12_mate_9 zs_X12_201 zi_X12_isIn zcl_12 (hS.has (a := 84) rfl rfl) rfl rfl (Nat.le_of_ble_eq_true rfl) (Nat.le_of_ble_eq_true rfl) (Nat.le_of_ble_eq_true rfl) (Nat.le_refl _) (Nat.le_refl _) ?_
  refine sp_X12_isIn hS  ?_
  show ZW G mX12_mate fX12_mate lX12_mate 12 [zo G 84, .int v1, .int v2] [.int (p_X12_isIn v1 (0 : Int32) (1 : Int32))] S (u2 I 84 0 (0 : Int32)) L bc bs Q
  refine zr_ifeq (tgt := 23) dX12_mate_12 (by decide) (fun hb => ?_) (fun hb => ?_)
  · have k := k.1 hb
    refine zr_iconst (v := -1) dX12_mate_23 (by decide) ?_
    exact zr_ireturn dX12_mate_24 rfl rfl k
  · have k := k.2 hb
    refine zr_aload_n dX12_mate_15 rfl rfl ?_
    refine zr_iload_n dX12_mate_16 rfl rfl ?_
    refine zr_callV (As := [.int v2]) (fr' := fX12_isJoint) (lo' := lX12_isJoint) (bc' := 0) (bs' := 0) (bcr := bc) (bsr := bs) dX12_mate_17 zs_X12_286 zi_X12_isJoint zcl_12 (hS.has (a := 84) rfl rfl) rfl rfl (Nat.le_of_ble_eq_true rfl) (Nat.le_of_ble_eq_true rfl) (Nat.le_of_ble_eq_true rfl) (Nat.le_refl _) (Nat.le_refl _) ?_
    obtain ⟨hq0, k⟩ := k
    refine sp_X12_isJoint hS hq0 ?_
    show ZW G mX12_mate fX12_mate lX12_mate 20 [zo G 84, .int v1, .int v2] [.int (p_X12_isJoint (u2 I 84 0 (0 : Int32)) v2)] S (u2 I 84 0 (0 : Int32)) L bc bs Q
    refine zr_ifne (tgt := 25) dX12_mate_20 (by decide) (fun hb => ?_) (fun hb => ?_)
    · have k := k.1 hb
      refine zr_aload_n dX12_mate_25 rfl rfl ?_
      refine zr_iload_n dX12_mate_26 rfl rfl ?_
      refine zr_callV (As := [.int v1]) (fr' := fX12_findJoins) (lo' := lX12_findJoins) (bc' := 0) (bs' := 0) (bcr := bc) (bsr := bs) dX12_mate_27 zs_X12_360 zi_X12_findJoins zcl_12 (hS.has (a := 84) rfl rfl) rfl rfl (Nat.le_of_ble_eq_true rfl) (Nat.le_of_ble_eq_true rfl) (Nat.le_of_ble_eq_true rfl) (Nat.le_refl _) (Nat.le_refl _) ?_
      refine ZC.mono (fun w S' I1 L1 k => ?_) k
      obtain ⟨rfl, rfl, k⟩ := k
      show ZW G mX12_mate fX12_mate lX12_mate 30 [zo G 84, .int v1, .int v2] [] S I1 L1 bc bs Q
      refine zr_aload_n dX12_mate_30 rfl rfl ?_
      refine zr_getR dX12_mate_31 zf_X12_126 rfl (hS.has (a := 84) rfl rfl) (hS.ref (a := 119) rfl) ?_
      refine zr_bipush (v := 48) dX12_mate_34 (by decide) ?_
      refine zr_iload_n dX12_mate_36 rfl rfl ?_
      refine zr_imul dX12_mate_37 ?_
      refine zr_iload_n dX12_mate_38 rfl rfl ?_
      refine zr_iadd dX12_mate_39 ?_
      obtain ⟨hi1, k⟩ := k
      refine zr_ialdv (x := (I1 119 (((48 : Int32) * v1) + v2).toNatClampNeg)) dX12_mate_40 (hS.has (a := 119) rfl rfl) hi1 rfl ?_
      exact zr_ireturn dX12_mate_41 rfl rfl k
    · have k := k.2 hb
      refine zr_iconst (v := -1) dX12_mate_23 (by decide) ?_
      exact zr_ireturn dX12_mate_24 rfl rfl k
set_option maxHeartbeats 2000000 in
theorem vX12_forced_0 {G : Gp} {bc bs : Nat} {Q : zPost} {S : zSh} {I : zFI} {L : zFL} {v1 : Int32} {v2 : Int32} (hS : zStd S)  (k : (((p_X12_isIn v1 (0 : Int32) (1 : Int32)) = 0 → Q (some (.int (-1 : Int32))) S (u2 I 84 0 (0 : Int32)) L) ∧ (¬ (p_X12_isIn v1 (0 : Int32) (1 : Int32)) = 0 → (¬ v2 < 0 → ¬ ((u2 I 84 0 (0 : Int32)) 84 13) ≤ v2 → vp_in v2 48) ∧ ((¬ (p_X12_isJoint (u2 I 84 0 (0 : Int32)) v2) = 0 → ZC G mX12_findJoins fX12_findJoins lX12_findJoins [zo G 84, .int v1] S (u2 I 84 0 (0 : Int32)) L 0 0 (fun w S' I1 L1 => w = none ∧ S = S' ∧ vp_in (((48 : Int32) * v1) + v2) 96 ∧ ((¬ (I1 119 (((48 : Int32) * v1) + v2).toNatClampNeg) = (-1 : Int32) → (((I1 120 (((48 : Int32) * v1) + v2).toNatClampNeg) = 0 → Q (some (.int (0 : Int32))) S I1 L1) ∧ (¬ (I1 120 (((48 : Int32) * v1) + v2).toNatClampNeg) = 0 → Q (some (.int (1 : Int32))) S I1 L1))) ∧ ((I1 119 (((48 : Int32) * v1) + v2).toNatClampNeg) = (-1 : Int32) → Q (some (.int (-1 : Int32))) S I1 L1)))) ∧ ((p_X12_isJoint (u2 I 84 0 (0 : Int32)) v2) = 0 → Q (some (.int (-1 : Int32))) S (u2 I 84 0 (0 : Int32)) L))))) : ZW G mX12_forced fX12_forced lX12_forced 0 [zo G 84, .int v1, .int v2] [] S I L bc bs Q := by
  refine zr_aload_n dX12_forced_0 rfl rfl ?_
  refine zr_iconst (v := 0) dX12_forced_1 (by decide) ?_
  refine zr_putI dX12_forced_2 zf_X12_188 rfl (hS.has (a := 84) rfl rfl) rfl rfl ?_
  refine zr_aload_n dX12_forced_5 rfl rfl ?_
  refine zr_iload_n dX12_forced_6 rfl rfl ?_
  refine zr_iconst (v := 0) dX12_forced_7 (by decide) ?_
  refine zr_iconst (v := 1) dX12_forced_8 (by decide) ?_
  refine zr_callV (As := [.int v1, .int (0 : Int32), .int (1 : Int32)]) (fr' := fX12_isIn) (lo' := lX12_isIn) (bc' := 0) (bs' := 0) (bcr := bc) (bsr := bs) dX12_forced_9 zs_X12_201 zi_X12_isIn zcl_12 (hS.has (a := 84) rfl rfl) rfl rfl (Nat.le_of_ble_eq_true rfl) (Nat.le_of_ble_eq_true rfl) (Nat.le_of_ble_eq_true rfl) (Nat.le_refl _) (Nat.le_refl _) ?_
  refine sp_X12_isIn hS  ?_
  show ZW G mX12_forced fX12_forced lX12_forced 12 [zo G 84, .int v1, .int v2] [.int (p_X12_isIn v1 (0 : Int32) (1 : Int32))] S (u2 I 84 0 (0 : Int32)) L bc bs Q
  refine zr_ifeq (tgt := 23) dX12_forced_12 (by decide) (fun hb => ?_) (fun hb => ?_)
  · have k := k.1 hb
    refine zr_iconst (v := -1) dX12_forced_23 (by decide) ?_
    exact zr_ireturn dX12_forced_24 rfl rfl k
  · have k := k.2 hb
    refine zr_aload_n dX12_forced_15 rfl rfl ?_
    refine zr_iload_n dX12_forced_16 rfl rfl ?_
    refine zr_callV (As := [.int v2]) (fr' := fX12_isJoint) (lo' := lX12_isJoint) (bc' := 0) (bs' := 0) (bcr := bc) (bsr := bs) dX12_forced_17 zs_X12_286 zi_X12_isJoint zcl_12 (hS.has (a := 84) rfl rfl) rfl rfl (Nat.le_of_ble_eq_true rfl) (Nat.le_of_ble_eq_true rfl) (Nat.le_of_ble_eq_true rfl) (Nat.le_refl _) (Nat.le_refl _) ?_
    obtain ⟨hq0, k⟩ := k
    refine sp_X12_isJoint hS hq0 ?_
    show ZW G mX12_forced fX12_forced lX12_forced 20 [zo G 84, .int v1, .int v2] [.int (p_X12_isJoint (u2 I 84 0 (0 : Int32)) v2)] S (u2 I 84 0 (0 : Int32)) L bc bs Q
    refine zr_ifne (tgt := 25) dX12_forced_20 (by decide) (fun hb => ?_) (fun hb => ?_)
    · have k := k.1 hb
      refine zr_aload_n dX12_forced_25 rfl rfl ?_
      refine zr_iload_n dX12_forced_26 rfl rfl ?_
      refine zr_callV (As := [.int v1]) (fr' := fX12_findJoins) (lo' := lX12_findJoins) (bc' := 0) (bs' := 0) (bcr := bc) (bsr := bs) dX12_forced_27 zs_X12_360 zi_X12_findJoins zcl_12 (hS.has (a := 84) rfl rfl) rfl rfl (Nat.le_of_ble_eq_true rfl) (Nat.le_of_ble_eq_true rfl) (Nat.le_of_ble_eq_true rfl) (Nat.le_refl _) (Nat.le_refl _) ?_
      refine ZC.mono (fun w S' I1 L1 k => ?_) k
      obtain ⟨rfl, rfl, k⟩ := k
      show ZW G mX12_forced fX12_forced lX12_forced 30 [zo G 84, .int v1, .int v2] [] S I1 L1 bc bs Q
      refine zr_aload_n dX12_forced_30 rfl rfl ?_
      refine zr_getR dX12_forced_31 zf_X12_126 rfl (hS.has (a := 84) rfl rfl) (hS.ref (a := 119) rfl) ?_
      refine zr_bipush (v := 48) dX12_forced_34 (by decide) ?_
      refine zr_iload_n dX12_forced_36 rfl rfl ?_
      refine zr_imul dX12_forced_37 ?_
      refine zr_iload_n dX12_forced_38 rfl rfl ?_
      refine zr_iadd dX12_forced_39 ?_
      obtain ⟨hi1, k⟩ := k
      refine zr_ialdv (x := (I1 119 (((48 : Int32) * v1) + v2).toNatClampNeg)) dX12_forced_40 (hS.has (a := 119) rfl rfl) hi1 rfl ?_
      refine zr_iconst (v := -1) dX12_forced_41 (by decide) ?_
      refine zr_icne (tgt := 49) dX12_forced_42 (by decide) (fun hb => ?_) (fun hb => ?_)
      · have k := k.1 hb
        refine zr_aload_n dX12_forced_49 rfl rfl ?_
        refine zr_getR dX12_forced_50 zf_X12_129 rfl (hS.has (a := 84) rfl rfl) (hS.ref (a := 120) rfl) ?_
        refine zr_bipush (v := 48) dX12_forced_53 (by decide) ?_
        refine zr_iload_n dX12_forced_55 rfl rfl ?_
        refine zr_imul dX12_forced_56 ?_
        refine zr_iload_n dX12_forced_57 rfl rfl ?_
        refine zr_iadd dX12_forced_58 ?_
        refine zr_zaldv (x := (I1 120 (((48 : Int32) * v1) + v2).toNatClampNeg)) dX12_forced_59 (hS.has (a := 120) rfl rfl) hi1 rfl ?_
        refine zr_ifeq (tgt := 67) dX12_forced_60 (by decide) (fun hb => ?_) (fun hb => ?_)
        · have k := k.1 hb
          refine zr_iconst (v := 0) dX12_forced_67 (by decide) ?_
          exact zr_ireturn dX12_forced_68 rfl rfl k
        · have k := k.2 hb
          refine zr_iconst (v := 1) dX12_forced_63 (by decide) ?_
          refine zr_goto (tgt := 68) dX12_forced_64 (by decide) ?_
          exact zr_ireturn dX12_forced_68 rfl rfl k
      · have k := k.2 hb
        refine zr_iconst (v := -1) dX12_forced_45 (by decide) ?_
        refine zr_goto (tgt := 68) dX12_forced_46 (by decide) ?_
        exact zr_ireturn dX12_forced_68 rfl rfl k
    · have k := k.2 hb
      refine zr_iconst (v := -1) dX12_forced_23 (by decide) ?_
      exact zr_ireturn dX12_forced_24 rfl rfl k
set_option maxHeartbeats 2000000 in
theorem vX12_ones_0 {G : Gp} {bc bs : Nat} {Q : zPost} {S : zSh} {I : zFI} {L : zFL} {v1 : Int32} (hS : zStd S)  (k : ZW G mX12_ones fX12_ones lX12_ones 4 [zo G 84, .int v1, .int (0 : Int32), .int v1] [] S I L bc bs Q) : ZW G mX12_ones fX12_ones lX12_ones 0 [zo G 84, .int v1, .null, .null] [] S I L bc bs Q := by
  refine zr_iconst (v := 0) dX12_ones_0 (by decide) ?_
  refine zr_istore_n dX12_ones_1 rfl (Nat.le_of_ble_eq_true rfl) rfl ?_
  refine zr_iload_n dX12_ones_2 rfl rfl ?_
  refine zr_istore_n dX12_ones_3 rfl (Nat.le_of_ble_eq_true rfl) rfl ?_
  exact k
set_option maxHeartbeats 2000000 in
theorem vX12_ones_4 {G : Gp} {bc bs : Nat} {Q : zPost} {S : zSh} {I : zFI} {L : zFL} {v1 : Int32} {v2 : Int32} {v3 : Int32} (hS : zStd S)  (k : ((v3 = 0 → Q (some (.int v2)) S I L) ∧ (¬ v3 = 0 → ZW G mX12_ones fX12_ones lX12_ones 4 [zo G 84, .int v1, .int (v2 + (1 : Int32)), .int (v3 &&& (v3 - (1 : Int32)))] [] S I L bc bs Q))) : ZW G mX12_ones fX12_ones lX12_ones 4 [zo G 84, .int v1, .int v2, .int v3] [] S I L bc bs Q := by
  refine zr_iload_n dX12_ones_4 rfl rfl ?_
  refine zr_ifeq (tgt := 21) dX12_ones_5 (by decide) (fun hb => ?_) (fun hb => ?_)
  · have k := k.1 hb
    refine zr_iload_n dX12_ones_21 rfl rfl ?_
    exact zr_ireturn dX12_ones_22 rfl rfl k
  · have k := k.2 hb
    refine zr_iload_n dX12_ones_8 rfl rfl ?_
    refine zr_iconst (v := 1) dX12_ones_9 (by decide) ?_
    refine zr_iadd dX12_ones_10 ?_
    refine zr_istore_n dX12_ones_11 rfl (Nat.le_of_ble_eq_true rfl) rfl ?_
    refine zr_iload_n dX12_ones_12 rfl rfl ?_
    refine zr_iload_n dX12_ones_13 rfl rfl ?_
    refine zr_iconst (v := 1) dX12_ones_14 (by decide) ?_
    refine zr_isub dX12_ones_15 ?_
    refine zr_iand dX12_ones_16 ?_
    refine zr_istore_n dX12_ones_17 rfl (Nat.le_of_ble_eq_true rfl) rfl ?_
    refine zr_goto (tgt := 4) dX12_ones_18 (by decide) ?_
    exact k
set_option maxHeartbeats 2000000 in
theorem vX12_hasFrame_0 {G : Gp} {bc bs : Nat} {Q : zPost} {S : zSh} {I : zFI} {L : zFL} {v1 : Int32} {v2 : Int32} (hS : zStd S)  (k : ((¬ (p_X12_isIn v1 (0 : Int32) (1 : Int32)) = 0 → ZC G mX12_findJoins fX12_findJoins lX12_findJoins [zo G 84, .int v1] S I L 0 0 (fun w S' I1 L1 => w = none ∧ S = S' ∧ ZC G mX12_findFrames fX12_findFrames lX12_findFrames [zo G 84, .int v1] S I1 L1 0 0 (fun w S' I2 L2 => w = none ∧ S = S' ∧ Q (some (.int (p_X12_isIn v2 (0 : Int32) ((I2 84 64) - (1 : Int32))))) S I2 L2))) ∧ ((p_X12_isIn v1 (0 : Int32) (1 : Int32)) = 0 → Q (some (.int (0 : Int32))) S I L))) : ZW G mX12_hasFrame fX12_hasFrame lX12_hasFrame 0 [zo G 84, .int v1, .int v2] [] S I L bc bs Q := by
  refine zr_aload_n dX12_hasFrame_0 rfl rfl ?_
  refine zr_iload_n dX12_hasFrame_1 rfl rfl ?_
  refine zr_iconst (v := 0) dX12_hasFrame_2 (by decide) ?_
  refine zr_iconst (v := 1) dX12_hasFrame_3 (by decide) ?_
  refine zr_callV (As := [.int v1, .int (0 : Int32), .int (1 : Int32)]) (fr' := fX12_isIn) (lo' := lX12_isIn) (bc' := 0) (bs' := 0) (bcr := bc) (bsr := bs) dX12_hasFrame_4 zs_X12_201 zi_X12_isIn zcl_12 (hS.has (a := 84) rfl rfl) rfl rfl (Nat.le_of_ble_eq_true rfl) (Nat.le_of_ble_eq_true rfl) (Nat.le_of_ble_eq_true rfl) (Nat.le_refl _) (Nat.le_refl _) ?_
  refine sp_X12_isIn hS  ?_
  show ZW G mX12_hasFrame fX12_hasFrame lX12_hasFrame 7 [zo G 84, .int v1, .int v2] [.int (p_X12_isIn v1 (0 : Int32) (1 : Int32))] S I L bc bs Q
  refine zr_ifne (tgt := 12) dX12_hasFrame_7 (by decide) (fun hb => ?_) (fun hb => ?_)
  · have k := k.1 hb
    refine zr_aload_n dX12_hasFrame_12 rfl rfl ?_
    refine zr_iload_n dX12_hasFrame_13 rfl rfl ?_
    refine zr_callV (As := [.int v1]) (fr' := fX12_findJoins) (lo' := lX12_findJoins) (bc' := 0) (bs' := 0) (bcr := bc) (bsr := bs) dX12_hasFrame_14 zs_X12_360 zi_X12_findJoins zcl_12 (hS.has (a := 84) rfl rfl) rfl rfl (Nat.le_of_ble_eq_true rfl) (Nat.le_of_ble_eq_true rfl) (Nat.le_of_ble_eq_true rfl) (Nat.le_refl _) (Nat.le_refl _) ?_
    refine ZC.mono (fun w S' I1 L1 k => ?_) k
    obtain ⟨rfl, rfl, k⟩ := k
    show ZW G mX12_hasFrame fX12_hasFrame lX12_hasFrame 17 [zo G 84, .int v1, .int v2] [] S I1 L1 bc bs Q
    refine zr_aload_n dX12_hasFrame_17 rfl rfl ?_
    refine zr_iload_n dX12_hasFrame_18 rfl rfl ?_
    refine zr_callV (As := [.int v1]) (fr' := fX12_findFrames) (lo' := lX12_findFrames) (bc' := 0) (bs' := 0) (bcr := bc) (bsr := bs) dX12_hasFrame_19 zs_X12_363 zi_X12_findFrames zcl_12 (hS.has (a := 84) rfl rfl) rfl rfl (Nat.le_of_ble_eq_true rfl) (Nat.le_of_ble_eq_true rfl) (Nat.le_of_ble_eq_true rfl) (Nat.le_refl _) (Nat.le_refl _) ?_
    refine ZC.mono (fun w S' I2 L2 k => ?_) k
    obtain ⟨rfl, rfl, k⟩ := k
    show ZW G mX12_hasFrame fX12_hasFrame lX12_hasFrame 22 [zo G 84, .int v1, .int v2] [] S I2 L2 bc bs Q
    refine zr_aload_n dX12_hasFrame_22 rfl rfl ?_
    refine zr_iload_n dX12_hasFrame_23 rfl rfl ?_
    refine zr_iconst (v := 0) dX12_hasFrame_24 (by decide) ?_
    refine zr_aload_n dX12_hasFrame_25 rfl rfl ?_
    refine zr_getIv (x := (I2 84 64)) dX12_hasFrame_26 zf_X12_366 rfl (hS.has (a := 84) rfl rfl) rfl ?_
    refine zr_iconst (v := 1) dX12_hasFrame_29 (by decide) ?_
    refine zr_isub dX12_hasFrame_30 ?_
    refine zr_callV (As := [.int v2, .int (0 : Int32), .int ((I2 84 64) - (1 : Int32))]) (fr' := fX12_isIn) (lo' := lX12_isIn) (bc' := 0) (bs' := 0) (bcr := bc) (bsr := bs) dX12_hasFrame_31 zs_X12_201 zi_X12_isIn zcl_12 (hS.has (a := 84) rfl rfl) rfl rfl (Nat.le_of_ble_eq_true rfl) (Nat.le_of_ble_eq_true rfl) (Nat.le_of_ble_eq_true rfl) (Nat.le_refl _) (Nat.le_refl _) ?_
    refine sp_X12_isIn hS  ?_
    show ZW G mX12_hasFrame fX12_hasFrame lX12_hasFrame 34 [zo G 84, .int v1, .int v2] [.int (p_X12_isIn v2 (0 : Int32) ((I2 84 64) - (1 : Int32)))] S I2 L2 bc bs Q
    exact zr_ireturn dX12_hasFrame_34 rfl (zb01n (pb_X12_isIn _ _ _)) k
  · have k := k.2 hb
    refine zr_iconst (v := 0) dX12_hasFrame_10 (by decide) ?_
    exact zr_ireturn dX12_hasFrame_11 rfl rfl k
set_option maxHeartbeats 2000000 in
theorem vX12_frameOf_0 {G : Gp} {bc bs : Nat} {Q : zPost} {S : zSh} {I : zFI} {L : zFL} {v1 : Int32} {v2 : Int32} (hS : zStd S)  (k : (((p_X12_isIn v1 (0 : Int32) (1 : Int32)) = 0 → Q (some (.int (-1 : Int32))) S (u2 I 84 0 (0 : Int32)) L) ∧ (¬ (p_X12_isIn v1 (0 : Int32) (1 : Int32)) = 0 → (¬ v2 < 0 → ¬ ((u2 I 84 0 (0 : Int32)) 84 3) ≤ v2 → vp_in v2 16) ∧ ((¬ (p_X12_isTimber (u2 I 84 0 (0 : Int32)) v2) = 0 → ZC G mX12_findJoins fX12_findJoins lX12_findJoins [zo G 84, .int v1] S (u2 I 84 0 (0 : Int32)) L 0 0 (fun w S' I1 L1 => w = none ∧ S = S' ∧ ZC G mX12_findFrames fX12_findFrames lX12_findFrames [zo G 84, .int v1] S I1 L1 0 0 (fun w S' I2 L2 => w = none ∧ S = S' ∧ ZW G mX12_frameOf fX12_frameOf lX12_frameOf 37 [zo G 84, .int v1, .int v2, .int (0 : Int32)] [] S I2 L2 bc bs Q))) ∧ ((p_X12_isTimber (u2 I 84 0 (0 : Int32)) v2) = 0 → Q (some (.int (-1 : Int32))) S (u2 I 84 0 (0 : Int32)) L))))) : ZW G mX12_frameOf fX12_frameOf lX12_frameOf 0 [zo G 84, .int v1, .int v2, .null] [] S I L bc bs Q := by
  refine zr_aload_n dX12_frameOf_0 rfl rfl ?_
  refine zr_iconst (v := 0) dX12_frameOf_1 (by decide) ?_
  refine zr_putI dX12_frameOf_2 zf_X12_188 rfl (hS.has (a := 84) rfl rfl) rfl rfl ?_
  refine zr_aload_n dX12_frameOf_5 rfl rfl ?_
  refine zr_iload_n dX12_frameOf_6 rfl rfl ?_
  refine zr_iconst (v := 0) dX12_frameOf_7 (by decide) ?_
  refine zr_iconst (v := 1) dX12_frameOf_8 (by decide) ?_
  refine zr_callV (As := [.int v1, .int (0 : Int32), .int (1 : Int32)]) (fr' := fX12_isIn) (lo' := lX12_isIn) (bc' := 0) (bs' := 0) (bcr := bc) (bsr := bs) dX12_frameOf_9 zs_X12_201 zi_X12_isIn zcl_12 (hS.has (a := 84) rfl rfl) rfl rfl (Nat.le_of_ble_eq_true rfl) (Nat.le_of_ble_eq_true rfl) (Nat.le_of_ble_eq_true rfl) (Nat.le_refl _) (Nat.le_refl _) ?_
  refine sp_X12_isIn hS  ?_
  show ZW G mX12_frameOf fX12_frameOf lX12_frameOf 12 [zo G 84, .int v1, .int v2, .null] [.int (p_X12_isIn v1 (0 : Int32) (1 : Int32))] S (u2 I 84 0 (0 : Int32)) L bc bs Q
  refine zr_ifeq (tgt := 23) dX12_frameOf_12 (by decide) (fun hb => ?_) (fun hb => ?_)
  · have k := k.1 hb
    refine zr_iconst (v := -1) dX12_frameOf_23 (by decide) ?_
    exact zr_ireturn dX12_frameOf_24 rfl rfl k
  · have k := k.2 hb
    refine zr_aload_n dX12_frameOf_15 rfl rfl ?_
    refine zr_iload_n dX12_frameOf_16 rfl rfl ?_
    refine zr_callV (As := [.int v2]) (fr' := fX12_isTimber) (lo' := lX12_isTimber) (bc' := 0) (bs' := 0) (bcr := bc) (bsr := bs) dX12_frameOf_17 zs_X12_289 zi_X12_isTimber zcl_12 (hS.has (a := 84) rfl rfl) rfl rfl (Nat.le_of_ble_eq_true rfl) (Nat.le_of_ble_eq_true rfl) (Nat.le_of_ble_eq_true rfl) (Nat.le_refl _) (Nat.le_refl _) ?_
    obtain ⟨hq0, k⟩ := k
    refine sp_X12_isTimber hS hq0 ?_
    show ZW G mX12_frameOf fX12_frameOf lX12_frameOf 20 [zo G 84, .int v1, .int v2, .null] [.int (p_X12_isTimber (u2 I 84 0 (0 : Int32)) v2)] S (u2 I 84 0 (0 : Int32)) L bc bs Q
    refine zr_ifne (tgt := 25) dX12_frameOf_20 (by decide) (fun hb => ?_) (fun hb => ?_)
    · have k := k.1 hb
      refine zr_aload_n dX12_frameOf_25 rfl rfl ?_
      refine zr_iload_n dX12_frameOf_26 rfl rfl ?_
      refine zr_callV (As := [.int v1]) (fr' := fX12_findJoins) (lo' := lX12_findJoins) (bc' := 0) (bs' := 0) (bcr := bc) (bsr := bs) dX12_frameOf_27 zs_X12_360 zi_X12_findJoins zcl_12 (hS.has (a := 84) rfl rfl) rfl rfl (Nat.le_of_ble_eq_true rfl) (Nat.le_of_ble_eq_true rfl) (Nat.le_of_ble_eq_true rfl) (Nat.le_refl _) (Nat.le_refl _) ?_
      refine ZC.mono (fun w S' I1 L1 k => ?_) k
      obtain ⟨rfl, rfl, k⟩ := k
      show ZW G mX12_frameOf fX12_frameOf lX12_frameOf 30 [zo G 84, .int v1, .int v2, .null] [] S I1 L1 bc bs Q
      refine zr_aload_n dX12_frameOf_30 rfl rfl ?_
      refine zr_iload_n dX12_frameOf_31 rfl rfl ?_
      refine zr_callV (As := [.int v1]) (fr' := fX12_findFrames) (lo' := lX12_findFrames) (bc' := 0) (bs' := 0) (bcr := bc) (bsr := bs) dX12_frameOf_32 zs_X12_363 zi_X12_findFrames zcl_12 (hS.has (a := 84) rfl rfl) rfl rfl (Nat.le_of_ble_eq_true rfl) (Nat.le_of_ble_eq_true rfl) (Nat.le_of_ble_eq_true rfl) (Nat.le_refl _) (Nat.le_refl _) ?_
      refine ZC.mono (fun w S' I2 L2 k => ?_) k
      obtain ⟨rfl, rfl, k⟩ := k
      show ZW G mX12_frameOf fX12_frameOf lX12_frameOf 35 [zo G 84, .int v1, .int v2, .null] [] S I2 L2 bc bs Q
      refine zr_iconst (v := 0) dX12_frameOf_35 (by decide) ?_
      refine zr_istore_n dX12_frameOf_36 rfl (Nat.le_of_ble_eq_true rfl) rfl ?_
      exact k
    · have k := k.2 hb
      refine zr_iconst (v := -1) dX12_frameOf_23 (by decide) ?_
      exact zr_ireturn dX12_frameOf_24 rfl rfl k
set_option maxHeartbeats 2000000 in
theorem vX12_frameOf_37 {G : Gp} {bc bs : Nat} {Q : zPost} {S : zSh} {I : zFI} {L : zFL} {v1 : Int32} {v2 : Int32} {v3 : Int32} (hS : zStd S)  (k : (((I 84 64) ≤ v3 → Q (some (.int (-1 : Int32))) S I L) ∧ (¬ (I 84 64) ≤ v3 → vp_in v3 16 ∧ ((¬ (((I 125 v3.toNatClampNeg) >>> (v2 &&& 31)) &&& (1 : Int32)) = (1 : Int32) → ZW G mX12_frameOf fX12_frameOf lX12_frameOf 37 [zo G 84, .int v1, .int v2, .int (v3 + 1)] [] S I L bc bs Q) ∧ ((((I 125 v3.toNatClampNeg) >>> (v2 &&& 31)) &&& (1 : Int32)) = (1 : Int32) → Q (some (.int v3)) S I L))))) : ZW G mX12_frameOf fX12_frameOf lX12_frameOf 37 [zo G 84, .int v1, .int v2, .int v3] [] S I L bc bs Q := by
  refine zr_iload_n dX12_frameOf_37 rfl rfl ?_
  refine zr_aload_n dX12_frameOf_38 rfl rfl ?_
  refine zr_getIv (x := (I 84 64)) dX12_frameOf_39 zf_X12_366 rfl (hS.has (a := 84) rfl rfl) rfl ?_
  refine zr_icge (tgt := 67) dX12_frameOf_42 (by decide) (fun hb => ?_) (fun hb => ?_)
  · have k := k.1 hb
    refine zr_iconst (v := -1) dX12_frameOf_67 (by decide) ?_
    exact zr_ireturn dX12_frameOf_68 rfl rfl k
  · have k := k.2 hb
    refine zr_aload_n dX12_frameOf_45 rfl rfl ?_
    refine zr_getR dX12_frameOf_46 zf_X12_144 rfl (hS.has (a := 84) rfl rfl) (hS.ref (a := 125) rfl) ?_
    refine zr_iload_n dX12_frameOf_49 rfl rfl ?_
    obtain ⟨hi1, k⟩ := k
    refine zr_ialdv (x := (I 125 v3.toNatClampNeg)) dX12_frameOf_50 (hS.has (a := 125) rfl rfl) hi1 rfl ?_
    refine zr_iload_n dX12_frameOf_51 rfl rfl ?_
    refine zr_ishr dX12_frameOf_52 ?_
    refine zr_iconst (v := 1) dX12_frameOf_53 (by decide) ?_
    refine zr_iand dX12_frameOf_54 ?_
    refine zr_iconst (v := 1) dX12_frameOf_55 (by decide) ?_
    refine zr_icne (tgt := 61) dX12_frameOf_56 (by decide) (fun hb => ?_) (fun hb => ?_)
    · have k := k.1 hb
      refine zr_iinc (v := (v3 + 1)) dX12_frameOf_61 rfl rfl (Nat.le_of_ble_eq_true rfl) rfl ?_
      refine zr_goto (tgt := 37) dX12_frameOf_64 (by decide) ?_
      exact k
    · have k := k.2 hb
      refine zr_iload_n dX12_frameOf_59 rfl rfl ?_
      exact zr_ireturn dX12_frameOf_60 rfl rfl k
set_option maxHeartbeats 2000000 in
theorem vX12_pairsIn_0 {G : Gp} {bc bs : Nat} {Q : zPost} {S : zSh} {I : zFI} {L : zFL} {v1 : Int32} {v2 : Int32} (hS : zStd S)  (k : ZW G mX12_pairsIn fX12_pairsIn lX12_pairsIn 5 [zo G 84, .int v1, .int v2, .int (0 : Int32), .int (0 : Int32)] [] S I L bc bs Q) : ZW G mX12_pairsIn fX12_pairsIn lX12_pairsIn 0 [zo G 84, .int v1, .int v2, .null, .null] [] S I L bc bs Q := by
  refine zr_iconst (v := 0) dX12_pairsIn_0 (by decide) ?_
  refine zr_istore_n dX12_pairsIn_1 rfl (Nat.le_of_ble_eq_true rfl) rfl ?_
  refine zr_iconst (v := 0) dX12_pairsIn_2 (by decide) ?_
  refine zr_istore dX12_pairsIn_3 (Nat.le_of_ble_eq_true rfl) rfl ?_
  exact k
set_option maxHeartbeats 2000000 in
theorem vX12_pairsIn_5 {G : Gp} {bc bs : Nat} {Q : zPost} {S : zSh} {I : zFI} {L : zFL} {v1 : Int32} {v2 : Int32} {v3 : Int32} {v4 : Int32} (hS : zStd S)  (k : (((I 84 13) ≤ v4 → Q (some (.int v3)) S I L) ∧ (¬ (I 84 13) ≤ v4 → (¬ v4 < 0 → ¬ (I 84 13) ≤ v4 → vp_in v4 48) ∧ (((p_X12_isJoint I v4) = 0 → ZW G mX12_pairsIn fX12_pairsIn lX12_pairsIn 5 [zo G 84, .int v1, .int v2, .int v3, .int (v4 + 1)] [] S I L bc bs Q) ∧ (¬ (p_X12_isJoint I v4) = 0 → vp_in v4 48 ∧ ((¬ (I 96 v4.toNatClampNeg) = 0 → ZW G mX12_pairsIn fX12_pairsIn lX12_pairsIn 5 [zo G 84, .int v1, .int v2, .int v3, .int (v4 + 1)] [] S I L bc bs Q) ∧ ((I 96 v4.toNatClampNeg) = 0 → vp_in (((48 : Int32) * v1) + v4) 96 ∧ (((I 119 (((48 : Int32) * v1) + v4).toNatClampNeg) = (-1 : Int32) → ZW G mX12_pairsIn fX12_pairsIn lX12_pairsIn 5 [zo G 84, .int v1, .int v2, .int v3, .int (v4 + 1)] [] S I L bc bs Q) ∧ (¬ (I 119 (((48 : Int32) * v1) + v4).toNatClampNeg) = (-1 : Int32) → ((¬ ((v2 >>> ((I 94 v4.toNatClampNeg) &&& 31)) &&& (1 : Int32)) = (1 : Int32) → ZW G mX12_pairsIn fX12_pairsIn lX12_pairsIn 5 [zo G 84, .int v1, .int v2, .int v3, .int (v4 + 1)] [] S I L bc bs Q) ∧ (((v2 >>> ((I 94 v4.toNatClampNeg) &&& 31)) &&& (1 : Int32)) = (1 : Int32) → ZW G mX12_pairsIn fX12_pairsIn lX12_pairsIn 5 [zo G 84, .int v1, .int v2, .int (v3 + (1 : Int32)), .int (v4 + 1)] [] S I L bc bs Q))))))))))) : ZW G mX12_pairsIn fX12_pairsIn lX12_pairsIn 5 [zo G 84, .int v1, .int v2, .int v3, .int v4] [] S I L bc bs Q := by
  refine zr_iload dX12_pairsIn_5 rfl ?_
  refine zr_aload_n dX12_pairsIn_7 rfl rfl ?_
  refine zr_getIv (x := (I 84 13)) dX12_pairsIn_8 zf_X12_198 rfl (hS.has (a := 84) rfl rfl) rfl ?_
  refine zr_icge (tgt := 74) dX12_pairsIn_11 (by decide) (fun hb => ?_) (fun hb => ?_)
  · have k := k.1 hb
    refine zr_iload_n dX12_pairsIn_74 rfl rfl ?_
    exact zr_ireturn dX12_pairsIn_75 rfl rfl k
  · have k := k.2 hb
    refine zr_aload_n dX12_pairsIn_14 rfl rfl ?_
    refine zr_iload dX12_pairsIn_15 rfl ?_
    refine zr_callV (As := [.int v4]) (fr' := fX12_isJoint) (lo' := lX12_isJoint) (bc' := 0) (bs' := 0) (bcr := bc) (bsr := bs) dX12_pairsIn_17 zs_X12_286 zi_X12_isJoint zcl_12 (hS.has (a := 84) rfl rfl) rfl rfl (Nat.le_of_ble_eq_true rfl) (Nat.le_of_ble_eq_true rfl) (Nat.le_of_ble_eq_true rfl) (Nat.le_refl _) (Nat.le_refl _) ?_
    obtain ⟨hq0, k⟩ := k
    refine sp_X12_isJoint hS hq0 ?_
    show ZW G mX12_pairsIn fX12_pairsIn lX12_pairsIn 20 [zo G 84, .int v1, .int v2, .int v3, .int v4] [.int (p_X12_isJoint I v4)] S I L bc bs Q
    refine zr_ifeq (tgt := 68) dX12_pairsIn_20 (by decide) (fun hb => ?_) (fun hb => ?_)
    · have k := k.1 hb
      refine zr_iinc (v := (v4 + 1)) dX12_pairsIn_68 rfl rfl (Nat.le_of_ble_eq_true rfl) rfl ?_
      refine zr_goto (tgt := 5) dX12_pairsIn_71 (by decide) ?_
      exact k
    · have k := k.2 hb
      refine zr_aload_n dX12_pairsIn_23 rfl rfl ?_
      refine zr_getR dX12_pairsIn_24 zf_X12_48 rfl (hS.has (a := 84) rfl rfl) (hS.ref (a := 96) rfl) ?_
      refine zr_iload dX12_pairsIn_27 rfl ?_
      obtain ⟨hi1, k⟩ := k
      refine zr_ialdv (x := (I 96 v4.toNatClampNeg)) dX12_pairsIn_29 (hS.has (a := 96) rfl rfl) hi1 rfl ?_
      refine zr_ifne (tgt := 68) dX12_pairsIn_30 (by decide) (fun hb => ?_) (fun hb => ?_)
      · have k := k.1 hb
        refine zr_iinc (v := (v4 + 1)) dX12_pairsIn_68 rfl rfl (Nat.le_of_ble_eq_true rfl) rfl ?_
        refine zr_goto (tgt := 5) dX12_pairsIn_71 (by decide) ?_
        exact k
      · have k := k.2 hb
        refine zr_aload_n dX12_pairsIn_33 rfl rfl ?_
        refine zr_getR dX12_pairsIn_34 zf_X12_126 rfl (hS.has (a := 84) rfl rfl) (hS.ref (a := 119) rfl) ?_
        refine zr_bipush (v := 48) dX12_pairsIn_37 (by decide) ?_
        refine zr_iload_n dX12_pairsIn_39 rfl rfl ?_
        refine zr_imul dX12_pairsIn_40 ?_
        refine zr_iload dX12_pairsIn_41 rfl ?_
        refine zr_iadd dX12_pairsIn_43 ?_
        obtain ⟨hi2, k⟩ := k
        refine zr_ialdv (x := (I 119 (((48 : Int32) * v1) + v4).toNatClampNeg)) dX12_pairsIn_44 (hS.has (a := 119) rfl rfl) hi2 rfl ?_
        refine zr_iconst (v := -1) dX12_pairsIn_45 (by decide) ?_
        refine zr_iceq (tgt := 68) dX12_pairsIn_46 (by decide) (fun hb => ?_) (fun hb => ?_)
        · have k := k.1 hb
          refine zr_iinc (v := (v4 + 1)) dX12_pairsIn_68 rfl rfl (Nat.le_of_ble_eq_true rfl) rfl ?_
          refine zr_goto (tgt := 5) dX12_pairsIn_71 (by decide) ?_
          exact k
        · have k := k.2 hb
          refine zr_iload_n dX12_pairsIn_49 rfl rfl ?_
          refine zr_aload_n dX12_pairsIn_50 rfl rfl ?_
          refine zr_getR dX12_pairsIn_51 zf_X12_42 rfl (hS.has (a := 84) rfl rfl) (hS.ref (a := 94) rfl) ?_
          refine zr_iload dX12_pairsIn_54 rfl ?_
          refine zr_ialdv (x := (I 94 v4.toNatClampNeg)) dX12_pairsIn_56 (hS.has (a := 94) rfl rfl) hi1 rfl ?_
          refine zr_ishr dX12_pairsIn_57 ?_
          refine zr_iconst (v := 1) dX12_pairsIn_58 (by decide) ?_
          refine zr_iand dX12_pairsIn_59 ?_
          refine zr_iconst (v := 1) dX12_pairsIn_60 (by decide) ?_
          refine zr_icne (tgt := 68) dX12_pairsIn_61 (by decide) (fun hb => ?_) (fun hb => ?_)
          · have k := k.1 hb
            refine zr_iinc (v := (v4 + 1)) dX12_pairsIn_68 rfl rfl (Nat.le_of_ble_eq_true rfl) rfl ?_
            refine zr_goto (tgt := 5) dX12_pairsIn_71 (by decide) ?_
            exact k
          · have k := k.2 hb
            refine zr_iload_n dX12_pairsIn_64 rfl rfl ?_
            refine zr_iconst (v := 1) dX12_pairsIn_65 (by decide) ?_
            refine zr_iadd dX12_pairsIn_66 ?_
            refine zr_istore_n dX12_pairsIn_67 rfl (Nat.le_of_ble_eq_true rfl) rfl ?_
            refine zr_iinc (v := (v4 + 1)) dX12_pairsIn_68 rfl rfl (Nat.le_of_ble_eq_true rfl) rfl ?_
            refine zr_goto (tgt := 5) dX12_pairsIn_71 (by decide) ?_
            exact k
set_option maxHeartbeats 2000000 in
theorem vX12_props_0 {G : Gp} {bc bs : Nat} {Q : zPost} {S : zSh} {I : zFI} {L : zFL} {v1 : Int32} {v2 : Int32} (hS : zStd S)  (k : ZW G mX12_props fX12_props lX12_props 5 [zo G 84, .int v1, .int v2, .int (0 : Int32), .int (0 : Int32), .null] [] S I L bc bs Q) : ZW G mX12_props fX12_props lX12_props 0 [zo G 84, .int v1, .int v2, .null, .null, .null] [] S I L bc bs Q := by
  refine zr_iconst (v := 0) dX12_props_0 (by decide) ?_
  refine zr_istore_n dX12_props_1 rfl (Nat.le_of_ble_eq_true rfl) rfl ?_
  refine zr_iconst (v := 0) dX12_props_2 (by decide) ?_
  refine zr_istore dX12_props_3 (Nat.le_of_ble_eq_true rfl) rfl ?_
  exact k
set_option maxHeartbeats 2000000 in
theorem vX12_props_5 {G : Gp} {bc bs : Nat} {Q : zPost} {S : zSh} {I : zFI} {L : zFL} {v1 : Int32} {v2 : Int32} {v3 : Int32} {v4 : Int32} (hS : zStd S)  (k : (((I 84 66) ≤ v4 → Q (some (.int v3)) S I L) ∧ (¬ (I 84 66) ≤ v4 → ((¬ ((v2 >>> (v4 &&& 31)) &&& (1 : Int32)) = 0 → vp_in v4 16 ∧ ZC G mX12_ones fX12_ones lX12_ones [zo G 84, .int ((I 127 v4.toNatClampNeg) &&& v2)] S I L 0 0 (fun w S' I1 L1 => ∃ r1 : Int32, w = some (.int r1) ∧ S = S' ∧ ((v1 ≤ r1 → ZW G mX12_props fX12_props lX12_props 5 [zo G 84, .int v1, .int v2, .int v3, .int (v4 + 1), .null] [] S I1 L1 bc bs Q) ∧ (¬ v1 ≤ r1 → ZC G mX12_ones fX12_ones lX12_ones [zo G 84, .int (I1 127 v4.toNatClampNeg)] S I1 L1 0 0 (fun w S' I2 L2 => ∃ r2 : Int32, w = some (.int r2) ∧ S = S' ∧ ((r2 ≤ r1 → ZW G mX12_props fX12_props lX12_props 5 [zo G 84, .int v1, .int v2, .int v3, .int (v4 + 1), .null] [] S I2 L2 bc bs Q) ∧ (¬ r2 ≤ r1 → ZW G mX12_props fX12_props lX12_props 5 [zo G 84, .int v1, .int v2, .int (v3 + (1 : Int32)), .int (v4 + 1), .null] [] S I2 L2 bc bs Q))))))) ∧ (((v2 >>> (v4 &&& 31)) &&& (1 : Int32)) = 0 → ZW G mX12_props fX12_props lX12_props 5 [zo G 84, .int v1, .int v2, .int v3, .int (v4 + 1), .null] [] S I L bc bs Q))))) : ZW G mX12_props fX12_props lX12_props 5 [zo G 84, .int v1, .int v2, .int v3, .int v4, .null] [] S I L bc bs Q := by
  refine zr_iload dX12_props_5 rfl ?_
  refine zr_aload_n dX12_props_7 rfl rfl ?_
  refine zr_getIv (x := (I 84 66)) dX12_props_8 zf_X12_369 rfl (hS.has (a := 84) rfl rfl) rfl ?_
  refine zr_icge (tgt := 73) dX12_props_11 (by decide) (fun hb => ?_) (fun hb => ?_)
  · have k := k.1 hb
    refine zr_iload_n dX12_props_73 rfl rfl ?_
    exact zr_ireturn dX12_props_74 rfl rfl k
  · have k := k.2 hb
    refine zr_iload_n dX12_props_14 rfl rfl ?_
    refine zr_iload dX12_props_15 rfl ?_
    refine zr_ishr dX12_props_17 ?_
    refine zr_iconst (v := 1) dX12_props_18 (by decide) ?_
    refine zr_iand dX12_props_19 ?_
    refine zr_ifne (tgt := 26) dX12_props_20 (by decide) (fun hb => ?_) (fun hb => ?_)
    · have k := k.1 hb
      refine zr_aload_n dX12_props_26 rfl rfl ?_
      refine zr_aload_n dX12_props_27 rfl rfl ?_
      refine zr_getR dX12_props_28 zf_X12_150 rfl (hS.has (a := 84) rfl rfl) (hS.ref (a := 127) rfl) ?_
      refine zr_iload dX12_props_31 rfl ?_
      obtain ⟨hi1, k⟩ := k
      refine zr_ialdv (x := (I 127 v4.toNatClampNeg)) dX12_props_33 (hS.has (a := 127) rfl rfl) hi1 rfl ?_
      refine zr_iload_n dX12_props_34 rfl rfl ?_
      refine zr_iand dX12_props_35 ?_
      refine zr_callV (As := [.int ((I 127 v4.toNatClampNeg) &&& v2)]) (fr' := fX12_ones) (lo' := lX12_ones) (bc' := 0) (bs' := 0) (bcr := bc) (bsr := bs) dX12_props_36 zs_X12_372 zi_X12_ones zcl_12 (hS.has (a := 84) rfl rfl) rfl rfl (Nat.le_of_ble_eq_true rfl) (Nat.le_of_ble_eq_true rfl) (Nat.le_of_ble_eq_true rfl) (Nat.le_refl _) (Nat.le_refl _) ?_
      refine ZC.mono (fun w S' I1 L1 k => ?_) k
      obtain ⟨r1, rfl, rfl, k⟩ := k
      show ZW G mX12_props fX12_props lX12_props 39 [zo G 84, .int v1, .int v2, .int v3, .int v4, .null] [.int r1] S I1 L1 bc bs Q
      refine zr_istore dX12_props_39 (Nat.le_of_ble_eq_true rfl) rfl ?_
      refine zr_iload dX12_props_41 rfl ?_
      refine zr_iload_n dX12_props_43 rfl rfl ?_
      refine zr_icge (tgt := 67) dX12_props_44 (by decide) (fun hb => ?_) (fun hb => ?_)
      · have k := k.1 hb
        refine zr_iinc (v := (v4 + 1)) dX12_props_67 rfl rfl (Nat.le_of_ble_eq_true rfl) rfl ?_
        refine zr_goto (tgt := 5) dX12_props_70 (by decide) ?_
        exact zr_mask [true, true, true, true, true, false] rfl k
      · have k := k.2 hb
        refine zr_iload dX12_props_47 rfl ?_
        refine zr_aload_n dX12_props_49 rfl rfl ?_
        refine zr_aload_n dX12_props_50 rfl rfl ?_
        refine zr_getR dX12_props_51 zf_X12_150 rfl (hS.has (a := 84) rfl rfl) (hS.ref (a := 127) rfl) ?_
        refine zr_iload dX12_props_54 rfl ?_
        refine zr_ialdv (x := (I1 127 v4.toNatClampNeg)) dX12_props_56 (hS.has (a := 127) rfl rfl) hi1 rfl ?_
        refine zr_callV (As := [.int (I1 127 v4.toNatClampNeg)]) (fr' := fX12_ones) (lo' := lX12_ones) (bc' := 0) (bs' := 0) (bcr := bc) (bsr := bs) dX12_props_57 zs_X12_372 zi_X12_ones zcl_12 (hS.has (a := 84) rfl rfl) rfl rfl (Nat.le_of_ble_eq_true rfl) (Nat.le_of_ble_eq_true rfl) (Nat.le_of_ble_eq_true rfl) (Nat.le_refl _) (Nat.le_refl _) ?_
        refine ZC.mono (fun w S' I2 L2 k => ?_) k
        obtain ⟨r2, rfl, rfl, k⟩ := k
        show ZW G mX12_props fX12_props lX12_props 60 [zo G 84, .int v1, .int v2, .int v3, .int v4, .int r1] [.int r2, .int r1] S I2 L2 bc bs Q
        refine zr_icge (tgt := 67) dX12_props_60 (by decide) (fun hb => ?_) (fun hb => ?_)
        · have k := k.1 hb
          refine zr_iinc (v := (v4 + 1)) dX12_props_67 rfl rfl (Nat.le_of_ble_eq_true rfl) rfl ?_
          refine zr_goto (tgt := 5) dX12_props_70 (by decide) ?_
          exact zr_mask [true, true, true, true, true, false] rfl k
        · have k := k.2 hb
          refine zr_iload_n dX12_props_63 rfl rfl ?_
          refine zr_iconst (v := 1) dX12_props_64 (by decide) ?_
          refine zr_iadd dX12_props_65 ?_
          refine zr_istore_n dX12_props_66 rfl (Nat.le_of_ble_eq_true rfl) rfl ?_
          refine zr_iinc (v := (v4 + 1)) dX12_props_67 rfl rfl (Nat.le_of_ble_eq_true rfl) rfl ?_
          refine zr_goto (tgt := 5) dX12_props_70 (by decide) ?_
          exact zr_mask [true, true, true, true, true, false] rfl k
    · have k := k.2 hb
      refine zr_goto (tgt := 67) dX12_props_23 (by decide) ?_
      refine zr_iinc (v := (v4 + 1)) dX12_props_67 rfl rfl (Nat.le_of_ble_eq_true rfl) rfl ?_
      refine zr_goto (tgt := 5) dX12_props_70 (by decide) ?_
      exact k
set_option maxHeartbeats 2000000 in
theorem vX12_canCome_0 {G : Gp} {bc bs : Nat} {Q : zPost} {S : zSh} {I : zFI} {L : zFL} {v1 : Int32} {v2 : Int32} (hS : zStd S)  (k : ((¬ ((v2 >>> (v1 &&& 31)) &&& (1 : Int32)) = 0 → Q (some (.int (0 : Int32))) S I L) ∧ (((v2 >>> (v1 &&& 31)) &&& (1 : Int32)) = 0 → vp_in v1 16 ∧ ((¬ ((I 128 v1.toNatClampNeg) &&& (v2 ^^^ (-1 : Int32))) = 0 → Q (some (.int (0 : Int32))) S I L) ∧ (((I 128 v1.toNatClampNeg) &&& (v2 ^^^ (-1 : Int32))) = 0 → Q (some (.int (1 : Int32))) S I L))))) : ZW G mX12_canCome fX12_canCome lX12_canCome 0 [zo G 84, .int v1, .int v2] [] S I L bc bs Q := by
  refine zr_iload_n dX12_canCome_0 rfl rfl ?_
  refine zr_iload_n dX12_canCome_1 rfl rfl ?_
  refine zr_ishr dX12_canCome_2 ?_
  refine zr_iconst (v := 1) dX12_canCome_3 (by decide) ?_
  refine zr_iand dX12_canCome_4 ?_
  refine zr_ifne (tgt := 25) dX12_canCome_5 (by decide) (fun hb => ?_) (fun hb => ?_)
  · have k := k.1 hb
    refine zr_iconst (v := 0) dX12_canCome_25 (by decide) ?_
    exact zr_ireturn dX12_canCome_26 rfl rfl k
  · have k := k.2 hb
    refine zr_aload_n dX12_canCome_8 rfl rfl ?_
    refine zr_getR dX12_canCome_9 zf_X12_153 rfl (hS.has (a := 84) rfl rfl) (hS.ref (a := 128) rfl) ?_
    refine zr_iload_n dX12_canCome_12 rfl rfl ?_
    obtain ⟨hi1, k⟩ := k
    refine zr_ialdv (x := (I 128 v1.toNatClampNeg)) dX12_canCome_13 (hS.has (a := 128) rfl rfl) hi1 rfl ?_
    refine zr_iload_n dX12_canCome_14 rfl rfl ?_
    refine zr_iconst (v := -1) dX12_canCome_15 (by decide) ?_
    refine zr_ixor dX12_canCome_16 ?_
    refine zr_iand dX12_canCome_17 ?_
    refine zr_ifne (tgt := 25) dX12_canCome_18 (by decide) (fun hb => ?_) (fun hb => ?_)
    · have k := k.1 hb
      refine zr_iconst (v := 0) dX12_canCome_25 (by decide) ?_
      exact zr_ireturn dX12_canCome_26 rfl rfl k
    · have k := k.2 hb
      refine zr_iconst (v := 1) dX12_canCome_21 (by decide) ?_
      refine zr_goto (tgt := 26) dX12_canCome_22 (by decide) ?_
      exact zr_ireturn dX12_canCome_26 rfl rfl k
def p_X12_canCome (I : zFI) (v1 : Int32) (v2 : Int32) : Int32 := (if ((v2 >>> (v1 &&& 31)) &&& (1 : Int32)) = 0 then (if ((I 128 v1.toNatClampNeg) &&& (v2 ^^^ (-1 : Int32))) = 0 then (1 : Int32) else (0 : Int32)) else (0 : Int32))
set_option maxHeartbeats 2000000 in
theorem sp_X12_canCome {G : Gp} {Q : zPost} {S : zSh} {I : zFI} {L : zFL} {v1 : Int32} {v2 : Int32} (hS : zStd S)  (hv0 : ((v2 >>> (v1 &&& 31)) &&& (1 : Int32)) = 0 → vp_in v1 16) (h : Q (some (.int (p_X12_canCome I v1 v2))) S I L) : ZC G mX12_canCome fX12_canCome lX12_canCome [zo G 84, .int v1, .int v2] S I L 0 0 Q := by
  refine ZC.of' (vX12_canCome_0 hS  ?_) rfl (Nat.le_of_ble_eq_true rfl) rfl
  unfold p_X12_canCome at h
  refine ⟨fun hb1 => ?_, fun hb1 => ?_⟩
  · rw [if_neg hb1] at h
    exact h
  · rw [if_pos hb1] at h
    refine ⟨hv0 hb1, ?_⟩
    refine ⟨fun hb2 => ?_, fun hb2 => ?_⟩
    · rw [if_neg hb2] at h
      exact h
    · rw [if_pos hb2] at h
      exact h
theorem pb_X12_canCome (I : zFI) (v1 : Int32) (v2 : Int32) : p_X12_canCome I v1 v2 = 0 ∨ p_X12_canCome I v1 v2 = 1 := by
  unfold p_X12_canCome
  repeat' split
  all_goals first | exact Or.inl rfl | exact Or.inr rfl | assumption
set_option maxHeartbeats 2000000 in
theorem vX12_findRaisings_0 {G : Gp} {bc bs : Nat} {Q : zPost} {S : zSh} {I : zFI} {L : zFL} {v1 : Int32} {v2 : Int32} (hS : zStd S)  (k : ZW G mX12_findRaisings fX12_findRaisings lX12_findRaisings 7 [zo G 84, .int v1, .int v2, .int (0 : Int32), .null, .null, .null, .null] [] S (u2 I 84 66 (0 : Int32)) L bc bs Q) : ZW G mX12_findRaisings fX12_findRaisings lX12_findRaisings 0 [zo G 84, .int v1, .int v2, .null, .null, .null, .null, .null] [] S I L bc bs Q := by
  refine zr_aload_n dX12_findRaisings_0 rfl rfl ?_
  refine zr_iconst (v := 0) dX12_findRaisings_1 (by decide) ?_
  refine zr_putI dX12_findRaisings_2 zf_X12_369 rfl (hS.has (a := 84) rfl rfl) rfl rfl ?_
  refine zr_iconst (v := 0) dX12_findRaisings_5 (by decide) ?_
  refine zr_istore_n dX12_findRaisings_6 rfl (Nat.le_of_ble_eq_true rfl) rfl ?_
  exact k
set_option maxHeartbeats 2000000 in
theorem vX12_findRaisings_7 {G : Gp} {bc bs : Nat} {Q : zPost} {S : zSh} {I : zFI} {L : zFL} {v1 : Int32} {v2 : Int32} {v3 : Int32} (hS : zStd S)  (k : (((I 84 3) ≤ v3 → ZW G mX12_findRaisings fX12_findRaisings lX12_findRaisings 54 [zo G 84, .int v1, .int v2, .int (0 : Int32), .null, .null, .null, .null] [] S I L bc bs Q) ∧ (¬ (I 84 3) ≤ v3 → ((¬ ((v2 >>> (v3 &&& 31)) &&& (1 : Int32)) = 0 → vp_in (I 84 66) 16 ∧ ZW G mX12_findRaisings fX12_findRaisings lX12_findRaisings 7 [zo G 84, .int v1, .int v2, .int (v3 + 1), .null, .null, .null, .null] [] S (u2 (u2 I 126 (I 84 66).toNatClampNeg v3) 84 66 ((I 84 66) + (1 : Int32))) L bc bs Q) ∧ (((v2 >>> (v3 &&& 31)) &&& (1 : Int32)) = 0 → ZW G mX12_findRaisings fX12_findRaisings lX12_findRaisings 7 [zo G 84, .int v1, .int v2, .int (v3 + 1), .null, .null, .null, .null] [] S I L bc bs Q))))) : ZW G mX12_findRaisings fX12_findRaisings lX12_findRaisings 7 [zo G 84, .int v1, .int v2, .int v3, .null, .null, .null, .null] [] S I L bc bs Q := by
  refine zr_iload_n dX12_findRaisings_7 rfl rfl ?_
  refine zr_aload_n dX12_findRaisings_8 rfl rfl ?_
  refine zr_getIv (x := (I 84 3)) dX12_findRaisings_9 zf_X12_191 rfl (hS.has (a := 84) rfl rfl) rfl ?_
  refine zr_icge (tgt := 52) dX12_findRaisings_12 (by decide) (fun hb => ?_) (fun hb => ?_)
  · have k := k.1 hb
    refine zr_iconst (v := 0) dX12_findRaisings_52 (by decide) ?_
    refine zr_istore_n dX12_findRaisings_53 rfl (Nat.le_of_ble_eq_true rfl) rfl ?_
    exact k
  · have k := k.2 hb
    refine zr_iload_n dX12_findRaisings_15 rfl rfl ?_
    refine zr_iload_n dX12_findRaisings_16 rfl rfl ?_
    refine zr_ishr dX12_findRaisings_17 ?_
    refine zr_iconst (v := 1) dX12_findRaisings_18 (by decide) ?_
    refine zr_iand dX12_findRaisings_19 ?_
    refine zr_ifne (tgt := 26) dX12_findRaisings_20 (by decide) (fun hb => ?_) (fun hb => ?_)
    · have k := k.1 hb
      refine zr_aload_n dX12_findRaisings_26 rfl rfl ?_
      refine zr_getR dX12_findRaisings_27 zf_X12_147 rfl (hS.has (a := 84) rfl rfl) (hS.ref (a := 126) rfl) ?_
      refine zr_aload_n dX12_findRaisings_30 rfl rfl ?_
      refine zr_getIv (x := (I 84 66)) dX12_findRaisings_31 zf_X12_369 rfl (hS.has (a := 84) rfl rfl) rfl ?_
      refine zr_iload_n dX12_findRaisings_34 rfl rfl ?_
      obtain ⟨hi1, k⟩ := k
      refine zr_iast dX12_findRaisings_35 (hS.has (a := 126) rfl rfl) hi1 ?_
      refine zr_aload_n dX12_findRaisings_36 rfl rfl ?_
      refine zr_aload_n dX12_findRaisings_37 rfl rfl ?_
      refine zr_getIv (x := (I 84 66)) dX12_findRaisings_38 zf_X12_369 rfl (hS.has (a := 84) rfl rfl) rfl ?_
      refine zr_iconst (v := 1) dX12_findRaisings_41 (by decide) ?_
      refine zr_iadd dX12_findRaisings_42 ?_
      refine zr_putI dX12_findRaisings_43 zf_X12_369 rfl (hS.has (a := 84) rfl rfl) rfl rfl ?_
      refine zr_iinc (v := (v3 + 1)) dX12_findRaisings_46 rfl rfl (Nat.le_of_ble_eq_true rfl) rfl ?_
      refine zr_goto (tgt := 7) dX12_findRaisings_49 (by decide) ?_
      exact k
    · have k := k.2 hb
      refine zr_goto (tgt := 46) dX12_findRaisings_23 (by decide) ?_
      refine zr_iinc (v := (v3 + 1)) dX12_findRaisings_46 rfl rfl (Nat.le_of_ble_eq_true rfl) rfl ?_
      refine zr_goto (tgt := 7) dX12_findRaisings_49 (by decide) ?_
      exact k
set_option maxHeartbeats 2000000 in
theorem vX12_findRaisings_54 {G : Gp} {bc bs : Nat} {Q : zPost} {S : zSh} {I : zFI} {L : zFL} {v1 : Int32} {v2 : Int32} {v3 : Int32} (hS : zStd S)  (k : (((I 84 66) ≤ v3 → vp_in (((50 : Int32) * v1) + (3 : Int32)) 150 ∧ vp_in (((1 : Int32) <<< ((I 84 66) &&& 31)) - (1 : Int32)) 65536 ∧ ZW G mX12_findRaisings fX12_findRaisings lX12_findRaisings 226 [zo G 84, .int v1, .int v2, .int (((1 : Int32) <<< ((I 84 66) &&& 31)) - (1 : Int32)), .int (I 105 (((50 : Int32) * v1) + (3 : Int32)).toNatClampNeg), .int ((((1 : Int32) <<< ((I 84 66) &&& 31)) - (1 : Int32)) - (1 : Int32)), .null, .null] [] S (u2 I 129 (((1 : Int32) <<< ((I 84 66) &&& 31)) - (1 : Int32)).toNatClampNeg (0 : Int32)) L bc bs Q) ∧ (¬ (I 84 66) ≤ v3 → vp_in v3 16 ∧ ZW G mX12_findRaisings fX12_findRaisings lX12_findRaisings 79 [zo G 84, .int v1, .int v2, .int v3, .int (0 : Int32), .null, .null, .null] [] S (u2 (u2 I 127 v3.toNatClampNeg (0 : Int32)) 128 v3.toNatClampNeg (0 : Int32)) L bc bs Q))) : ZW G mX12_findRaisings fX12_findRaisings lX12_findRaisings 54 [zo G 84, .int v1, .int v2, .int v3, .null, .null, .null, .null] [] S I L bc bs Q := by
  refine zr_iload_n dX12_findRaisings_54 rfl rfl ?_
  refine zr_aload_n dX12_findRaisings_55 rfl rfl ?_
  refine zr_getIv (x := (I 84 66)) dX12_findRaisings_56 zf_X12_369 rfl (hS.has (a := 84) rfl rfl) rfl ?_
  refine zr_icge (tgt := 192) dX12_findRaisings_59 (by decide) (fun hb => ?_) (fun hb => ?_)
  · have k := k.1 hb
    refine zr_iconst (v := 1) dX12_findRaisings_192 (by decide) ?_
    refine zr_aload_n dX12_findRaisings_193 rfl rfl ?_
    refine zr_getIv (x := (I 84 66)) dX12_findRaisings_194 zf_X12_369 rfl (hS.has (a := 84) rfl rfl) rfl ?_
    refine zr_ishl dX12_findRaisings_197 ?_
    refine zr_iconst (v := 1) dX12_findRaisings_198 (by decide) ?_
    refine zr_isub dX12_findRaisings_199 ?_
    refine zr_istore_n dX12_findRaisings_200 rfl (Nat.le_of_ble_eq_true rfl) rfl ?_
    refine zr_aload_n dX12_findRaisings_201 rfl rfl ?_
    refine zr_getR dX12_findRaisings_202 zf_X12_75 rfl (hS.has (a := 84) rfl rfl) (hS.ref (a := 105) rfl) ?_
    refine zr_bipush (v := 50) dX12_findRaisings_205 (by decide) ?_
    refine zr_iload_n dX12_findRaisings_207 rfl rfl ?_
    refine zr_imul dX12_findRaisings_208 ?_
    refine zr_iconst (v := 3) dX12_findRaisings_209 (by decide) ?_
    refine zr_iadd dX12_findRaisings_210 ?_
    obtain ⟨hi2, k⟩ := k
    refine zr_ialdv (x := (I 105 (((50 : Int32) * v1) + (3 : Int32)).toNatClampNeg)) dX12_findRaisings_211 (hS.has (a := 105) rfl rfl) hi2 rfl ?_
    refine zr_istore dX12_findRaisings_212 (Nat.le_of_ble_eq_true rfl) rfl ?_
    refine zr_aload_n dX12_findRaisings_214 rfl rfl ?_
    refine zr_getR dX12_findRaisings_215 zf_X12_157 rfl (hS.has (a := 84) rfl rfl) (hS.ref (a := 129) rfl) ?_
    refine zr_iload_n dX12_findRaisings_218 rfl rfl ?_
    refine zr_iconst (v := 0) dX12_findRaisings_219 (by decide) ?_
    obtain ⟨hi3, k⟩ := k
    refine zr_iast dX12_findRaisings_220 (hS.has (a := 129) rfl rfl) hi3 ?_
    refine zr_iload_n dX12_findRaisings_221 rfl rfl ?_
    refine zr_iconst (v := 1) dX12_findRaisings_222 (by decide) ?_
    refine zr_isub dX12_findRaisings_223 ?_
    refine zr_istore dX12_findRaisings_224 (Nat.le_of_ble_eq_true rfl) rfl ?_
    exact k
  · have k := k.2 hb
    refine zr_aload_n dX12_findRaisings_62 rfl rfl ?_
    refine zr_getR dX12_findRaisings_63 zf_X12_150 rfl (hS.has (a := 84) rfl rfl) (hS.ref (a := 127) rfl) ?_
    refine zr_iload_n dX12_findRaisings_66 rfl rfl ?_
    refine zr_iconst (v := 0) dX12_findRaisings_67 (by decide) ?_
    obtain ⟨hi4, k⟩ := k
    refine zr_iast dX12_findRaisings_68 (hS.has (a := 127) rfl rfl) hi4 ?_
    refine zr_aload_n dX12_findRaisings_69 rfl rfl ?_
    refine zr_getR dX12_findRaisings_70 zf_X12_153 rfl (hS.has (a := 84) rfl rfl) (hS.ref (a := 128) rfl) ?_
    refine zr_iload_n dX12_findRaisings_73 rfl rfl ?_
    refine zr_iconst (v := 0) dX12_findRaisings_74 (by decide) ?_
    refine zr_iast dX12_findRaisings_75 (hS.has (a := 128) rfl rfl) hi4 ?_
    refine zr_iconst (v := 0) dX12_findRaisings_76 (by decide) ?_
    refine zr_istore dX12_findRaisings_77 (Nat.le_of_ble_eq_true rfl) rfl ?_
    exact k
set_option maxHeartbeats 2000000 in
theorem vX12_findRaisings_79 {G : Gp} {bc bs : Nat} {Q : zPost} {S : zSh} {I : zFI} {L : zFL} {v1 : Int32} {v2 : Int32} {v3 : Int32} {v4 : Int32} (hS : zStd S)  (k : (((I 84 66) ≤ v4 → ZW G mX12_findRaisings fX12_findRaisings lX12_findRaisings 54 [zo G 84, .int v1, .int v2, .int (v3 + 1), .null, .null, .null, .null] [] S I L bc bs Q) ∧ (¬ (I 84 66) ≤ v4 → vp_in v3 16 ∧ vp_in (I 126 v3.toNatClampNeg) 16 ∧ vp_in v4 16 ∧ ((¬ (((I 124 (I 126 v3.toNatClampNeg).toNatClampNeg) >>> ((I 126 v4.toNatClampNeg) &&& 31)) &&& (1 : Int32)) = 0 → vp_in (I 126 v4.toNatClampNeg) 16 ∧ (vp_in (((((50 : Int32) * v1) + (30 : Int32)) + ((4 : Int32) * (I 85 (I 126 v4.toNatClampNeg).toNatClampNeg))) + (I 85 (I 126 v3.toNatClampNeg).toNatClampNeg)) 150) ∧ (((u2 I 127 v3.toNatClampNeg ((I 127 v3.toNatClampNeg) ||| ((1 : Int32) <<< (v4 &&& 31)))) 105 (((((50 : Int32) * v1) + (30 : Int32)) + ((4 : Int32) * (I 85 (I 126 v4.toNatClampNeg).toNatClampNeg))) + (I 85 (I 126 v3.toNatClampNeg).toNatClampNeg)).toNatClampNeg) = (1 : Int32) → vp_in (((((50 : Int32) * v1) + (30 : Int32)) + ((4 : Int32) * (I 85 (I 126 v3.toNatClampNeg).toNatClampNeg))) + (I 85 (I 126 v4.toNatClampNeg).toNatClampNeg)) 150) ∧ (((p_X12_isAhead (u2 I 127 v3.toNatClampNeg ((I 127 v3.toNatClampNeg) ||| ((1 : Int32) <<< (v4 &&& 31)))) v1 (I 85 (I 126 v4.toNatClampNeg).toNatClampNeg) (I 85 (I 126 v3.toNatClampNeg).toNatClampNeg)) = 0 → ZW G mX12_findRaisings fX12_findRaisings lX12_findRaisings 79 [zo G 84, .int v1, .int v2, .int v3, .int (v4 + 1), .null, .null, .null] [] S (u2 I 127 v3.toNatClampNeg ((I 127 v3.toNatClampNeg) ||| ((1 : Int32) <<< (v4 &&& 31)))) L bc bs Q) ∧ (¬ (p_X12_isAhead (u2 I 127 v3.toNatClampNeg ((I 127 v3.toNatClampNeg) ||| ((1 : Int32) <<< (v4 &&& 31)))) v1 (I 85 (I 126 v4.toNatClampNeg).toNatClampNeg) (I 85 (I 126 v3.toNatClampNeg).toNatClampNeg)) = 0 → ZW G mX12_findRaisings fX12_findRaisings lX12_findRaisings 79 [zo G 84, .int v1, .int v2, .int v3, .int (v4 + 1), .null, .null, .null] [] S (u2 (u2 I 127 v3.toNatClampNeg ((I 127 v3.toNatClampNeg) ||| ((1 : Int32) <<< (v4 &&& 31)))) 128 v3.toNatClampNeg ((I 128 v3.toNatClampNeg) ||| ((1 : Int32) <<< (v4 &&& 31)))) L bc bs Q))) ∧ ((((I 124 (I 126 v3.toNatClampNeg).toNatClampNeg) >>> ((I 126 v4.toNatClampNeg) &&& 31)) &&& (1 : Int32)) = 0 → ZW G mX12_findRaisings fX12_findRaisings lX12_findRaisings 79 [zo G 84, .int v1, .int v2, .int v3, .int (v4 + 1), .null, .null, .null] [] S I L bc bs Q))))) : ZW G mX12_findRaisings fX12_findRaisings lX12_findRaisings 79 [zo G 84, .int v1, .int v2, .int v3, .int v4, .null, .null, .null] [] S I L bc bs Q := by
  refine zr_iload dX12_findRaisings_79 rfl ?_
  refine zr_aload_n dX12_findRaisings_81 rfl rfl ?_
  refine zr_getIv (x := (I 84 66)) dX12_findRaisings_82 zf_X12_369 rfl (hS.has (a := 84) rfl rfl) rfl ?_
  refine zr_icge (tgt := 186) dX12_findRaisings_85 (by decide) (fun hb => ?_) (fun hb => ?_)
  · have k := k.1 hb
    refine zr_iinc (v := (v3 + 1)) dX12_findRaisings_186 rfl rfl (Nat.le_of_ble_eq_true rfl) rfl ?_
    refine zr_goto (tgt := 54) dX12_findRaisings_189 (by decide) ?_
    exact zr_mask [true, true, true, true, false, false, false, false] rfl k
  · have k := k.2 hb
    refine zr_aload_n dX12_findRaisings_88 rfl rfl ?_
    refine zr_getR dX12_findRaisings_89 zf_X12_141 rfl (hS.has (a := 84) rfl rfl) (hS.ref (a := 124) rfl) ?_
    refine zr_aload_n dX12_findRaisings_92 rfl rfl ?_
    refine zr_getR dX12_findRaisings_93 zf_X12_147 rfl (hS.has (a := 84) rfl rfl) (hS.ref (a := 126) rfl) ?_
    refine zr_iload_n dX12_findRaisings_96 rfl rfl ?_
    obtain ⟨hi5, k⟩ := k
    refine zr_ialdv (x := (I 126 v3.toNatClampNeg)) dX12_findRaisings_97 (hS.has (a := 126) rfl rfl) hi5 rfl ?_
    obtain ⟨hi6, k⟩ := k
    refine zr_ialdv (x := (I 124 (I 126 v3.toNatClampNeg).toNatClampNeg)) dX12_findRaisings_98 (hS.has (a := 124) rfl rfl) hi6 rfl ?_
    refine zr_aload_n dX12_findRaisings_99 rfl rfl ?_
    refine zr_getR dX12_findRaisings_100 zf_X12_147 rfl (hS.has (a := 84) rfl rfl) (hS.ref (a := 126) rfl) ?_
    refine zr_iload dX12_findRaisings_103 rfl ?_
    obtain ⟨hi7, k⟩ := k
    refine zr_ialdv (x := (I 126 v4.toNatClampNeg)) dX12_findRaisings_105 (hS.has (a := 126) rfl rfl) hi7 rfl ?_
    refine zr_ishr dX12_findRaisings_106 ?_
    refine zr_iconst (v := 1) dX12_findRaisings_107 (by decide) ?_
    refine zr_iand dX12_findRaisings_108 ?_
    refine zr_ifne (tgt := 115) dX12_findRaisings_109 (by decide) (fun hb => ?_) (fun hb => ?_)
    · have k := k.1 hb
      refine zr_aload_n dX12_findRaisings_115 rfl rfl ?_
      refine zr_getR dX12_findRaisings_116 zf_X12_150 rfl (hS.has (a := 84) rfl rfl) (hS.ref (a := 127) rfl) ?_
      refine zr_iload_n dX12_findRaisings_119 rfl rfl ?_
      refine zr_aload_n dX12_findRaisings_120 rfl rfl ?_
      refine zr_getR dX12_findRaisings_121 zf_X12_150 rfl (hS.has (a := 84) rfl rfl) (hS.ref (a := 127) rfl) ?_
      refine zr_iload_n dX12_findRaisings_124 rfl rfl ?_
      refine zr_ialdv (x := (I 127 v3.toNatClampNeg)) dX12_findRaisings_125 (hS.has (a := 127) rfl rfl) hi5 rfl ?_
      refine zr_iconst (v := 1) dX12_findRaisings_126 (by decide) ?_
      refine zr_iload dX12_findRaisings_127 rfl ?_
      refine zr_ishl dX12_findRaisings_129 ?_
      refine zr_ior dX12_findRaisings_130 ?_
      refine zr_iast dX12_findRaisings_131 (hS.has (a := 127) rfl rfl) hi5 ?_
      refine zr_aload_n dX12_findRaisings_132 rfl rfl ?_
      refine zr_iload_n dX12_findRaisings_133 rfl rfl ?_
      refine zr_aload_n dX12_findRaisings_134 rfl rfl ?_
      refine zr_getR dX12_findRaisings_135 zf_X12_13 rfl (hS.has (a := 84) rfl rfl) (hS.ref (a := 85) rfl) ?_
      refine zr_aload_n dX12_findRaisings_138 rfl rfl ?_
      refine zr_getR dX12_findRaisings_139 zf_X12_147 rfl (hS.has (a := 84) rfl rfl) (hS.ref (a := 126) rfl) ?_
      refine zr_iload dX12_findRaisings_142 rfl ?_
      refine zr_ialdv (x := (I 126 v4.toNatClampNeg)) dX12_findRaisings_144 (hS.has (a := 126) rfl rfl) hi7 rfl ?_
      obtain ⟨hi8, k⟩ := k
      refine zr_ialdv (x := (I 85 (I 126 v4.toNatClampNeg).toNatClampNeg)) dX12_findRaisings_145 (hS.has (a := 85) rfl rfl) hi8 rfl ?_
      refine zr_aload_n dX12_findRaisings_146 rfl rfl ?_
      refine zr_getR dX12_findRaisings_147 zf_X12_13 rfl (hS.has (a := 84) rfl rfl) (hS.ref (a := 85) rfl) ?_
      refine zr_aload_n dX12_findRaisings_150 rfl rfl ?_
      refine zr_getR dX12_findRaisings_151 zf_X12_147 rfl (hS.has (a := 84) rfl rfl) (hS.ref (a := 126) rfl) ?_
      refine zr_iload_n dX12_findRaisings_154 rfl rfl ?_
      refine zr_ialdv (x := (I 126 v3.toNatClampNeg)) dX12_findRaisings_155 (hS.has (a := 126) rfl rfl) hi5 rfl ?_
      refine zr_ialdv (x := (I 85 (I 126 v3.toNatClampNeg).toNatClampNeg)) dX12_findRaisings_156 (hS.has (a := 85) rfl rfl) hi6 rfl ?_
      refine zr_callV (As := [.int v1, .int (I 85 (I 126 v4.toNatClampNeg).toNatClampNeg), .int (I 85 (I 126 v3.toNatClampNeg).toNatClampNeg)]) (fr' := fX12_isAhead) (lo' := lX12_isAhead) (bc' := 0) (bs' := 0) (bcr := bc) (bsr := bs) dX12_findRaisings_157 zs_X12_283 zi_X12_isAhead zcl_12 (hS.has (a := 84) rfl rfl) rfl rfl (Nat.le_of_ble_eq_true rfl) (Nat.le_of_ble_eq_true rfl) (Nat.le_of_ble_eq_true rfl) (Nat.le_refl _) (Nat.le_refl _) ?_
      obtain ⟨hq0, hq1, k⟩ := k
      refine sp_X12_isAhead hS hq0 hq1 ?_
      show ZW G mX12_findRaisings fX12_findRaisings lX12_findRaisings 160 [zo G 84, .int v1, .int v2, .int v3, .int v4, .null, .null, .null] [.int (p_X12_isAhead (u2 I 127 v3.toNatClampNeg ((I 127 v3.toNatClampNeg) ||| ((1 : Int32) <<< (v4 &&& 31)))) v1 (I 85 (I 126 v4.toNatClampNeg).toNatClampNeg) (I 85 (I 126 v3.toNatClampNeg).toNatClampNeg))] S (u2 I 127 v3.toNatClampNeg ((I 127 v3.toNatClampNeg) ||| ((1 : Int32) <<< (v4 &&& 31)))) L bc bs Q
      refine zr_ifeq (tgt := 180) dX12_findRaisings_160 (by decide) (fun hb => ?_) (fun hb => ?_)
      · have k := k.1 hb
        refine zr_iinc (v := (v4 + 1)) dX12_findRaisings_180 rfl rfl (Nat.le_of_ble_eq_true rfl) rfl ?_
        refine zr_goto (tgt := 79) dX12_findRaisings_183 (by decide) ?_
        exact k
      · have k := k.2 hb
        refine zr_aload_n dX12_findRaisings_163 rfl rfl ?_
        refine zr_getR dX12_findRaisings_164 zf_X12_153 rfl (hS.has (a := 84) rfl rfl) (hS.ref (a := 128) rfl) ?_
        refine zr_iload_n dX12_findRaisings_167 rfl rfl ?_
        refine zr_aload_n dX12_findRaisings_168 rfl rfl ?_
        refine zr_getR dX12_findRaisings_169 zf_X12_153 rfl (hS.has (a := 84) rfl rfl) (hS.ref (a := 128) rfl) ?_
        refine zr_iload_n dX12_findRaisings_172 rfl rfl ?_
        refine zr_ialdv (x := (I 128 v3.toNatClampNeg)) dX12_findRaisings_173 (hS.has (a := 128) rfl rfl) hi5 rfl ?_
        refine zr_iconst (v := 1) dX12_findRaisings_174 (by decide) ?_
        refine zr_iload dX12_findRaisings_175 rfl ?_
        refine zr_ishl dX12_findRaisings_177 ?_
        refine zr_ior dX12_findRaisings_178 ?_
        refine zr_iast dX12_findRaisings_179 (hS.has (a := 128) rfl rfl) hi5 ?_
        refine zr_iinc (v := (v4 + 1)) dX12_findRaisings_180 rfl rfl (Nat.le_of_ble_eq_true rfl) rfl ?_
        refine zr_goto (tgt := 79) dX12_findRaisings_183 (by decide) ?_
        exact k
    · have k := k.2 hb
      refine zr_goto (tgt := 180) dX12_findRaisings_112 (by decide) ?_
      refine zr_iinc (v := (v4 + 1)) dX12_findRaisings_180 rfl rfl (Nat.le_of_ble_eq_true rfl) rfl ?_
      refine zr_goto (tgt := 79) dX12_findRaisings_183 (by decide) ?_
      exact k
set_option maxHeartbeats 2000000 in
theorem vX12_findRaisings_226 {G : Gp} {bc bs : Nat} {Q : zPost} {S : zSh} {I : zFI} {L : zFL} {v1 : Int32} {v2 : Int32} {v3 : Int32} {v4 : Int32} {v5 : Int32} (hS : zStd S)  (k : ((v5 < 0 → ZW G mX12_findRaisings fX12_findRaisings lX12_findRaisings 374 [zo G 84, .int v1, .int v2, .int v3, .int v4, .int (1 : Int32), .null, .null] [] S I (u2 L 130 (0 : Int32).toNatClampNeg (1 : Int64)) bc bs Q) ∧ (¬ v5 < 0 → vp_in v5 65536 ∧ ZW G mX12_findRaisings fX12_findRaisings lX12_findRaisings 244 [zo G 84, .int v1, .int v2, .int v3, .int v4, .int v5, .int (0 : Int32), .null] [] S (u2 I 129 v5.toNatClampNeg (1000000 : Int32)) L bc bs Q))) : ZW G mX12_findRaisings fX12_findRaisings lX12_findRaisings 226 [zo G 84, .int v1, .int v2, .int v3, .int v4, .int v5, .null, .null] [] S I L bc bs Q := by
  refine zr_iload dX12_findRaisings_226 rfl ?_
  refine zr_iflt (tgt := 364) dX12_findRaisings_228 (by decide) (fun hb => ?_) (fun hb => ?_)
  · have k := k.1 hb
    refine zr_aload_n dX12_findRaisings_364 rfl rfl ?_
    refine zr_getR dX12_findRaisings_365 zf_X12_160 rfl (hS.has (a := 84) rfl rfl) (hS.ref (a := 130) rfl) ?_
    refine zr_iconst (v := 0) dX12_findRaisings_368 (by decide) ?_
    refine zr_lconst (v := 1) dX12_findRaisings_369 (by decide) ?_
    refine zr_last dX12_findRaisings_370 (hS.has (a := 130) rfl rfl) (zvl (by decide)) ?_
    refine zr_iconst (v := 1) dX12_findRaisings_371 (by decide) ?_
    refine zr_istore dX12_findRaisings_372 (Nat.le_of_ble_eq_true rfl) rfl ?_
    exact k
  · have k := k.2 hb
    refine zr_aload_n dX12_findRaisings_231 rfl rfl ?_
    refine zr_getR dX12_findRaisings_232 zf_X12_157 rfl (hS.has (a := 84) rfl rfl) (hS.ref (a := 129) rfl) ?_
    refine zr_iload dX12_findRaisings_235 rfl ?_
    refine zr_ldc_w dX12_findRaisings_237 zk_X12_343 ?_
    obtain ⟨hi9, k⟩ := k
    refine zr_iast dX12_findRaisings_240 (hS.has (a := 129) rfl rfl) hi9 ?_
    refine zr_iconst (v := 0) dX12_findRaisings_241 (by decide) ?_
    refine zr_istore dX12_findRaisings_242 (Nat.le_of_ble_eq_true rfl) rfl ?_
    exact k
set_option maxHeartbeats 2000000 in
theorem vX12_findRaisings_244 {G : Gp} {bc bs : Nat} {Q : zPost} {S : zSh} {I : zFI} {L : zFL} {v1 : Int32} {v2 : Int32} {v3 : Int32} {v4 : Int32} {v5 : Int32} {v6 : Int32} (hS : zStd S)  (k : (((I 84 66) ≤ v6 → ZW G mX12_findRaisings fX12_findRaisings lX12_findRaisings 226 [zo G 84, .int v1, .int v2, .int v3, .int v4, .int (v5 + (-1)), .null, .null] [] S I L bc bs Q) ∧ (¬ (I 84 66) ≤ v6 → (((v5 >>> (v6 &&& 31)) &&& (1 : Int32)) = 0 → vp_in v6 16) ∧ (((p_X12_canCome I v6 v5) = 0 → ZW G mX12_findRaisings fX12_findRaisings lX12_findRaisings 244 [zo G 84, .int v1, .int v2, .int v3, .int v4, .int v5, .int (v6 + 1), .null] [] S I L bc bs Q) ∧ (¬ (p_X12_canCome I v6 v5) = 0 → vp_in (v5 ||| ((1 : Int32) <<< (v6 &&& 31))) 65536 ∧ ((¬ (I 129 (v5 ||| ((1 : Int32) <<< (v6 &&& 31))).toNatClampNeg) = (1000000 : Int32) → ZC G mX12_props fX12_props lX12_props [zo G 84, .int v4, .int (v5 ||| ((1 : Int32) <<< (v6 &&& 31)))] S I L 0 0 (fun w S' I1 L1 => ∃ r1 : Int32, w = some (.int r1) ∧ S = S' ∧ (((I1 129 (v5 ||| ((1 : Int32) <<< (v6 &&& 31))).toNatClampNeg) ≤ r1 → vp_in v5 65536 ∧ (((I1 129 v5.toNatClampNeg) ≤ r1 → ZW G mX12_findRaisings fX12_findRaisings lX12_findRaisings 244 [zo G 84, .int v1, .int v2, .int v3, .int v4, .int v5, .int (v6 + 1), .null] [] S I1 L1 bc bs Q) ∧ (¬ (I1 129 v5.toNatClampNeg) ≤ r1 → ZW G mX12_findRaisings fX12_findRaisings lX12_findRaisings 244 [zo G 84, .int v1, .int v2, .int v3, .int v4, .int v5, .int (v6 + 1), .null] [] S (u2 I1 129 v5.toNatClampNeg r1) L1 bc bs Q))) ∧ (¬ (I1 129 (v5 ||| ((1 : Int32) <<< (v6 &&& 31))).toNatClampNeg) ≤ r1 → vp_in v5 65536 ∧ (((I1 129 v5.toNatClampNeg) ≤ (I1 129 (v5 ||| ((1 : Int32) <<< (v6 &&& 31))).toNatClampNeg) → ZW G mX12_findRaisings fX12_findRaisings lX12_findRaisings 244 [zo G 84, .int v1, .int v2, .int v3, .int v4, .int v5, .int (v6 + 1), .null] [] S I1 L1 bc bs Q) ∧ (¬ (I1 129 v5.toNatClampNeg) ≤ (I1 129 (v5 ||| ((1 : Int32) <<< (v6 &&& 31))).toNatClampNeg) → ZW G mX12_findRaisings fX12_findRaisings lX12_findRaisings 244 [zo G 84, .int v1, .int v2, .int v3, .int v4, .int v5, .int (v6 + 1), .null] [] S (u2 I1 129 v5.toNatClampNeg (I1 129 (v5 ||| ((1 : Int32) <<< (v6 &&& 31))).toNatClampNeg)) L1 bc bs Q)))))) ∧ ((I 129 (v5 ||| ((1 : Int32) <<< (v6 &&& 31))).toNatClampNeg) = (1000000 : Int32) → ZW G mX12_findRaisings fX12_findRaisings lX12_findRaisings 244 [zo G 84, .int v1, .int v2, .int v3, .int v4, .int v5, .int (v6 + 1), .null] [] S I L bc bs Q))))))) : ZW G mX12_findRaisings fX12_findRaisings lX12_findRaisings 244 [zo G 84, .int v1, .int v2, .int v3, .int v4, .int v5, .int v6, .null] [] S I L bc bs Q := by
  refine zr_iload dX12_findRaisings_244 rfl ?_
  refine zr_aload_n dX12_findRaisings_246 rfl rfl ?_
  refine zr_getIv (x := (I 84 66)) dX12_findRaisings_247 zf_X12_369 rfl (hS.has (a := 84) rfl rfl) rfl ?_
  refine zr_icge (tgt := 358) dX12_findRaisings_250 (by decide) (fun hb => ?_) (fun hb => ?_)
  · have k := k.1 hb
    refine zr_iinc (v := (v5 + (-1))) dX12_findRaisings_358 rfl rfl (Nat.le_of_ble_eq_true rfl) rfl ?_
    refine zr_goto (tgt := 226) dX12_findRaisings_361 (by decide) ?_
    exact zr_mask [true, true, true, true, true, true, false, false] rfl k
  · have k := k.2 hb
    refine zr_aload_n dX12_findRaisings_253 rfl rfl ?_
    refine zr_iload dX12_findRaisings_254 rfl ?_
    refine zr_iload dX12_findRaisings_256 rfl ?_
    refine zr_callV (As := [.int v6, .int v5]) (fr' := fX12_canCome) (lo' := lX12_canCome) (bc' := 0) (bs' := 0) (bcr := bc) (bsr := bs) dX12_findRaisings_258 zs_X12_375 zi_X12_canCome zcl_12 (hS.has (a := 84) rfl rfl) rfl rfl (Nat.le_of_ble_eq_true rfl) (Nat.le_of_ble_eq_true rfl) (Nat.le_of_ble_eq_true rfl) (Nat.le_refl _) (Nat.le_refl _) ?_
    obtain ⟨hq0, k⟩ := k
    refine sp_X12_canCome hS hq0 ?_
    show ZW G mX12_findRaisings fX12_findRaisings lX12_findRaisings 261 [zo G 84, .int v1, .int v2, .int v3, .int v4, .int v5, .int v6, .null] [.int (p_X12_canCome I v6 v5)] S I L bc bs Q
    refine zr_ifeq (tgt := 352) dX12_findRaisings_261 (by decide) (fun hb => ?_) (fun hb => ?_)
    · have k := k.1 hb
      refine zr_iinc (v := (v6 + 1)) dX12_findRaisings_352 rfl rfl (Nat.le_of_ble_eq_true rfl) rfl ?_
      refine zr_goto (tgt := 244) dX12_findRaisings_355 (by decide) ?_
      exact k
    · have k := k.2 hb
      refine zr_aload_n dX12_findRaisings_264 rfl rfl ?_
      refine zr_getR dX12_findRaisings_265 zf_X12_157 rfl (hS.has (a := 84) rfl rfl) (hS.ref (a := 129) rfl) ?_
      refine zr_iload dX12_findRaisings_268 rfl ?_
      refine zr_iconst (v := 1) dX12_findRaisings_270 (by decide) ?_
      refine zr_iload dX12_findRaisings_271 rfl ?_
      refine zr_ishl dX12_findRaisings_273 ?_
      refine zr_ior dX12_findRaisings_274 ?_
      obtain ⟨hi10, k⟩ := k
      refine zr_ialdv (x := (I 129 (v5 ||| ((1 : Int32) <<< (v6 &&& 31))).toNatClampNeg)) dX12_findRaisings_275 (hS.has (a := 129) rfl rfl) hi10 rfl ?_
      refine zr_ldc_w dX12_findRaisings_276 zk_X12_343 ?_
      refine zr_icne (tgt := 285) dX12_findRaisings_279 (by decide) (fun hb => ?_) (fun hb => ?_)
      · have k := k.1 hb
        refine zr_aload_n dX12_findRaisings_285 rfl rfl ?_
        refine zr_iload dX12_findRaisings_286 rfl ?_
        refine zr_iload dX12_findRaisings_288 rfl ?_
        refine zr_iconst (v := 1) dX12_findRaisings_290 (by decide) ?_
        refine zr_iload dX12_findRaisings_291 rfl ?_
        refine zr_ishl dX12_findRaisings_293 ?_
        refine zr_ior dX12_findRaisings_294 ?_
        refine zr_callV (As := [.int v4, .int (v5 ||| ((1 : Int32) <<< (v6 &&& 31)))]) (fr' := fX12_props) (lo' := lX12_props) (bc' := 0) (bs' := 0) (bcr := bc) (bsr := bs) dX12_findRaisings_295 zs_X12_378 zi_X12_props zcl_12 (hS.has (a := 84) rfl rfl) rfl rfl (Nat.le_of_ble_eq_true rfl) (Nat.le_of_ble_eq_true rfl) (Nat.le_of_ble_eq_true rfl) (Nat.le_refl _) (Nat.le_refl _) ?_
        refine ZC.mono (fun w S' I1 L1 k => ?_) k
        obtain ⟨r1, rfl, rfl, k⟩ := k
        show ZW G mX12_findRaisings fX12_findRaisings lX12_findRaisings 298 [zo G 84, .int v1, .int v2, .int v3, .int v4, .int v5, .int v6, .null] [.int r1] S I1 L1 bc bs Q
        refine zr_istore dX12_findRaisings_298 (Nat.le_of_ble_eq_true rfl) rfl ?_
        refine zr_aload_n dX12_findRaisings_300 rfl rfl ?_
        refine zr_getR dX12_findRaisings_301 zf_X12_157 rfl (hS.has (a := 84) rfl rfl) (hS.ref (a := 129) rfl) ?_
        refine zr_iload dX12_findRaisings_304 rfl ?_
        refine zr_iconst (v := 1) dX12_findRaisings_306 (by decide) ?_
        refine zr_iload dX12_findRaisings_307 rfl ?_
        refine zr_ishl dX12_findRaisings_309 ?_
        refine zr_ior dX12_findRaisings_310 ?_
        refine zr_ialdv (x := (I1 129 (v5 ||| ((1 : Int32) <<< (v6 &&& 31))).toNatClampNeg)) dX12_findRaisings_311 (hS.has (a := 129) rfl rfl) hi10 rfl ?_
        refine zr_iload dX12_findRaisings_312 rfl ?_
        refine zr_icle (tgt := 331) dX12_findRaisings_314 (by decide) (fun hb => ?_) (fun hb => ?_)
        · have k := k.1 hb
          refine zr_iload dX12_findRaisings_331 rfl ?_
          refine zr_aload_n dX12_findRaisings_333 rfl rfl ?_
          refine zr_getR dX12_findRaisings_334 zf_X12_157 rfl (hS.has (a := 84) rfl rfl) (hS.ref (a := 129) rfl) ?_
          refine zr_iload dX12_findRaisings_337 rfl ?_
          obtain ⟨hi11, k⟩ := k
          refine zr_ialdv (x := (I1 129 v5.toNatClampNeg)) dX12_findRaisings_339 (hS.has (a := 129) rfl rfl) hi11 rfl ?_
          refine zr_icge (tgt := 352) dX12_findRaisings_340 (by decide) (fun hb => ?_) (fun hb => ?_)
          · have k := k.1 hb
            refine zr_iinc (v := (v6 + 1)) dX12_findRaisings_352 rfl rfl (Nat.le_of_ble_eq_true rfl) rfl ?_
            refine zr_goto (tgt := 244) dX12_findRaisings_355 (by decide) ?_
            exact zr_mask [true, true, true, true, true, true, true, false] rfl k
          · have k := k.2 hb
            refine zr_aload_n dX12_findRaisings_343 rfl rfl ?_
            refine zr_getR dX12_findRaisings_344 zf_X12_157 rfl (hS.has (a := 84) rfl rfl) (hS.ref (a := 129) rfl) ?_
            refine zr_iload dX12_findRaisings_347 rfl ?_
            refine zr_iload dX12_findRaisings_349 rfl ?_
            refine zr_iast dX12_findRaisings_351 (hS.has (a := 129) rfl rfl) hi11 ?_
            refine zr_iinc (v := (v6 + 1)) dX12_findRaisings_352 rfl rfl (Nat.le_of_ble_eq_true rfl) rfl ?_
            refine zr_goto (tgt := 244) dX12_findRaisings_355 (by decide) ?_
            exact zr_mask [true, true, true, true, true, true, true, false] rfl k
        · have k := k.2 hb
          refine zr_aload_n dX12_findRaisings_317 rfl rfl ?_
          refine zr_getR dX12_findRaisings_318 zf_X12_157 rfl (hS.has (a := 84) rfl rfl) (hS.ref (a := 129) rfl) ?_
          refine zr_iload dX12_findRaisings_321 rfl ?_
          refine zr_iconst (v := 1) dX12_findRaisings_323 (by decide) ?_
          refine zr_iload dX12_findRaisings_324 rfl ?_
          refine zr_ishl dX12_findRaisings_326 ?_
          refine zr_ior dX12_findRaisings_327 ?_
          refine zr_ialdv (x := (I1 129 (v5 ||| ((1 : Int32) <<< (v6 &&& 31))).toNatClampNeg)) dX12_findRaisings_328 (hS.has (a := 129) rfl rfl) hi10 rfl ?_
          refine zr_istore dX12_findRaisings_329 (Nat.le_of_ble_eq_true rfl) rfl ?_
          refine zr_iload dX12_findRaisings_331 rfl ?_
          refine zr_aload_n dX12_findRaisings_333 rfl rfl ?_
          refine zr_getR dX12_findRaisings_334 zf_X12_157 rfl (hS.has (a := 84) rfl rfl) (hS.ref (a := 129) rfl) ?_
          refine zr_iload dX12_findRaisings_337 rfl ?_
          obtain ⟨hi12, k⟩ := k
          refine zr_ialdv (x := (I1 129 v5.toNatClampNeg)) dX12_findRaisings_339 (hS.has (a := 129) rfl rfl) hi12 rfl ?_
          refine zr_icge (tgt := 352) dX12_findRaisings_340 (by decide) (fun hb => ?_) (fun hb => ?_)
          · have k := k.1 hb
            refine zr_iinc (v := (v6 + 1)) dX12_findRaisings_352 rfl rfl (Nat.le_of_ble_eq_true rfl) rfl ?_
            refine zr_goto (tgt := 244) dX12_findRaisings_355 (by decide) ?_
            exact zr_mask [true, true, true, true, true, true, true, false] rfl k
          · have k := k.2 hb
            refine zr_aload_n dX12_findRaisings_343 rfl rfl ?_
            refine zr_getR dX12_findRaisings_344 zf_X12_157 rfl (hS.has (a := 84) rfl rfl) (hS.ref (a := 129) rfl) ?_
            refine zr_iload dX12_findRaisings_347 rfl ?_
            refine zr_iload dX12_findRaisings_349 rfl ?_
            refine zr_iast dX12_findRaisings_351 (hS.has (a := 129) rfl rfl) hi12 ?_
            refine zr_iinc (v := (v6 + 1)) dX12_findRaisings_352 rfl rfl (Nat.le_of_ble_eq_true rfl) rfl ?_
            refine zr_goto (tgt := 244) dX12_findRaisings_355 (by decide) ?_
            exact zr_mask [true, true, true, true, true, true, true, false] rfl k
      · have k := k.2 hb
        refine zr_goto (tgt := 352) dX12_findRaisings_282 (by decide) ?_
        refine zr_iinc (v := (v6 + 1)) dX12_findRaisings_352 rfl rfl (Nat.le_of_ble_eq_true rfl) rfl ?_
        refine zr_goto (tgt := 244) dX12_findRaisings_355 (by decide) ?_
        exact k
set_option maxHeartbeats 2000000 in
theorem vX12_findRaisings_374 {G : Gp} {bc bs : Nat} {Q : zPost} {S : zSh} {I : zFI} {L : zFL} {v1 : Int32} {v2 : Int32} {v3 : Int32} {v4 : Int32} {v5 : Int32} (hS : zStd S)  (k : ((v3 < v5 → Q none S I L) ∧ (¬ v3 < v5 → vp_in v5 65536 ∧ ZW G mX12_findRaisings fX12_findRaisings lX12_findRaisings 391 [zo G 84, .int v1, .int v2, .int v3, .int v4, .int v5, .int (0 : Int32), .null] [] S I (u2 L 130 v5.toNatClampNeg (0 : Int64)) bc bs Q))) : ZW G mX12_findRaisings fX12_findRaisings lX12_findRaisings 374 [zo G 84, .int v1, .int v2, .int v3, .int v4, .int v5, .null, .null] [] S I L bc bs Q := by
  refine zr_iload dX12_findRaisings_374 rfl ?_
  refine zr_iload_n dX12_findRaisings_376 rfl rfl ?_
  refine zr_icgt (tgt := 470) dX12_findRaisings_377 (by decide) (fun hb => ?_) (fun hb => ?_)
  · have k := k.1 hb
    exact zr_return_ dX12_findRaisings_470 rfl k
  · have k := k.2 hb
    refine zr_aload_n dX12_findRaisings_380 rfl rfl ?_
    refine zr_getR dX12_findRaisings_381 zf_X12_160 rfl (hS.has (a := 84) rfl rfl) (hS.ref (a := 130) rfl) ?_
    refine zr_iload dX12_findRaisings_384 rfl ?_
    refine zr_lconst (v := 0) dX12_findRaisings_386 (by decide) ?_
    obtain ⟨hi13, k⟩ := k
    refine zr_last dX12_findRaisings_387 (hS.has (a := 130) rfl rfl) hi13 ?_
    refine zr_iconst (v := 0) dX12_findRaisings_388 (by decide) ?_
    refine zr_istore dX12_findRaisings_389 (Nat.le_of_ble_eq_true rfl) rfl ?_
    exact k
set_option maxHeartbeats 2000000 in
theorem vX12_findRaisings_391 {G : Gp} {bc bs : Nat} {Q : zPost} {S : zSh} {I : zFI} {L : zFL} {v1 : Int32} {v2 : Int32} {v3 : Int32} {v4 : Int32} {v5 : Int32} {v6 : Int32} (hS : zStd S)  (k : (((I 84 66) ≤ v6 → ZW G mX12_findRaisings fX12_findRaisings lX12_findRaisings 374 [zo G 84, .int v1, .int v2, .int v3, .int v4, .int (v5 + 1), .null, .null] [] S I L bc bs Q) ∧ (¬ (I 84 66) ≤ v6 → ((¬ ((v5 >>> (v6 &&& 31)) &&& (1 : Int32)) = (1 : Int32) → ZW G mX12_findRaisings fX12_findRaisings lX12_findRaisings 391 [zo G 84, .int v1, .int v2, .int v3, .int v4, .int v5, .int (v6 + 1), .null] [] S I L bc bs Q) ∧ (((v5 >>> (v6 &&& 31)) &&& (1 : Int32)) = (1 : Int32) → ((((v5 &&& (((1 : Int32) <<< (v6 &&& 31)) ^^^ (-1 : Int32))) >>> (v6 &&& 31)) &&& (1 : Int32)) = 0 → vp_in v6 16) ∧ (((p_X12_canCome I v6 (v5 &&& (((1 : Int32) <<< (v6 &&& 31)) ^^^ (-1 : Int32)))) = 0 → ZW G mX12_findRaisings fX12_findRaisings lX12_findRaisings 391 [zo G 84, .int v1, .int v2, .int v3, .int v4, .int v5, .int (v6 + 1), .null] [] S I L bc bs Q) ∧ (¬ (p_X12_canCome I v6 (v5 &&& (((1 : Int32) <<< (v6 &&& 31)) ^^^ (-1 : Int32)))) = 0 → vp_in v5 65536 ∧ vp_in (v5 &&& (((1 : Int32) <<< (v6 &&& 31)) ^^^ (-1 : Int32))) 65536 ∧ ZW G mX12_findRaisings fX12_findRaisings lX12_findRaisings 391 [zo G 84, .int v1, .int v2, .int v3, .int v4, .int v5, .int (v6 + 1), .null] [] S I (u2 L 130 v5.toNatClampNeg ((L 130 v5.toNatClampNeg) + (L 130 (v5 &&& (((1 : Int32) <<< (v6 &&& 31)) ^^^ (-1 : Int32))).toNatClampNeg))) bc bs Q))))))) : ZW G mX12_findRaisings fX12_findRaisings lX12_findRaisings 391 [zo G 84, .int v1, .int v2, .int v3, .int v4, .int v5, .int v6, .null] [] S I L bc bs Q := by
  refine zr_iload dX12_findRaisings_391 rfl ?_
  refine zr_aload_n dX12_findRaisings_393 rfl rfl ?_
  refine zr_getIv (x := (I 84 66)) dX12_findRaisings_394 zf_X12_369 rfl (hS.has (a := 84) rfl rfl) rfl ?_
  refine zr_icge (tgt := 464) dX12_findRaisings_397 (by decide) (fun hb => ?_) (fun hb => ?_)
  · have k := k.1 hb
    refine zr_iinc (v := (v5 + 1)) dX12_findRaisings_464 rfl rfl (Nat.le_of_ble_eq_true rfl) rfl ?_
    refine zr_goto (tgt := 374) dX12_findRaisings_467 (by decide) ?_
    exact zr_mask [true, true, true, true, true, true, false, false] rfl k
  · have k := k.2 hb
    refine zr_iload dX12_findRaisings_400 rfl ?_
    refine zr_iload dX12_findRaisings_402 rfl ?_
    refine zr_ishr dX12_findRaisings_404 ?_
    refine zr_iconst (v := 1) dX12_findRaisings_405 (by decide) ?_
    refine zr_iand dX12_findRaisings_406 ?_
    refine zr_iconst (v := 1) dX12_findRaisings_407 (by decide) ?_
    refine zr_icne (tgt := 458) dX12_findRaisings_408 (by decide) (fun hb => ?_) (fun hb => ?_)
    · have k := k.1 hb
      refine zr_iinc (v := (v6 + 1)) dX12_findRaisings_458 rfl rfl (Nat.le_of_ble_eq_true rfl) rfl ?_
      refine zr_goto (tgt := 391) dX12_findRaisings_461 (by decide) ?_
      exact k
    · have k := k.2 hb
      refine zr_aload_n dX12_findRaisings_411 rfl rfl ?_
      refine zr_iload dX12_findRaisings_412 rfl ?_
      refine zr_iload dX12_findRaisings_414 rfl ?_
      refine zr_iconst (v := 1) dX12_findRaisings_416 (by decide) ?_
      refine zr_iload dX12_findRaisings_417 rfl ?_
      refine zr_ishl dX12_findRaisings_419 ?_
      refine zr_iconst (v := -1) dX12_findRaisings_420 (by decide) ?_
      refine zr_ixor dX12_findRaisings_421 ?_
      refine zr_iand dX12_findRaisings_422 ?_
      refine zr_callV (As := [.int v6, .int (v5 &&& (((1 : Int32) <<< (v6 &&& 31)) ^^^ (-1 : Int32)))]) (fr' := fX12_canCome) (lo' := lX12_canCome) (bc' := 0) (bs' := 0) (bcr := bc) (bsr := bs) dX12_findRaisings_423 zs_X12_375 zi_X12_canCome zcl_12 (hS.has (a := 84) rfl rfl) rfl rfl (Nat.le_of_ble_eq_true rfl) (Nat.le_of_ble_eq_true rfl) (Nat.le_of_ble_eq_true rfl) (Nat.le_refl _) (Nat.le_refl _) ?_
      obtain ⟨hq0, k⟩ := k
      refine sp_X12_canCome hS hq0 ?_
      show ZW G mX12_findRaisings fX12_findRaisings lX12_findRaisings 426 [zo G 84, .int v1, .int v2, .int v3, .int v4, .int v5, .int v6, .null] [.int (p_X12_canCome I v6 (v5 &&& (((1 : Int32) <<< (v6 &&& 31)) ^^^ (-1 : Int32))))] S I L bc bs Q
      refine zr_ifeq (tgt := 458) dX12_findRaisings_426 (by decide) (fun hb => ?_) (fun hb => ?_)
      · have k := k.1 hb
        refine zr_iinc (v := (v6 + 1)) dX12_findRaisings_458 rfl rfl (Nat.le_of_ble_eq_true rfl) rfl ?_
        refine zr_goto (tgt := 391) dX12_findRaisings_461 (by decide) ?_
        exact k
      · have k := k.2 hb
        refine zr_aload_n dX12_findRaisings_429 rfl rfl ?_
        refine zr_getR dX12_findRaisings_430 zf_X12_160 rfl (hS.has (a := 84) rfl rfl) (hS.ref (a := 130) rfl) ?_
        refine zr_iload dX12_findRaisings_433 rfl ?_
        refine zr_aload_n dX12_findRaisings_435 rfl rfl ?_
        refine zr_getR dX12_findRaisings_436 zf_X12_160 rfl (hS.has (a := 84) rfl rfl) (hS.ref (a := 130) rfl) ?_
        refine zr_iload dX12_findRaisings_439 rfl ?_
        obtain ⟨hi14, k⟩ := k
        refine zr_laldv (x := (L 130 v5.toNatClampNeg)) dX12_findRaisings_441 (hS.has (a := 130) rfl rfl) hi14 rfl ?_
        refine zr_aload_n dX12_findRaisings_442 rfl rfl ?_
        refine zr_getR dX12_findRaisings_443 zf_X12_160 rfl (hS.has (a := 84) rfl rfl) (hS.ref (a := 130) rfl) ?_
        refine zr_iload dX12_findRaisings_446 rfl ?_
        refine zr_iconst (v := 1) dX12_findRaisings_448 (by decide) ?_
        refine zr_iload dX12_findRaisings_449 rfl ?_
        refine zr_ishl dX12_findRaisings_451 ?_
        refine zr_iconst (v := -1) dX12_findRaisings_452 (by decide) ?_
        refine zr_ixor dX12_findRaisings_453 ?_
        refine zr_iand dX12_findRaisings_454 ?_
        obtain ⟨hi15, k⟩ := k
        refine zr_laldv (x := (L 130 (v5 &&& (((1 : Int32) <<< (v6 &&& 31)) ^^^ (-1 : Int32))).toNatClampNeg)) dX12_findRaisings_455 (hS.has (a := 130) rfl rfl) hi15 rfl ?_
        refine zr_ladd dX12_findRaisings_456 ?_
        refine zr_last dX12_findRaisings_457 (hS.has (a := 130) rfl rfl) hi14 ?_
        refine zr_iinc (v := (v6 + 1)) dX12_findRaisings_458 rfl rfl (Nat.le_of_ble_eq_true rfl) rfl ?_
        refine zr_goto (tgt := 391) dX12_findRaisings_461 (by decide) ?_
        exact k
set_option maxHeartbeats 2000000 in
theorem vX12_frame_0 {G : Gp} {bc bs : Nat} {Q : zPost} {S : zSh} {I : zFI} {L : zFL} {v1 : Int32} {v2 : Int32} {v3 : Int32} (hS : zStd S)  (k : (((p_X12_isIn v3 (0 : Int32) (3 : Int32)) = 0 → Q (some (.int (-1 : Int32))) S (u2 I 84 0 (0 : Int32)) L) ∧ (¬ (p_X12_isIn v3 (0 : Int32) (3 : Int32)) = 0 → ZC G mX12_hasFrame fX12_hasFrame lX12_hasFrame [zo G 84, .int v1, .int v2] S (u2 I 84 0 (0 : Int32)) L 0 0 (fun w S' I1 L1 => ∃ r1 : Int32, w = some (.int r1) ∧ S = S' ∧ ((¬ r1 = 0 → ((¬ v3 = 0 → ((¬ v3 = (1 : Int32) → vp_in v2 16 ∧ ZC G mX12_findRaisings fX12_findRaisings lX12_findRaisings [zo G 84, .int v1, .int (I1 125 v2.toNatClampNeg)] S I1 L1 0 0 (fun w S' I2 L2 => w = none ∧ S = S' ∧ (((1000000 : Int32) ≤ (I2 129 (0 : Int32).toNatClampNeg) → ((¬ v3 = (3 : Int32) → (((0 : Int32) = 0 → Q (some (.int (-1 : Int32))) S I2 L2) ∧ (¬ (0 : Int32) = 0 → Q (some (.int (I2 129 (0 : Int32).toNatClampNeg))) S I2 L2))) ∧ (v3 = (3 : Int32) → (((0 : Int32) = 0 → Q (some (.int (0 : Int32))) S I2 L2) ∧ (¬ (0 : Int32) = 0 → Q (some (.int (1 : Int32))) S I2 L2))))) ∧ (¬ (1000000 : Int32) ≤ (I2 129 (0 : Int32).toNatClampNeg) → ((¬ v3 = (3 : Int32) → (((1 : Int32) = 0 → Q (some (.int (-1 : Int32))) S I2 L2) ∧ (¬ (1 : Int32) = 0 → Q (some (.int (I2 129 (0 : Int32).toNatClampNeg))) S I2 L2))) ∧ (v3 = (3 : Int32) → (((1 : Int32) = 0 → Q (some (.int (0 : Int32))) S I2 L2) ∧ (¬ (1 : Int32) = 0 → Q (some (.int (1 : Int32))) S I2 L2)))))))) ∧ (v3 = (1 : Int32) → vp_in v2 16 ∧ ZC G mX12_pairsIn fX12_pairsIn lX12_pairsIn [zo G 84, .int v1, .int (I1 125 v2.toNatClampNeg)] S I1 L1 0 0 (fun w S' I3 L3 => ∃ r3 : Int32, w = some (.int r3) ∧ S = S' ∧ Q (some (.int r3)) S I3 L3)))) ∧ (v3 = 0 → vp_in v2 16 ∧ Q (some (.int (I1 125 v2.toNatClampNeg))) S I1 L1))) ∧ (r1 = 0 → Q (some (.int (-1 : Int32))) S I1 L1)))))) : ZW G mX12_frame fX12_frame lX12_frame 0 [zo G 84, .int v1, .int v2, .int v3, .null] [] S I L bc bs Q := by
  refine zr_aload_n dX12_frame_0 rfl rfl ?_
  refine zr_iconst (v := 0) dX12_frame_1 (by decide) ?_
  refine zr_putI dX12_frame_2 zf_X12_188 rfl (hS.has (a := 84) rfl rfl) rfl rfl ?_
  refine zr_aload_n dX12_frame_5 rfl rfl ?_
  refine zr_iload_n dX12_frame_6 rfl rfl ?_
  refine zr_iconst (v := 0) dX12_frame_7 (by decide) ?_
  refine zr_iconst (v := 3) dX12_frame_8 (by decide) ?_
  refine zr_callV (As := [.int v3, .int (0 : Int32), .int (3 : Int32)]) (fr' := fX12_isIn) (lo' := lX12_isIn) (bc' := 0) (bs' := 0) (bcr := bc) (bsr := bs) dX12_frame_9 zs_X12_201 zi_X12_isIn zcl_12 (hS.has (a := 84) rfl rfl) rfl rfl (Nat.le_of_ble_eq_true rfl) (Nat.le_of_ble_eq_true rfl) (Nat.le_of_ble_eq_true rfl) (Nat.le_refl _) (Nat.le_refl _) ?_
  refine sp_X12_isIn hS  ?_
  show ZW G mX12_frame fX12_frame lX12_frame 12 [zo G 84, .int v1, .int v2, .int v3, .null] [.int (p_X12_isIn v3 (0 : Int32) (3 : Int32))] S (u2 I 84 0 (0 : Int32)) L bc bs Q
  refine zr_ifeq (tgt := 24) dX12_frame_12 (by decide) (fun hb => ?_) (fun hb => ?_)
  · have k := k.1 hb
    refine zr_iconst (v := -1) dX12_frame_24 (by decide) ?_
    exact zr_ireturn dX12_frame_25 rfl rfl k
  · have k := k.2 hb
    refine zr_aload_n dX12_frame_15 rfl rfl ?_
    refine zr_iload_n dX12_frame_16 rfl rfl ?_
    refine zr_iload_n dX12_frame_17 rfl rfl ?_
    refine zr_callV (As := [.int v1, .int v2]) (fr' := fX12_hasFrame) (lo' := lX12_hasFrame) (bc' := 0) (bs' := 0) (bcr := bc) (bsr := bs) dX12_frame_18 zs_X12_381 zi_X12_hasFrame zcl_12 (hS.has (a := 84) rfl rfl) rfl rfl (Nat.le_of_ble_eq_true rfl) (Nat.le_of_ble_eq_true rfl) (Nat.le_of_ble_eq_true rfl) (Nat.le_refl _) (Nat.le_refl _) ?_
    refine ZC.mono (fun w S' I1 L1 k => ?_) k
    obtain ⟨r1, rfl, rfl, k⟩ := k
    show ZW G mX12_frame fX12_frame lX12_frame 21 [zo G 84, .int v1, .int v2, .int v3, .null] [.int r1] S I1 L1 bc bs Q
    refine zr_ifne (tgt := 26) dX12_frame_21 (by decide) (fun hb => ?_) (fun hb => ?_)
    · have k := k.1 hb
      refine zr_iload_n dX12_frame_26 rfl rfl ?_
      refine zr_ifne (tgt := 37) dX12_frame_27 (by decide) (fun hb => ?_) (fun hb => ?_)
      · have k := k.1 hb
        refine zr_iload_n dX12_frame_37 rfl rfl ?_
        refine zr_iconst (v := 1) dX12_frame_38 (by decide) ?_
        refine zr_icne (tgt := 54) dX12_frame_39 (by decide) (fun hb => ?_) (fun hb => ?_)
        · have k := k.1 hb
          refine zr_aload_n dX12_frame_54 rfl rfl ?_
          refine zr_iload_n dX12_frame_55 rfl rfl ?_
          refine zr_aload_n dX12_frame_56 rfl rfl ?_
          refine zr_getR dX12_frame_57 zf_X12_144 rfl (hS.has (a := 84) rfl rfl) (hS.ref (a := 125) rfl) ?_
          refine zr_iload_n dX12_frame_60 rfl rfl ?_
          obtain ⟨hi1, k⟩ := k
          refine zr_ialdv (x := (I1 125 v2.toNatClampNeg)) dX12_frame_61 (hS.has (a := 125) rfl rfl) hi1 rfl ?_
          refine zr_callV (As := [.int v1, .int (I1 125 v2.toNatClampNeg)]) (fr' := fX12_findRaisings) (lo' := lX12_findRaisings) (bc' := 0) (bs' := 0) (bcr := bc) (bsr := bs) dX12_frame_62 zs_X12_387 zi_X12_findRaisings zcl_12 (hS.has (a := 84) rfl rfl) rfl rfl (Nat.le_of_ble_eq_true rfl) (Nat.le_of_ble_eq_true rfl) (Nat.le_of_ble_eq_true rfl) (Nat.le_refl _) (Nat.le_refl _) ?_
          refine ZC.mono (fun w S' I2 L2 k => ?_) k
          obtain ⟨rfl, rfl, k⟩ := k
          show ZW G mX12_frame fX12_frame lX12_frame 65 [zo G 84, .int v1, .int v2, .int v3, .null] [] S I2 L2 bc bs Q
          refine zr_aload_n dX12_frame_65 rfl rfl ?_
          refine zr_getR dX12_frame_66 zf_X12_157 rfl (hS.has (a := 84) rfl rfl) (hS.ref (a := 129) rfl) ?_
          refine zr_iconst (v := 0) dX12_frame_69 (by decide) ?_
          refine zr_ialdv (x := (I2 129 (0 : Int32).toNatClampNeg)) dX12_frame_70 (hS.has (a := 129) rfl rfl) (zvl (by decide)) rfl ?_
          refine zr_ldc_w dX12_frame_71 zk_X12_343 ?_
          refine zr_icge (tgt := 81) dX12_frame_74 (by decide) (fun hb => ?_) (fun hb => ?_)
          · have k := k.1 hb
            refine zr_iconst (v := 0) dX12_frame_81 (by decide) ?_
            refine zr_istore dX12_frame_82 (Nat.le_of_ble_eq_true rfl) rfl ?_
            refine zr_iload_n dX12_frame_84 rfl rfl ?_
            refine zr_iconst (v := 3) dX12_frame_85 (by decide) ?_
            refine zr_icne (tgt := 102) dX12_frame_86 (by decide) (fun hb => ?_) (fun hb => ?_)
            · have k := k.1 hb
              refine zr_iload dX12_frame_102 rfl ?_
              refine zr_ifeq (tgt := 116) dX12_frame_104 (by decide) (fun hb => ?_) (fun hb => ?_)
              · have k := k.1 hb
                refine zr_iconst (v := -1) dX12_frame_116 (by decide) ?_
                exact zr_ireturn dX12_frame_117 rfl rfl k
              · have k := k.2 hb
                refine zr_aload_n dX12_frame_107 rfl rfl ?_
                refine zr_getR dX12_frame_108 zf_X12_157 rfl (hS.has (a := 84) rfl rfl) (hS.ref (a := 129) rfl) ?_
                refine zr_iconst (v := 0) dX12_frame_111 (by decide) ?_
                refine zr_ialdv (x := (I2 129 (0 : Int32).toNatClampNeg)) dX12_frame_112 (hS.has (a := 129) rfl rfl) (zvl (by decide)) rfl ?_
                refine zr_goto (tgt := 117) dX12_frame_113 (by decide) ?_
                exact zr_ireturn dX12_frame_117 rfl rfl k
            · have k := k.2 hb
              refine zr_iload dX12_frame_89 rfl ?_
              refine zr_ifeq (tgt := 98) dX12_frame_91 (by decide) (fun hb => ?_) (fun hb => ?_)
              · have k := k.1 hb
                refine zr_iconst (v := 0) dX12_frame_98 (by decide) ?_
                refine zr_goto (tgt := 117) dX12_frame_99 (by decide) ?_
                exact zr_ireturn dX12_frame_117 rfl rfl k
              · have k := k.2 hb
                refine zr_iconst (v := 1) dX12_frame_94 (by decide) ?_
                refine zr_goto (tgt := 117) dX12_frame_95 (by decide) ?_
                exact zr_ireturn dX12_frame_117 rfl rfl k
          · have k := k.2 hb
            refine zr_iconst (v := 1) dX12_frame_77 (by decide) ?_
            refine zr_goto (tgt := 82) dX12_frame_78 (by decide) ?_
            refine zr_istore dX12_frame_82 (Nat.le_of_ble_eq_true rfl) rfl ?_
            refine zr_iload_n dX12_frame_84 rfl rfl ?_
            refine zr_iconst (v := 3) dX12_frame_85 (by decide) ?_
            refine zr_icne (tgt := 102) dX12_frame_86 (by decide) (fun hb => ?_) (fun hb => ?_)
            · have k := k.1 hb
              refine zr_iload dX12_frame_102 rfl ?_
              refine zr_ifeq (tgt := 116) dX12_frame_104 (by decide) (fun hb => ?_) (fun hb => ?_)
              · have k := k.1 hb
                refine zr_iconst (v := -1) dX12_frame_116 (by decide) ?_
                exact zr_ireturn dX12_frame_117 rfl rfl k
              · have k := k.2 hb
                refine zr_aload_n dX12_frame_107 rfl rfl ?_
                refine zr_getR dX12_frame_108 zf_X12_157 rfl (hS.has (a := 84) rfl rfl) (hS.ref (a := 129) rfl) ?_
                refine zr_iconst (v := 0) dX12_frame_111 (by decide) ?_
                refine zr_ialdv (x := (I2 129 (0 : Int32).toNatClampNeg)) dX12_frame_112 (hS.has (a := 129) rfl rfl) (zvl (by decide)) rfl ?_
                refine zr_goto (tgt := 117) dX12_frame_113 (by decide) ?_
                exact zr_ireturn dX12_frame_117 rfl rfl k
            · have k := k.2 hb
              refine zr_iload dX12_frame_89 rfl ?_
              refine zr_ifeq (tgt := 98) dX12_frame_91 (by decide) (fun hb => ?_) (fun hb => ?_)
              · have k := k.1 hb
                refine zr_iconst (v := 0) dX12_frame_98 (by decide) ?_
                refine zr_goto (tgt := 117) dX12_frame_99 (by decide) ?_
                exact zr_ireturn dX12_frame_117 rfl rfl k
              · have k := k.2 hb
                refine zr_iconst (v := 1) dX12_frame_94 (by decide) ?_
                refine zr_goto (tgt := 117) dX12_frame_95 (by decide) ?_
                exact zr_ireturn dX12_frame_117 rfl rfl k
        · have k := k.2 hb
          refine zr_aload_n dX12_frame_42 rfl rfl ?_
          refine zr_iload_n dX12_frame_43 rfl rfl ?_
          refine zr_aload_n dX12_frame_44 rfl rfl ?_
          refine zr_getR dX12_frame_45 zf_X12_144 rfl (hS.has (a := 84) rfl rfl) (hS.ref (a := 125) rfl) ?_
          refine zr_iload_n dX12_frame_48 rfl rfl ?_
          obtain ⟨hi2, k⟩ := k
          refine zr_ialdv (x := (I1 125 v2.toNatClampNeg)) dX12_frame_49 (hS.has (a := 125) rfl rfl) hi2 rfl ?_
          refine zr_callV (As := [.int v1, .int (I1 125 v2.toNatClampNeg)]) (fr' := fX12_pairsIn) (lo' := lX12_pairsIn) (bc' := 0) (bs' := 0) (bcr := bc) (bsr := bs) dX12_frame_50 zs_X12_384 zi_X12_pairsIn zcl_12 (hS.has (a := 84) rfl rfl) rfl rfl (Nat.le_of_ble_eq_true rfl) (Nat.le_of_ble_eq_true rfl) (Nat.le_of_ble_eq_true rfl) (Nat.le_refl _) (Nat.le_refl _) ?_
          refine ZC.mono (fun w S' I3 L3 k => ?_) k
          obtain ⟨r3, rfl, rfl, k⟩ := k
          show ZW G mX12_frame fX12_frame lX12_frame 53 [zo G 84, .int v1, .int v2, .int v3, .null] [.int r3] S I3 L3 bc bs Q
          exact zr_ireturn dX12_frame_53 rfl rfl k
      · have k := k.2 hb
        refine zr_aload_n dX12_frame_30 rfl rfl ?_
        refine zr_getR dX12_frame_31 zf_X12_144 rfl (hS.has (a := 84) rfl rfl) (hS.ref (a := 125) rfl) ?_
        refine zr_iload_n dX12_frame_34 rfl rfl ?_
        obtain ⟨hi3, k⟩ := k
        refine zr_ialdv (x := (I1 125 v2.toNatClampNeg)) dX12_frame_35 (hS.has (a := 125) rfl rfl) hi3 rfl ?_
        exact zr_ireturn dX12_frame_36 rfl rfl k
    · have k := k.2 hb
      refine zr_iconst (v := -1) dX12_frame_24 (by decide) ?_
      exact zr_ireturn dX12_frame_25 rfl rfl k
set_option maxHeartbeats 2000000 in
theorem vX12_orders_0 {G : Gp} {bc bs : Nat} {Q : zPost} {S : zSh} {I : zFI} {L : zFL} {v1 : Int32} {v2 : Int32} (hS : zStd S)  (k : ZC G mX12_hasFrame fX12_hasFrame lX12_hasFrame [zo G 84, .int v1, .int v2] S (u2 I 84 0 (0 : Int32)) L 0 0 (fun w S' I1 L1 => ∃ r1 : Int32, w = some (.int r1) ∧ S = S' ∧ ((¬ r1 = 0 → vp_in v2 16 ∧ ZC G mX12_findRaisings fX12_findRaisings lX12_findRaisings [zo G 84, .int v1, .int (I1 125 v2.toNatClampNeg)] S I1 L1 0 0 (fun w S' I2 L2 => w = none ∧ S = S' ∧ vp_in (((1 : Int32) <<< ((I2 84 66) &&& 31)) - (1 : Int32)) 65536 ∧ Q (some (.long (L2 130 (((1 : Int32) <<< ((I2 84 66) &&& 31)) - (1 : Int32)).toNatClampNeg))) S I2 L2)) ∧ (r1 = 0 → Q (some (.long (-1 : Int64))) S I1 L1)))) : ZW G mX12_orders fX12_orders lX12_orders 0 [zo G 84, .int v1, .int v2] [] S I L bc bs Q := by
  refine zr_aload_n dX12_orders_0 rfl rfl ?_
  refine zr_iconst (v := 0) dX12_orders_1 (by decide) ?_
  refine zr_putI dX12_orders_2 zf_X12_188 rfl (hS.has (a := 84) rfl rfl) rfl rfl ?_
  refine zr_aload_n dX12_orders_5 rfl rfl ?_
  refine zr_iload_n dX12_orders_6 rfl rfl ?_
  refine zr_iload_n dX12_orders_7 rfl rfl ?_
  refine zr_callV (As := [.int v1, .int v2]) (fr' := fX12_hasFrame) (lo' := lX12_hasFrame) (bc' := 0) (bs' := 0) (bcr := bc) (bsr := bs) dX12_orders_8 zs_X12_381 zi_X12_hasFrame zcl_12 (hS.has (a := 84) rfl rfl) rfl rfl (Nat.le_of_ble_eq_true rfl) (Nat.le_of_ble_eq_true rfl) (Nat.le_of_ble_eq_true rfl) (Nat.le_refl _) (Nat.le_refl _) ?_
  refine ZC.mono (fun w S' I1 L1 k => ?_) k
  obtain ⟨r1, rfl, rfl, k⟩ := k
  show ZW G mX12_orders fX12_orders lX12_orders 11 [zo G 84, .int v1, .int v2] [.int r1] S I1 L1 bc bs Q
  refine zr_ifne (tgt := 18) dX12_orders_11 (by decide) (fun hb => ?_) (fun hb => ?_)
  · have k := k.1 hb
    refine zr_aload_n dX12_orders_18 rfl rfl ?_
    refine zr_iload_n dX12_orders_19 rfl rfl ?_
    refine zr_aload_n dX12_orders_20 rfl rfl ?_
    refine zr_getR dX12_orders_21 zf_X12_144 rfl (hS.has (a := 84) rfl rfl) (hS.ref (a := 125) rfl) ?_
    refine zr_iload_n dX12_orders_24 rfl rfl ?_
    obtain ⟨hi1, k⟩ := k
    refine zr_ialdv (x := (I1 125 v2.toNatClampNeg)) dX12_orders_25 (hS.has (a := 125) rfl rfl) hi1 rfl ?_
    refine zr_callV (As := [.int v1, .int (I1 125 v2.toNatClampNeg)]) (fr' := fX12_findRaisings) (lo' := lX12_findRaisings) (bc' := 0) (bs' := 0) (bcr := bc) (bsr := bs) dX12_orders_26 zs_X12_387 zi_X12_findRaisings zcl_12 (hS.has (a := 84) rfl rfl) rfl rfl (Nat.le_of_ble_eq_true rfl) (Nat.le_of_ble_eq_true rfl) (Nat.le_of_ble_eq_true rfl) (Nat.le_refl _) (Nat.le_refl _) ?_
    refine ZC.mono (fun w S' I2 L2 k => ?_) k
    obtain ⟨rfl, rfl, k⟩ := k
    show ZW G mX12_orders fX12_orders lX12_orders 29 [zo G 84, .int v1, .int v2] [] S I2 L2 bc bs Q
    refine zr_aload_n dX12_orders_29 rfl rfl ?_
    refine zr_getR dX12_orders_30 zf_X12_160 rfl (hS.has (a := 84) rfl rfl) (hS.ref (a := 130) rfl) ?_
    refine zr_iconst (v := 1) dX12_orders_33 (by decide) ?_
    refine zr_aload_n dX12_orders_34 rfl rfl ?_
    refine zr_getIv (x := (I2 84 66)) dX12_orders_35 zf_X12_369 rfl (hS.has (a := 84) rfl rfl) rfl ?_
    refine zr_ishl dX12_orders_38 ?_
    refine zr_iconst (v := 1) dX12_orders_39 (by decide) ?_
    refine zr_isub dX12_orders_40 ?_
    obtain ⟨hi2, k⟩ := k
    refine zr_laldv (x := (L2 130 (((1 : Int32) <<< ((I2 84 66) &&& 31)) - (1 : Int32)).toNatClampNeg)) dX12_orders_41 (hS.has (a := 130) rfl rfl) hi2 rfl ?_
    exact zr_lreturn dX12_orders_42 rfl k
  · have k := k.2 hb
    refine zr_ldc2_w dX12_orders_14 zk_X12_326 ?_
    exact zr_lreturn dX12_orders_17 rfl k
set_option maxHeartbeats 2000000 in
theorem vX12_raised_0 {G : Gp} {bc bs : Nat} {Q : zPost} {S : zSh} {I : zFI} {L : zFL} {v1 : Int32} {v2 : Int32} {v3 : Int32} (hS : zStd S)  (k : ZC G mX12_hasFrame fX12_hasFrame lX12_hasFrame [zo G 84, .int v1, .int v2] S (u2 I 84 0 (0 : Int32)) L 0 0 (fun w S' I1 L1 => ∃ r1 : Int32, w = some (.int r1) ∧ S = S' ∧ ((¬ r1 = 0 → vp_in v2 16 ∧ ZC G mX12_findRaisings fX12_findRaisings lX12_findRaisings [zo G 84, .int v1, .int (I1 125 v2.toNatClampNeg)] S I1 L1 0 0 (fun w S' I2 L2 => w = none ∧ S = S' ∧ (((I2 129 (0 : Int32).toNatClampNeg) = (1000000 : Int32) → Q (some (.int (-1 : Int32))) S I2 L2) ∧ (¬ (I2 129 (0 : Int32).toNatClampNeg) = (1000000 : Int32) → ((¬ (p_X12_isIn v3 (0 : Int32) ((I2 84 66) - (1 : Int32))) = 0 → vp_in (((50 : Int32) * v1) + (3 : Int32)) 150 ∧ ZW G mX12_raised fX12_raised lX12_raised 78 [zo G 84, .int v1, .int v2, .int v3, .int (I2 105 (((50 : Int32) * v1) + (3 : Int32)).toNatClampNeg), .int (0 : Int32), .int (-1 : Int32), .int (0 : Int32)] [] S I2 L2 bc bs Q) ∧ ((p_X12_isIn v3 (0 : Int32) ((I2 84 66) - (1 : Int32))) = 0 → Q (some (.int (-1 : Int32))) S I2 L2)))))) ∧ (r1 = 0 → Q (some (.int (-1 : Int32))) S I1 L1)))) : ZW G mX12_raised fX12_raised lX12_raised 0 [zo G 84, .int v1, .int v2, .int v3, .null, .null, .null, .null] [] S I L bc bs Q := by
  refine zr_aload_n dX12_raised_0 rfl rfl ?_
  refine zr_iconst (v := 0) dX12_raised_1 (by decide) ?_
  refine zr_putI dX12_raised_2 zf_X12_188 rfl (hS.has (a := 84) rfl rfl) rfl rfl ?_
  refine zr_aload_n dX12_raised_5 rfl rfl ?_
  refine zr_iload_n dX12_raised_6 rfl rfl ?_
  refine zr_iload_n dX12_raised_7 rfl rfl ?_
  refine zr_callV (As := [.int v1, .int v2]) (fr' := fX12_hasFrame) (lo' := lX12_hasFrame) (bc' := 0) (bs' := 0) (bcr := bc) (bsr := bs) dX12_raised_8 zs_X12_381 zi_X12_hasFrame zcl_12 (hS.has (a := 84) rfl rfl) rfl rfl (Nat.le_of_ble_eq_true rfl) (Nat.le_of_ble_eq_true rfl) (Nat.le_of_ble_eq_true rfl) (Nat.le_refl _) (Nat.le_refl _) ?_
  refine ZC.mono (fun w S' I1 L1 k => ?_) k
  obtain ⟨r1, rfl, rfl, k⟩ := k
  show ZW G mX12_raised fX12_raised lX12_raised 11 [zo G 84, .int v1, .int v2, .int v3, .null, .null, .null, .null] [.int r1] S I1 L1 bc bs Q
  refine zr_ifne (tgt := 16) dX12_raised_11 (by decide) (fun hb => ?_) (fun hb => ?_)
  · have k := k.1 hb
    refine zr_aload_n dX12_raised_16 rfl rfl ?_
    refine zr_iload_n dX12_raised_17 rfl rfl ?_
    refine zr_aload_n dX12_raised_18 rfl rfl ?_
    refine zr_getR dX12_raised_19 zf_X12_144 rfl (hS.has (a := 84) rfl rfl) (hS.ref (a := 125) rfl) ?_
    refine zr_iload_n dX12_raised_22 rfl rfl ?_
    obtain ⟨hi1, k⟩ := k
    refine zr_ialdv (x := (I1 125 v2.toNatClampNeg)) dX12_raised_23 (hS.has (a := 125) rfl rfl) hi1 rfl ?_
    refine zr_callV (As := [.int v1, .int (I1 125 v2.toNatClampNeg)]) (fr' := fX12_findRaisings) (lo' := lX12_findRaisings) (bc' := 0) (bs' := 0) (bcr := bc) (bsr := bs) dX12_raised_24 zs_X12_387 zi_X12_findRaisings zcl_12 (hS.has (a := 84) rfl rfl) rfl rfl (Nat.le_of_ble_eq_true rfl) (Nat.le_of_ble_eq_true rfl) (Nat.le_of_ble_eq_true rfl) (Nat.le_refl _) (Nat.le_refl _) ?_
    refine ZC.mono (fun w S' I2 L2 k => ?_) k
    obtain ⟨rfl, rfl, k⟩ := k
    show ZW G mX12_raised fX12_raised lX12_raised 27 [zo G 84, .int v1, .int v2, .int v3, .null, .null, .null, .null] [] S I2 L2 bc bs Q
    refine zr_aload_n dX12_raised_27 rfl rfl ?_
    refine zr_getR dX12_raised_28 zf_X12_157 rfl (hS.has (a := 84) rfl rfl) (hS.ref (a := 129) rfl) ?_
    refine zr_iconst (v := 0) dX12_raised_31 (by decide) ?_
    refine zr_ialdv (x := (I2 129 (0 : Int32).toNatClampNeg)) dX12_raised_32 (hS.has (a := 129) rfl rfl) (zvl (by decide)) rfl ?_
    refine zr_ldc_w dX12_raised_33 zk_X12_343 ?_
    refine zr_iceq (tgt := 54) dX12_raised_36 (by decide) (fun hb => ?_) (fun hb => ?_)
    · have k := k.1 hb
      refine zr_iconst (v := -1) dX12_raised_54 (by decide) ?_
      exact zr_ireturn dX12_raised_55 rfl rfl k
    · have k := k.2 hb
      refine zr_aload_n dX12_raised_39 rfl rfl ?_
      refine zr_iload_n dX12_raised_40 rfl rfl ?_
      refine zr_iconst (v := 0) dX12_raised_41 (by decide) ?_
      refine zr_aload_n dX12_raised_42 rfl rfl ?_
      refine zr_getIv (x := (I2 84 66)) dX12_raised_43 zf_X12_369 rfl (hS.has (a := 84) rfl rfl) rfl ?_
      refine zr_iconst (v := 1) dX12_raised_46 (by decide) ?_
      refine zr_isub dX12_raised_47 ?_
      refine zr_callV (As := [.int v3, .int (0 : Int32), .int ((I2 84 66) - (1 : Int32))]) (fr' := fX12_isIn) (lo' := lX12_isIn) (bc' := 0) (bs' := 0) (bcr := bc) (bsr := bs) dX12_raised_48 zs_X12_201 zi_X12_isIn zcl_12 (hS.has (a := 84) rfl rfl) rfl rfl (Nat.le_of_ble_eq_true rfl) (Nat.le_of_ble_eq_true rfl) (Nat.le_of_ble_eq_true rfl) (Nat.le_refl _) (Nat.le_refl _) ?_
      refine sp_X12_isIn hS  ?_
      show ZW G mX12_raised fX12_raised lX12_raised 51 [zo G 84, .int v1, .int v2, .int v3, .null, .null, .null, .null] [.int (p_X12_isIn v3 (0 : Int32) ((I2 84 66) - (1 : Int32)))] S I2 L2 bc bs Q
      refine zr_ifne (tgt := 56) dX12_raised_51 (by decide) (fun hb => ?_) (fun hb => ?_)
      · have k := k.1 hb
        refine zr_aload_n dX12_raised_56 rfl rfl ?_
        refine zr_getR dX12_raised_57 zf_X12_75 rfl (hS.has (a := 84) rfl rfl) (hS.ref (a := 105) rfl) ?_
        refine zr_bipush (v := 50) dX12_raised_60 (by decide) ?_
        refine zr_iload_n dX12_raised_62 rfl rfl ?_
        refine zr_imul dX12_raised_63 ?_
        refine zr_iconst (v := 3) dX12_raised_64 (by decide) ?_
        refine zr_iadd dX12_raised_65 ?_
        obtain ⟨hi2, k⟩ := k
        refine zr_ialdv (x := (I2 105 (((50 : Int32) * v1) + (3 : Int32)).toNatClampNeg)) dX12_raised_66 (hS.has (a := 105) rfl rfl) hi2 rfl ?_
        refine zr_istore dX12_raised_67 (Nat.le_of_ble_eq_true rfl) rfl ?_
        refine zr_iconst (v := 0) dX12_raised_69 (by decide) ?_
        refine zr_istore dX12_raised_70 (Nat.le_of_ble_eq_true rfl) rfl ?_
        refine zr_iconst (v := -1) dX12_raised_72 (by decide) ?_
        refine zr_istore dX12_raised_73 (Nat.le_of_ble_eq_true rfl) rfl ?_
        refine zr_iconst (v := 0) dX12_raised_75 (by decide) ?_
        refine zr_istore dX12_raised_76 (Nat.le_of_ble_eq_true rfl) rfl ?_
        exact k
      · have k := k.2 hb
        refine zr_iconst (v := -1) dX12_raised_54 (by decide) ?_
        exact zr_ireturn dX12_raised_55 rfl rfl k
  · have k := k.2 hb
    refine zr_iconst (v := -1) dX12_raised_14 (by decide) ?_
    exact zr_ireturn dX12_raised_15 rfl rfl k
set_option maxHeartbeats 2000000 in
theorem vX12_raised_78 {G : Gp} {bc bs : Nat} {Q : zPost} {S : zSh} {I : zFI} {L : zFL} {v1 : Int32} {v2 : Int32} {v3 : Int32} {v4 : Int32} {v5 : Int32} {v6 : Int32} {v7 : Int32} (hS : zStd S)  (k : ((v3 < v7 → vp_in v6 16 ∧ Q (some (.int (I 126 v6.toNatClampNeg))) S I L) ∧ (¬ v3 < v7 → ZW G mX12_raised fX12_raised lX12_raised 87 [zo G 84, .int v1, .int v2, .int v3, .int v4, .int v5, .int (0 : Int32), .int v7] [] S I L bc bs Q))) : ZW G mX12_raised fX12_raised lX12_raised 78 [zo G 84, .int v1, .int v2, .int v3, .int v4, .int v5, .int v6, .int v7] [] S I L bc bs Q := by
  refine zr_iload dX12_raised_78 rfl ?_
  refine zr_iload_n dX12_raised_80 rfl rfl ?_
  refine zr_icgt (tgt := 165) dX12_raised_81 (by decide) (fun hb => ?_) (fun hb => ?_)
  · have k := k.1 hb
    refine zr_aload_n dX12_raised_165 rfl rfl ?_
    refine zr_getR dX12_raised_166 zf_X12_147 rfl (hS.has (a := 84) rfl rfl) (hS.ref (a := 126) rfl) ?_
    refine zr_iload dX12_raised_169 rfl ?_
    obtain ⟨hi3, k⟩ := k
    refine zr_ialdv (x := (I 126 v6.toNatClampNeg)) dX12_raised_171 (hS.has (a := 126) rfl rfl) hi3 rfl ?_
    exact zr_ireturn dX12_raised_172 rfl rfl k
  · have k := k.2 hb
    refine zr_iconst (v := 0) dX12_raised_84 (by decide) ?_
    refine zr_istore dX12_raised_85 (Nat.le_of_ble_eq_true rfl) rfl ?_
    exact k
set_option maxHeartbeats 2000000 in
theorem vX12_raised_87 {G : Gp} {bc bs : Nat} {Q : zPost} {S : zSh} {I : zFI} {L : zFL} {v1 : Int32} {v2 : Int32} {v3 : Int32} {v4 : Int32} {v5 : Int32} {v6 : Int32} {v7 : Int32} (hS : zStd S)  (k : (((v5 >>> (v6 &&& 31)) &&& (1 : Int32)) = 0 → vp_in v6 16) ∧ (((p_X12_canCome I v6 v5) = 0 → ZW G mX12_raised fX12_raised lX12_raised 87 [zo G 84, .int v1, .int v2, .int v3, .int v4, .int v5, .int (v6 + (1 : Int32)), .int v7] [] S I L bc bs Q) ∧ (¬ (p_X12_canCome I v6 v5) = 0 → vp_in (v5 ||| ((1 : Int32) <<< (v6 &&& 31))) 65536 ∧ (((I 129 (0 : Int32).toNatClampNeg) < (I 129 (v5 ||| ((1 : Int32) <<< (v6 &&& 31))).toNatClampNeg) → ZW G mX12_raised fX12_raised lX12_raised 87 [zo G 84, .int v1, .int v2, .int v3, .int v4, .int v5, .int (v6 + (1 : Int32)), .int v7] [] S I L bc bs Q) ∧ (¬ (I 129 (0 : Int32).toNatClampNeg) < (I 129 (v5 ||| ((1 : Int32) <<< (v6 &&& 31))).toNatClampNeg) → ZC G mX12_props fX12_props lX12_props [zo G 84, .int v4, .int (v5 ||| ((1 : Int32) <<< (v6 &&& 31)))] S I L 0 0 (fun w S' I1 L1 => ∃ r1 : Int32, w = some (.int r1) ∧ S = S' ∧ ((r1 ≤ (I1 129 (0 : Int32).toNatClampNeg) → ZW G mX12_raised fX12_raised lX12_raised 78 [zo G 84, .int v1, .int v2, .int v3, .int v4, .int (v5 ||| ((1 : Int32) <<< (v6 &&& 31))), .int v6, .int (v7 + 1)] [] S I1 L1 bc bs Q) ∧ (¬ r1 ≤ (I1 129 (0 : Int32).toNatClampNeg) → ZW G mX12_raised fX12_raised lX12_raised 87 [zo G 84, .int v1, .int v2, .int v3, .int v4, .int v5, .int (v6 + (1 : Int32)), .int v7] [] S I1 L1 bc bs Q)))))))) : ZW G mX12_raised fX12_raised lX12_raised 87 [zo G 84, .int v1, .int v2, .int v3, .int v4, .int v5, .int v6, .int v7] [] S I L bc bs Q := by
  refine zr_aload_n dX12_raised_87 rfl rfl ?_
  refine zr_iload dX12_raised_88 rfl ?_
  refine zr_iload dX12_raised_90 rfl ?_
  refine zr_callV (As := [.int v6, .int v5]) (fr' := fX12_canCome) (lo' := lX12_canCome) (bc' := 0) (bs' := 0) (bcr := bc) (bsr := bs) dX12_raised_92 zs_X12_375 zi_X12_canCome zcl_12 (hS.has (a := 84) rfl rfl) rfl rfl (Nat.le_of_ble_eq_true rfl) (Nat.le_of_ble_eq_true rfl) (Nat.le_of_ble_eq_true rfl) (Nat.le_refl _) (Nat.le_refl _) ?_
  obtain ⟨hq0, k⟩ := k
  refine sp_X12_canCome hS hq0 ?_
  show ZW G mX12_raised fX12_raised lX12_raised 95 [zo G 84, .int v1, .int v2, .int v3, .int v4, .int v5, .int v6, .int v7] [.int (p_X12_canCome I v6 v5)] S I L bc bs Q
  refine zr_ifeq (tgt := 141) dX12_raised_95 (by decide) (fun hb => ?_) (fun hb => ?_)
  · have k := k.1 hb
    refine zr_iload dX12_raised_141 rfl ?_
    refine zr_iconst (v := 1) dX12_raised_143 (by decide) ?_
    refine zr_iadd dX12_raised_144 ?_
    refine zr_istore dX12_raised_145 (Nat.le_of_ble_eq_true rfl) rfl ?_
    refine zr_goto (tgt := 87) dX12_raised_147 (by decide) ?_
    exact k
  · have k := k.2 hb
    refine zr_aload_n dX12_raised_98 rfl rfl ?_
    refine zr_getR dX12_raised_99 zf_X12_157 rfl (hS.has (a := 84) rfl rfl) (hS.ref (a := 129) rfl) ?_
    refine zr_iload dX12_raised_102 rfl ?_
    refine zr_iconst (v := 1) dX12_raised_104 (by decide) ?_
    refine zr_iload dX12_raised_105 rfl ?_
    refine zr_ishl dX12_raised_107 ?_
    refine zr_ior dX12_raised_108 ?_
    obtain ⟨hi4, k⟩ := k
    refine zr_ialdv (x := (I 129 (v5 ||| ((1 : Int32) <<< (v6 &&& 31))).toNatClampNeg)) dX12_raised_109 (hS.has (a := 129) rfl rfl) hi4 rfl ?_
    refine zr_aload_n dX12_raised_110 rfl rfl ?_
    refine zr_getR dX12_raised_111 zf_X12_157 rfl (hS.has (a := 84) rfl rfl) (hS.ref (a := 129) rfl) ?_
    refine zr_iconst (v := 0) dX12_raised_114 (by decide) ?_
    refine zr_ialdv (x := (I 129 (0 : Int32).toNatClampNeg)) dX12_raised_115 (hS.has (a := 129) rfl rfl) (zvl (by decide)) rfl ?_
    refine zr_icgt (tgt := 141) dX12_raised_116 (by decide) (fun hb => ?_) (fun hb => ?_)
    · have k := k.1 hb
      refine zr_iload dX12_raised_141 rfl ?_
      refine zr_iconst (v := 1) dX12_raised_143 (by decide) ?_
      refine zr_iadd dX12_raised_144 ?_
      refine zr_istore dX12_raised_145 (Nat.le_of_ble_eq_true rfl) rfl ?_
      refine zr_goto (tgt := 87) dX12_raised_147 (by decide) ?_
      exact k
    · have k := k.2 hb
      refine zr_aload_n dX12_raised_119 rfl rfl ?_
      refine zr_iload dX12_raised_120 rfl ?_
      refine zr_iload dX12_raised_122 rfl ?_
      refine zr_iconst (v := 1) dX12_raised_124 (by decide) ?_
      refine zr_iload dX12_raised_125 rfl ?_
      refine zr_ishl dX12_raised_127 ?_
      refine zr_ior dX12_raised_128 ?_
      refine zr_callV (As := [.int v4, .int (v5 ||| ((1 : Int32) <<< (v6 &&& 31)))]) (fr' := fX12_props) (lo' := lX12_props) (bc' := 0) (bs' := 0) (bcr := bc) (bsr := bs) dX12_raised_129 zs_X12_378 zi_X12_props zcl_12 (hS.has (a := 84) rfl rfl) rfl rfl (Nat.le_of_ble_eq_true rfl) (Nat.le_of_ble_eq_true rfl) (Nat.le_of_ble_eq_true rfl) (Nat.le_refl _) (Nat.le_refl _) ?_
      refine ZC.mono (fun w S' I1 L1 k => ?_) k
      obtain ⟨r1, rfl, rfl, k⟩ := k
      show ZW G mX12_raised fX12_raised lX12_raised 132 [zo G 84, .int v1, .int v2, .int v3, .int v4, .int v5, .int v6, .int v7] [.int r1] S I1 L1 bc bs Q
      refine zr_aload_n dX12_raised_132 rfl rfl ?_
      refine zr_getR dX12_raised_133 zf_X12_157 rfl (hS.has (a := 84) rfl rfl) (hS.ref (a := 129) rfl) ?_
      refine zr_iconst (v := 0) dX12_raised_136 (by decide) ?_
      refine zr_ialdv (x := (I1 129 (0 : Int32).toNatClampNeg)) dX12_raised_137 (hS.has (a := 129) rfl rfl) (zvl (by decide)) rfl ?_
      refine zr_icle (tgt := 150) dX12_raised_138 (by decide) (fun hb => ?_) (fun hb => ?_)
      · have k := k.1 hb
        refine zr_iload dX12_raised_150 rfl ?_
        refine zr_iconst (v := 1) dX12_raised_152 (by decide) ?_
        refine zr_iload dX12_raised_153 rfl ?_
        refine zr_ishl dX12_raised_155 ?_
        refine zr_ior dX12_raised_156 ?_
        refine zr_istore dX12_raised_157 (Nat.le_of_ble_eq_true rfl) rfl ?_
        refine zr_iinc (v := (v7 + 1)) dX12_raised_159 rfl rfl (Nat.le_of_ble_eq_true rfl) rfl ?_
        refine zr_goto (tgt := 78) dX12_raised_162 (by decide) ?_
        exact k
      · have k := k.2 hb
        refine zr_iload dX12_raised_141 rfl ?_
        refine zr_iconst (v := 1) dX12_raised_143 (by decide) ?_
        refine zr_iadd dX12_raised_144 ?_
        refine zr_istore dX12_raised_145 (Nat.le_of_ble_eq_true rfl) rfl ?_
        refine zr_goto (tgt := 87) dX12_raised_147 (by decide) ?_
        exact k
set_option maxHeartbeats 2000000 in
theorem vX12_master_0 {G : Gp} {bc bs : Nat} {Q : zPost} {S : zSh} {I : zFI} {L : zFL} {v1 : Int32} {v2 : Int32} (hS : zStd S)  (k : (((p_X12_isIn v1 (0 : Int32) (199 : Int32)) = 0 → Q (some (.int (0 : Int32))) S (u2 I 84 0 (0 : Int32)) L) ∧ (¬ (p_X12_isIn v1 (0 : Int32) (199 : Int32)) = 0 → ((¬ (p_X12_isIn v2 (-1 : Int32) (99 : Int32)) = 0 → ((v2 = (-1 : Int32) → vp_in v1 200 ∧ Q (some (.int (1 : Int32))) S (u2 (u2 (u2 I 84 0 (0 : Int32)) 132 v1.toNatClampNeg (0 : Int32)) 131 v1.toNatClampNeg v2) L) ∧ (¬ v2 = (-1 : Int32) → vp_in v1 200 ∧ Q (some (.int (1 : Int32))) S (u2 (u2 (u2 I 84 0 (0 : Int32)) 132 v1.toNatClampNeg (1 : Int32)) 131 v1.toNatClampNeg v2) L))) ∧ ((p_X12_isIn v2 (-1 : Int32) (99 : Int32)) = 0 → Q (some (.int (0 : Int32))) S (u2 I 84 0 (0 : Int32)) L))))) : ZW G mX12_master fX12_master lX12_master 0 [zo G 84, .int v1, .int v2] [] S I L bc bs Q := by
  refine zr_aload_n dX12_master_0 rfl rfl ?_
  refine zr_iconst (v := 0) dX12_master_1 (by decide) ?_
  refine zr_putI dX12_master_2 zf_X12_188 rfl (hS.has (a := 84) rfl rfl) rfl rfl ?_
  refine zr_aload_n dX12_master_5 rfl rfl ?_
  refine zr_iload_n dX12_master_6 rfl rfl ?_
  refine zr_iconst (v := 0) dX12_master_7 (by decide) ?_
  refine zr_sipush (v := 199) dX12_master_8 (by decide) ?_
  refine zr_callV (As := [.int v1, .int (0 : Int32), .int (199 : Int32)]) (fr' := fX12_isIn) (lo' := lX12_isIn) (bc' := 0) (bs' := 0) (bcr := bc) (bsr := bs) dX12_master_11 zs_X12_201 zi_X12_isIn zcl_12 (hS.has (a := 84) rfl rfl) rfl rfl (Nat.le_of_ble_eq_true rfl) (Nat.le_of_ble_eq_true rfl) (Nat.le_of_ble_eq_true rfl) (Nat.le_refl _) (Nat.le_refl _) ?_
  refine sp_X12_isIn hS  ?_
  show ZW G mX12_master fX12_master lX12_master 14 [zo G 84, .int v1, .int v2] [.int (p_X12_isIn v1 (0 : Int32) (199 : Int32))] S (u2 I 84 0 (0 : Int32)) L bc bs Q
  refine zr_ifeq (tgt := 28) dX12_master_14 (by decide) (fun hb => ?_) (fun hb => ?_)
  · have k := k.1 hb
    refine zr_iconst (v := 0) dX12_master_28 (by decide) ?_
    exact zr_ireturn dX12_master_29 rfl rfl k
  · have k := k.2 hb
    refine zr_aload_n dX12_master_17 rfl rfl ?_
    refine zr_iload_n dX12_master_18 rfl rfl ?_
    refine zr_iconst (v := -1) dX12_master_19 (by decide) ?_
    refine zr_bipush (v := 99) dX12_master_20 (by decide) ?_
    refine zr_callV (As := [.int v2, .int (-1 : Int32), .int (99 : Int32)]) (fr' := fX12_isIn) (lo' := lX12_isIn) (bc' := 0) (bs' := 0) (bcr := bc) (bsr := bs) dX12_master_22 zs_X12_201 zi_X12_isIn zcl_12 (hS.has (a := 84) rfl rfl) rfl rfl (Nat.le_of_ble_eq_true rfl) (Nat.le_of_ble_eq_true rfl) (Nat.le_of_ble_eq_true rfl) (Nat.le_refl _) (Nat.le_refl _) ?_
    refine sp_X12_isIn hS  ?_
    show ZW G mX12_master fX12_master lX12_master 25 [zo G 84, .int v1, .int v2] [.int (p_X12_isIn v2 (-1 : Int32) (99 : Int32))] S (u2 I 84 0 (0 : Int32)) L bc bs Q
    refine zr_ifne (tgt := 30) dX12_master_25 (by decide) (fun hb => ?_) (fun hb => ?_)
    · have k := k.1 hb
      refine zr_aload_n dX12_master_30 rfl rfl ?_
      refine zr_getR dX12_master_31 zf_X12_167 rfl (hS.has (a := 84) rfl rfl) (hS.ref (a := 132) rfl) ?_
      refine zr_iload_n dX12_master_34 rfl rfl ?_
      refine zr_iload_n dX12_master_35 rfl rfl ?_
      refine zr_iconst (v := -1) dX12_master_36 (by decide) ?_
      refine zr_iceq (tgt := 44) dX12_master_37 (by decide) (fun hb => ?_) (fun hb => ?_)
      · have k := k.1 hb
        refine zr_iconst (v := 0) dX12_master_44 (by decide) ?_
        obtain ⟨hi1, k⟩ := k
        refine zr_zast dX12_master_45 (hS.has (a := 132) rfl rfl) hi1 rfl ?_
        refine zr_aload_n dX12_master_46 rfl rfl ?_
        refine zr_getR dX12_master_47 zf_X12_164 rfl (hS.has (a := 84) rfl rfl) (hS.ref (a := 131) rfl) ?_
        refine zr_iload_n dX12_master_50 rfl rfl ?_
        refine zr_iload_n dX12_master_51 rfl rfl ?_
        refine zr_iast dX12_master_52 (hS.has (a := 131) rfl rfl) hi1 ?_
        refine zr_iconst (v := 1) dX12_master_53 (by decide) ?_
        exact zr_ireturn dX12_master_54 rfl rfl k
      · have k := k.2 hb
        refine zr_iconst (v := 1) dX12_master_40 (by decide) ?_
        refine zr_goto (tgt := 45) dX12_master_41 (by decide) ?_
        obtain ⟨hi2, k⟩ := k
        refine zr_zast dX12_master_45 (hS.has (a := 132) rfl rfl) hi2 rfl ?_
        refine zr_aload_n dX12_master_46 rfl rfl ?_
        refine zr_getR dX12_master_47 zf_X12_164 rfl (hS.has (a := 84) rfl rfl) (hS.ref (a := 131) rfl) ?_
        refine zr_iload_n dX12_master_50 rfl rfl ?_
        refine zr_iload_n dX12_master_51 rfl rfl ?_
        refine zr_iast dX12_master_52 (hS.has (a := 131) rfl rfl) hi2 ?_
        refine zr_iconst (v := 1) dX12_master_53 (by decide) ?_
        exact zr_ireturn dX12_master_54 rfl rfl k
    · have k := k.2 hb
      refine zr_iconst (v := 0) dX12_master_28 (by decide) ?_
      exact zr_ireturn dX12_master_29 rfl rfl k
set_option maxHeartbeats 2000000 in
theorem vX12_ring_0 {G : Gp} {bc bs : Nat} {Q : zPost} {S : zSh} {I : zFI} {L : zFL} {v1 : Int32} {v2 : Int32} (hS : zStd S)  (k : (((p_X12_isIn v1 (0 : Int32) ((I 84 3) - (1 : Int32))) = 0 → Q (some (.int (-1 : Int32))) S (u2 I 84 0 (0 : Int32)) L) ∧ (¬ (p_X12_isIn v1 (0 : Int32) ((I 84 3) - (1 : Int32))) = 0 → (((p_X12_isIn v2 (0 : Int32) (99 : Int32)) = 0 → Q (some (.int (-1 : Int32))) S (u2 I 84 0 (0 : Int32)) L) ∧ (¬ (p_X12_isIn v2 (0 : Int32) (99 : Int32)) = 0 → vp_in v1 16 ∧ ((¬ (I 89 v1.toNatClampNeg) = (24 : Int32) → vp_in (((24 : Int32) * v1) + (I 89 v1.toNatClampNeg)) 384 ∧ Q (some (.int ((u2 (u2 (u2 (u2 I 84 0 (0 : Int32)) 90 (((24 : Int32) * v1) + (I 89 v1.toNatClampNeg)).toNatClampNeg v2) 91 (((24 : Int32) * v1) + (I 89 v1.toNatClampNeg)).toNatClampNeg (I 84 1)) 89 v1.toNatClampNeg ((I 89 v1.toNatClampNeg) + (1 : Int32))) 89 v1.toNatClampNeg))) S (u2 (u2 (u2 (u2 I 84 0 (0 : Int32)) 90 (((24 : Int32) * v1) + (I 89 v1.toNatClampNeg)).toNatClampNeg v2) 91 (((24 : Int32) * v1) + (I 89 v1.toNatClampNeg)).toNatClampNeg (I 84 1)) 89 v1.toNatClampNeg ((I 89 v1.toNatClampNeg) + (1 : Int32))) L) ∧ ((I 89 v1.toNatClampNeg) = (24 : Int32) → Q (some (.int (-1 : Int32))) S (u2 I 84 0 (0 : Int32)) L))))))) : ZW G mX12_ring fX12_ring lX12_ring 0 [zo G 84, .int v1, .int v2] [] S I L bc bs Q := by
  refine zr_aload_n dX12_ring_0 rfl rfl ?_
  refine zr_iconst (v := 0) dX12_ring_1 (by decide) ?_
  refine zr_putI dX12_ring_2 zf_X12_188 rfl (hS.has (a := 84) rfl rfl) rfl rfl ?_
  refine zr_aload_n dX12_ring_5 rfl rfl ?_
  refine zr_iload_n dX12_ring_6 rfl rfl ?_
  refine zr_iconst (v := 0) dX12_ring_7 (by decide) ?_
  refine zr_aload_n dX12_ring_8 rfl rfl ?_
  refine zr_getIv (x := (I 84 3)) dX12_ring_9 zf_X12_191 rfl (hS.has (a := 84) rfl rfl) rfl ?_
  refine zr_iconst (v := 1) dX12_ring_12 (by decide) ?_
  refine zr_isub dX12_ring_13 ?_
  refine zr_callV (As := [.int v1, .int (0 : Int32), .int ((I 84 3) - (1 : Int32))]) (fr' := fX12_isIn) (lo' := lX12_isIn) (bc' := 0) (bs' := 0) (bcr := bc) (bsr := bs) dX12_ring_14 zs_X12_201 zi_X12_isIn zcl_12 (hS.has (a := 84) rfl rfl) rfl rfl (Nat.le_of_ble_eq_true rfl) (Nat.le_of_ble_eq_true rfl) (Nat.le_of_ble_eq_true rfl) (Nat.le_refl _) (Nat.le_refl _) ?_
  refine sp_X12_isIn hS  ?_
  show ZW G mX12_ring fX12_ring lX12_ring 17 [zo G 84, .int v1, .int v2] [.int (p_X12_isIn v1 (0 : Int32) ((I 84 3) - (1 : Int32)))] S (u2 I 84 0 (0 : Int32)) L bc bs Q
  refine zr_ifeq (tgt := 42) dX12_ring_17 (by decide) (fun hb => ?_) (fun hb => ?_)
  · have k := k.1 hb
    refine zr_iconst (v := -1) dX12_ring_42 (by decide) ?_
    exact zr_ireturn dX12_ring_43 rfl rfl k
  · have k := k.2 hb
    refine zr_aload_n dX12_ring_20 rfl rfl ?_
    refine zr_iload_n dX12_ring_21 rfl rfl ?_
    refine zr_iconst (v := 0) dX12_ring_22 (by decide) ?_
    refine zr_bipush (v := 99) dX12_ring_23 (by decide) ?_
    refine zr_callV (As := [.int v2, .int (0 : Int32), .int (99 : Int32)]) (fr' := fX12_isIn) (lo' := lX12_isIn) (bc' := 0) (bs' := 0) (bcr := bc) (bsr := bs) dX12_ring_25 zs_X12_201 zi_X12_isIn zcl_12 (hS.has (a := 84) rfl rfl) rfl rfl (Nat.le_of_ble_eq_true rfl) (Nat.le_of_ble_eq_true rfl) (Nat.le_of_ble_eq_true rfl) (Nat.le_refl _) (Nat.le_refl _) ?_
    refine sp_X12_isIn hS  ?_
    show ZW G mX12_ring fX12_ring lX12_ring 28 [zo G 84, .int v1, .int v2] [.int (p_X12_isIn v2 (0 : Int32) (99 : Int32))] S (u2 I 84 0 (0 : Int32)) L bc bs Q
    refine zr_ifeq (tgt := 42) dX12_ring_28 (by decide) (fun hb => ?_) (fun hb => ?_)
    · have k := k.1 hb
      refine zr_iconst (v := -1) dX12_ring_42 (by decide) ?_
      exact zr_ireturn dX12_ring_43 rfl rfl k
    · have k := k.2 hb
      refine zr_aload_n dX12_ring_31 rfl rfl ?_
      refine zr_getR dX12_ring_32 zf_X12_26 rfl (hS.has (a := 84) rfl rfl) (hS.ref (a := 89) rfl) ?_
      refine zr_iload_n dX12_ring_35 rfl rfl ?_
      obtain ⟨hi1, k⟩ := k
      refine zr_ialdv (x := (I 89 v1.toNatClampNeg)) dX12_ring_36 (hS.has (a := 89) rfl rfl) hi1 rfl ?_
      refine zr_bipush (v := 24) dX12_ring_37 (by decide) ?_
      refine zr_icne (tgt := 44) dX12_ring_39 (by decide) (fun hb => ?_) (fun hb => ?_)
      · have k := k.1 hb
        refine zr_aload_n dX12_ring_44 rfl rfl ?_
        refine zr_getR dX12_ring_45 zf_X12_29 rfl (hS.has (a := 84) rfl rfl) (hS.ref (a := 90) rfl) ?_
        refine zr_bipush (v := 24) dX12_ring_48 (by decide) ?_
        refine zr_iload_n dX12_ring_50 rfl rfl ?_
        refine zr_imul dX12_ring_51 ?_
        refine zr_aload_n dX12_ring_52 rfl rfl ?_
        refine zr_getR dX12_ring_53 zf_X12_26 rfl (hS.has (a := 84) rfl rfl) (hS.ref (a := 89) rfl) ?_
        refine zr_iload_n dX12_ring_56 rfl rfl ?_
        refine zr_ialdv (x := (I 89 v1.toNatClampNeg)) dX12_ring_57 (hS.has (a := 89) rfl rfl) hi1 rfl ?_
        refine zr_iadd dX12_ring_58 ?_
        refine zr_iload_n dX12_ring_59 rfl rfl ?_
        obtain ⟨hi2, k⟩ := k
        refine zr_iast dX12_ring_60 (hS.has (a := 90) rfl rfl) hi2 ?_
        refine zr_aload_n dX12_ring_61 rfl rfl ?_
        refine zr_getR dX12_ring_62 zf_X12_32 rfl (hS.has (a := 84) rfl rfl) (hS.ref (a := 91) rfl) ?_
        refine zr_bipush (v := 24) dX12_ring_65 (by decide) ?_
        refine zr_iload_n dX12_ring_67 rfl rfl ?_
        refine zr_imul dX12_ring_68 ?_
        refine zr_aload_n dX12_ring_69 rfl rfl ?_
        refine zr_getR dX12_ring_70 zf_X12_26 rfl (hS.has (a := 84) rfl rfl) (hS.ref (a := 89) rfl) ?_
        refine zr_iload_n dX12_ring_73 rfl rfl ?_
        refine zr_ialdv (x := (I 89 v1.toNatClampNeg)) dX12_ring_74 (hS.has (a := 89) rfl rfl) hi1 rfl ?_
        refine zr_iadd dX12_ring_75 ?_
        refine zr_aload_n dX12_ring_76 rfl rfl ?_
        refine zr_getIv (x := (I 84 1)) dX12_ring_77 zf_X12_205 rfl (hS.has (a := 84) rfl rfl) rfl ?_
        refine zr_iast dX12_ring_80 (hS.has (a := 91) rfl rfl) hi2 ?_
        refine zr_aload_n dX12_ring_81 rfl rfl ?_
        refine zr_getR dX12_ring_82 zf_X12_26 rfl (hS.has (a := 84) rfl rfl) (hS.ref (a := 89) rfl) ?_
        refine zr_iload_n dX12_ring_85 rfl rfl ?_
        refine zr_aload_n dX12_ring_86 rfl rfl ?_
        refine zr_getR dX12_ring_87 zf_X12_26 rfl (hS.has (a := 84) rfl rfl) (hS.ref (a := 89) rfl) ?_
        refine zr_iload_n dX12_ring_90 rfl rfl ?_
        refine zr_ialdv (x := (I 89 v1.toNatClampNeg)) dX12_ring_91 (hS.has (a := 89) rfl rfl) hi1 rfl ?_
        refine zr_iconst (v := 1) dX12_ring_92 (by decide) ?_
        refine zr_iadd dX12_ring_93 ?_
        refine zr_iast dX12_ring_94 (hS.has (a := 89) rfl rfl) hi1 ?_
        refine zr_aload_n dX12_ring_95 rfl rfl ?_
        refine zr_getR dX12_ring_96 zf_X12_26 rfl (hS.has (a := 84) rfl rfl) (hS.ref (a := 89) rfl) ?_
        refine zr_iload_n dX12_ring_99 rfl rfl ?_
        refine zr_ialdv (x := ((u2 (u2 (u2 (u2 I 84 0 (0 : Int32)) 90 (((24 : Int32) * v1) + (I 89 v1.toNatClampNeg)).toNatClampNeg v2) 91 (((24 : Int32) * v1) + (I 89 v1.toNatClampNeg)).toNatClampNeg (I 84 1)) 89 v1.toNatClampNeg ((I 89 v1.toNatClampNeg) + (1 : Int32))) 89 v1.toNatClampNeg)) dX12_ring_100 (hS.has (a := 89) rfl rfl) hi1 rfl ?_
        exact zr_ireturn dX12_ring_101 rfl rfl k
      · have k := k.2 hb
        refine zr_iconst (v := -1) dX12_ring_42 (by decide) ?_
        exact zr_ireturn dX12_ring_43 rfl rfl k
set_option maxHeartbeats 2000000 in
theorem vX12_sap_0 {G : Gp} {bc bs : Nat} {Q : zPost} {S : zSh} {I : zFI} {L : zFL} {v1 : Int32} {v2 : Int32} {v3 : Int32} (hS : zStd S)  (k : (((p_X12_isIn v1 (0 : Int32) ((I 84 3) - (1 : Int32))) = 0 → Q (some (.int (0 : Int32))) S (u2 I 84 0 (0 : Int32)) L) ∧ (¬ (p_X12_isIn v1 (0 : Int32) ((I 84 3) - (1 : Int32))) = 0 → ((¬ (p_X12_isIn v2 (0 : Int32) (24 : Int32)) = 0 → vp_in v1 16 ∧ narrow .boolean (.int v3) = .int v3 ∧ Q (some (.int (1 : Int32))) S (u2 (u2 (u2 I 84 0 (0 : Int32)) 92 v1.toNatClampNeg v2) 93 v1.toNatClampNeg v3) L) ∧ ((p_X12_isIn v2 (0 : Int32) (24 : Int32)) = 0 → Q (some (.int (0 : Int32))) S (u2 I 84 0 (0 : Int32)) L))))) : ZW G mX12_sap fX12_sap lX12_sap 0 [zo G 84, .int v1, .int v2, .int v3] [] S I L bc bs Q := by
  refine zr_aload_n dX12_sap_0 rfl rfl ?_
  refine zr_iconst (v := 0) dX12_sap_1 (by decide) ?_
  refine zr_putI dX12_sap_2 zf_X12_188 rfl (hS.has (a := 84) rfl rfl) rfl rfl ?_
  refine zr_aload_n dX12_sap_5 rfl rfl ?_
  refine zr_iload_n dX12_sap_6 rfl rfl ?_
  refine zr_iconst (v := 0) dX12_sap_7 (by decide) ?_
  refine zr_aload_n dX12_sap_8 rfl rfl ?_
  refine zr_getIv (x := (I 84 3)) dX12_sap_9 zf_X12_191 rfl (hS.has (a := 84) rfl rfl) rfl ?_
  refine zr_iconst (v := 1) dX12_sap_12 (by decide) ?_
  refine zr_isub dX12_sap_13 ?_
  refine zr_callV (As := [.int v1, .int (0 : Int32), .int ((I 84 3) - (1 : Int32))]) (fr' := fX12_isIn) (lo' := lX12_isIn) (bc' := 0) (bs' := 0) (bcr := bc) (bsr := bs) dX12_sap_14 zs_X12_201 zi_X12_isIn zcl_12 (hS.has (a := 84) rfl rfl) rfl rfl (Nat.le_of_ble_eq_true rfl) (Nat.le_of_ble_eq_true rfl) (Nat.le_of_ble_eq_true rfl) (Nat.le_refl _) (Nat.le_refl _) ?_
  refine sp_X12_isIn hS  ?_
  show ZW G mX12_sap fX12_sap lX12_sap 17 [zo G 84, .int v1, .int v2, .int v3] [.int (p_X12_isIn v1 (0 : Int32) ((I 84 3) - (1 : Int32)))] S (u2 I 84 0 (0 : Int32)) L bc bs Q
  refine zr_ifeq (tgt := 31) dX12_sap_17 (by decide) (fun hb => ?_) (fun hb => ?_)
  · have k := k.1 hb
    refine zr_iconst (v := 0) dX12_sap_31 (by decide) ?_
    exact zr_ireturn dX12_sap_32 rfl rfl k
  · have k := k.2 hb
    refine zr_aload_n dX12_sap_20 rfl rfl ?_
    refine zr_iload_n dX12_sap_21 rfl rfl ?_
    refine zr_iconst (v := 0) dX12_sap_22 (by decide) ?_
    refine zr_bipush (v := 24) dX12_sap_23 (by decide) ?_
    refine zr_callV (As := [.int v2, .int (0 : Int32), .int (24 : Int32)]) (fr' := fX12_isIn) (lo' := lX12_isIn) (bc' := 0) (bs' := 0) (bcr := bc) (bsr := bs) dX12_sap_25 zs_X12_201 zi_X12_isIn zcl_12 (hS.has (a := 84) rfl rfl) rfl rfl (Nat.le_of_ble_eq_true rfl) (Nat.le_of_ble_eq_true rfl) (Nat.le_of_ble_eq_true rfl) (Nat.le_refl _) (Nat.le_refl _) ?_
    refine sp_X12_isIn hS  ?_
    show ZW G mX12_sap fX12_sap lX12_sap 28 [zo G 84, .int v1, .int v2, .int v3] [.int (p_X12_isIn v2 (0 : Int32) (24 : Int32))] S (u2 I 84 0 (0 : Int32)) L bc bs Q
    refine zr_ifne (tgt := 33) dX12_sap_28 (by decide) (fun hb => ?_) (fun hb => ?_)
    · have k := k.1 hb
      refine zr_aload_n dX12_sap_33 rfl rfl ?_
      refine zr_getR dX12_sap_34 zf_X12_35 rfl (hS.has (a := 84) rfl rfl) (hS.ref (a := 92) rfl) ?_
      refine zr_iload_n dX12_sap_37 rfl rfl ?_
      refine zr_iload_n dX12_sap_38 rfl rfl ?_
      obtain ⟨hi1, k⟩ := k
      refine zr_iast dX12_sap_39 (hS.has (a := 92) rfl rfl) hi1 ?_
      refine zr_aload_n dX12_sap_40 rfl rfl ?_
      refine zr_getR dX12_sap_41 zf_X12_38 rfl (hS.has (a := 84) rfl rfl) (hS.ref (a := 93) rfl) ?_
      refine zr_iload_n dX12_sap_44 rfl rfl ?_
      refine zr_iload_n dX12_sap_45 rfl rfl ?_
      obtain ⟨hn, k⟩ := k
      refine zr_zast dX12_sap_46 (hS.has (a := 93) rfl rfl) hi1 hn ?_
      refine zr_iconst (v := 1) dX12_sap_47 (by decide) ?_
      exact zr_ireturn dX12_sap_48 rfl rfl k
    · have k := k.2 hb
      refine zr_iconst (v := 0) dX12_sap_31 (by decide) ?_
      exact zr_ireturn dX12_sap_32 rfl rfl k
set_option maxHeartbeats 2000000 in
theorem vX12_goes_0 {G : Gp} {bc bs : Nat} {Q : zPost} {S : zSh} {I : zFI} {L : zFL} {v1 : Int32} {v2 : Int32} (hS : zStd S)  (k : ((v2 ≤ v1 → ((v1 ≤ v2 → Q (some (.int (0 : Int32))) S I L) ∧ (¬ v1 ≤ v2 → Q (some (.int (-1 : Int32))) S I L))) ∧ (¬ v2 ≤ v1 → Q (some (.int (1 : Int32))) S I L))) : ZW G mX12_goes fX12_goes lX12_goes 0 [zo G 84, .int v1, .int v2] [] S I L bc bs Q := by
  refine zr_iload_n dX12_goes_0 rfl rfl ?_
  refine zr_iload_n dX12_goes_1 rfl rfl ?_
  refine zr_icge (tgt := 9) dX12_goes_2 (by decide) (fun hb => ?_) (fun hb => ?_)
  · have k := k.1 hb
    refine zr_iload_n dX12_goes_9 rfl rfl ?_
    refine zr_iload_n dX12_goes_10 rfl rfl ?_
    refine zr_icle (tgt := 18) dX12_goes_11 (by decide) (fun hb => ?_) (fun hb => ?_)
    · have k := k.1 hb
      refine zr_iconst (v := 0) dX12_goes_18 (by decide) ?_
      exact zr_ireturn dX12_goes_19 rfl rfl k
    · have k := k.2 hb
      refine zr_iconst (v := -1) dX12_goes_14 (by decide) ?_
      refine zr_goto (tgt := 19) dX12_goes_15 (by decide) ?_
      exact zr_ireturn dX12_goes_19 rfl rfl k
  · have k := k.2 hb
    refine zr_iconst (v := 1) dX12_goes_5 (by decide) ?_
    refine zr_goto (tgt := 19) dX12_goes_6 (by decide) ?_
    exact zr_ireturn dX12_goes_19 rfl rfl k
def p_X12_goes  (v1 : Int32) (v2 : Int32) : Int32 := (if v2 ≤ v1 then (if v1 ≤ v2 then (0 : Int32) else (-1 : Int32)) else (1 : Int32))
set_option maxHeartbeats 2000000 in
theorem sp_X12_goes {G : Gp} {Q : zPost} {S : zSh} {I : zFI} {L : zFL} {v1 : Int32} {v2 : Int32} (hS : zStd S)  (h : Q (some (.int (p_X12_goes  v1 v2))) S I L) : ZC G mX12_goes fX12_goes lX12_goes [zo G 84, .int v1, .int v2] S I L 0 0 Q := by
  refine ZC.of' (vX12_goes_0 hS  ?_) rfl (Nat.le_of_ble_eq_true rfl) rfl
  unfold p_X12_goes at h
  refine ⟨fun hb1 => ?_, fun hb1 => ?_⟩
  · rw [if_pos hb1] at h
    refine ⟨fun hb2 => ?_, fun hb2 => ?_⟩
    · rw [if_pos hb2] at h
      exact h
    · rw [if_neg hb2] at h
      exact h
  · rw [if_neg hb1] at h
    exact h
set_option maxHeartbeats 2000000 in
theorem vX12_agree_0 {G : Gp} {bc bs : Nat} {Q : zPost} {S : zSh} {I : zFI} {L : zFL} {v1 : Int32} {v2 : Int32} {v3 : Int32} (hS : zStd S)  (k : ((0 ≤ ((v3 - v2) + (1 : Int32)) → ZW G mX12_agree fX12_agree lX12_agree 17 [zo G 84, .int v1, .int v2, .int v3, .int ((v3 - v2) + (1 : Int32)), .null] [] S I L bc bs Q) ∧ (¬ 0 ≤ ((v3 - v2) + (1 : Int32)) → Q (some (.int (-1 : Int32))) S I L))) : ZW G mX12_agree fX12_agree lX12_agree 0 [zo G 84, .int v1, .int v2, .int v3, .null, .null] [] S I L bc bs Q := by
  refine zr_iload_n dX12_agree_0 rfl rfl ?_
  refine zr_iload_n dX12_agree_1 rfl rfl ?_
  refine zr_isub dX12_agree_2 ?_
  refine zr_iconst (v := 1) dX12_agree_3 (by decide) ?_
  refine zr_iadd dX12_agree_4 ?_
  refine zr_ifge (tgt := 10) dX12_agree_5 (by decide) (fun hb => ?_) (fun hb => ?_)
  · have k := k.1 hb
    refine zr_iload_n dX12_agree_10 rfl rfl ?_
    refine zr_iload_n dX12_agree_11 rfl rfl ?_
    refine zr_isub dX12_agree_12 ?_
    refine zr_iconst (v := 1) dX12_agree_13 (by decide) ?_
    refine zr_iadd dX12_agree_14 ?_
    refine zr_istore dX12_agree_15 (Nat.le_of_ble_eq_true rfl) rfl ?_
    exact k
  · have k := k.2 hb
    refine zr_iconst (v := -1) dX12_agree_8 (by decide) ?_
    exact zr_ireturn dX12_agree_9 rfl rfl k
set_option maxHeartbeats 2000000 in
theorem vX12_agree_17 {G : Gp} {bc bs : Nat} {Q : zPost} {S : zSh} {I : zFI} {L : zFL} {v1 : Int32} {v2 : Int32} {v3 : Int32} {v4 : Int32} (hS : zStd S)  (k : ((v3 < v4 → ZW G mX12_agree fX12_agree lX12_agree 47 [zo G 84, .int v1, .int v2, .int v3, .int (0 : Int32), .int (1 : Int32)] [] S I L bc bs Q) ∧ (¬ v3 < v4 → vp_in v4 200 ∧ ((¬ (I 132 v4.toNatClampNeg) = 0 → ZW G mX12_agree fX12_agree lX12_agree 17 [zo G 84, .int v1, .int v2, .int v3, .int (v4 + 1), .null] [] S I L bc bs Q) ∧ ((I 132 v4.toNatClampNeg) = 0 → Q (some (.int (-1 : Int32))) S I L))))) : ZW G mX12_agree fX12_agree lX12_agree 17 [zo G 84, .int v1, .int v2, .int v3, .int v4, .null] [] S I L bc bs Q := by
  refine zr_iload dX12_agree_17 rfl ?_
  refine zr_iload_n dX12_agree_19 rfl rfl ?_
  refine zr_icgt (tgt := 41) dX12_agree_20 (by decide) (fun hb => ?_) (fun hb => ?_)
  · have k := k.1 hb
    refine zr_iconst (v := 0) dX12_agree_41 (by decide) ?_
    refine zr_istore dX12_agree_42 (Nat.le_of_ble_eq_true rfl) rfl ?_
    refine zr_iconst (v := 1) dX12_agree_44 (by decide) ?_
    refine zr_istore dX12_agree_45 (Nat.le_of_ble_eq_true rfl) rfl ?_
    exact k
  · have k := k.2 hb
    refine zr_aload_n dX12_agree_23 rfl rfl ?_
    refine zr_getR dX12_agree_24 zf_X12_167 rfl (hS.has (a := 84) rfl rfl) (hS.ref (a := 132) rfl) ?_
    refine zr_iload dX12_agree_27 rfl ?_
    obtain ⟨hi1, k⟩ := k
    refine zr_zaldv (x := (I 132 v4.toNatClampNeg)) dX12_agree_29 (hS.has (a := 132) rfl rfl) hi1 rfl ?_
    refine zr_ifne (tgt := 35) dX12_agree_30 (by decide) (fun hb => ?_) (fun hb => ?_)
    · have k := k.1 hb
      refine zr_iinc (v := (v4 + 1)) dX12_agree_35 rfl rfl (Nat.le_of_ble_eq_true rfl) rfl ?_
      refine zr_goto (tgt := 17) dX12_agree_38 (by decide) ?_
      exact k
    · have k := k.2 hb
      refine zr_iconst (v := -1) dX12_agree_33 (by decide) ?_
      exact zr_ireturn dX12_agree_34 rfl rfl k
set_option maxHeartbeats 2000000 in
theorem vX12_agree_47 {G : Gp} {bc bs : Nat} {Q : zPost} {S : zSh} {I : zFI} {L : zFL} {v1 : Int32} {v2 : Int32} {v3 : Int32} {v4 : Int32} {v5 : Int32} (hS : zStd S)  (k : ((v2 ≤ v5 → Q (some (.int v4)) S I L) ∧ (¬ v2 ≤ v5 → vp_in ((((24 : Int32) * v1) + v5) - (1 : Int32)) 384 ∧ vp_in (((24 : Int32) * v1) + v5) 384 ∧ vp_in ((v3 - v2) + v5) 200 ∧ vp_in (((v3 - v2) + (1 : Int32)) + v5) 200 ∧ ((¬ (p_X12_goes (I 90 ((((24 : Int32) * v1) + v5) - (1 : Int32)).toNatClampNeg) (I 90 (((24 : Int32) * v1) + v5).toNatClampNeg)) = (p_X12_goes (I 131 ((v3 - v2) + v5).toNatClampNeg) (I 131 (((v3 - v2) + (1 : Int32)) + v5).toNatClampNeg)) → ZW G mX12_agree fX12_agree lX12_agree 47 [zo G 84, .int v1, .int v2, .int v3, .int v4, .int (v5 + 1)] [] S I L bc bs Q) ∧ ((p_X12_goes (I 90 ((((24 : Int32) * v1) + v5) - (1 : Int32)).toNatClampNeg) (I 90 (((24 : Int32) * v1) + v5).toNatClampNeg)) = (p_X12_goes (I 131 ((v3 - v2) + v5).toNatClampNeg) (I 131 (((v3 - v2) + (1 : Int32)) + v5).toNatClampNeg)) → ZW G mX12_agree fX12_agree lX12_agree 47 [zo G 84, .int v1, .int v2, .int v3, .int (v4 + (1 : Int32)), .int (v5 + 1)] [] S I L bc bs Q))))) : ZW G mX12_agree fX12_agree lX12_agree 47 [zo G 84, .int v1, .int v2, .int v3, .int v4, .int v5] [] S I L bc bs Q := by
  refine zr_iload dX12_agree_47 rfl ?_
  refine zr_iload_n dX12_agree_49 rfl rfl ?_
  refine zr_icge (tgt := 126) dX12_agree_50 (by decide) (fun hb => ?_) (fun hb => ?_)
  · have k := k.1 hb
    refine zr_iload dX12_agree_126 rfl ?_
    exact zr_ireturn dX12_agree_128 rfl rfl k
  · have k := k.2 hb
    refine zr_aload_n dX12_agree_53 rfl rfl ?_
    refine zr_aload_n dX12_agree_54 rfl rfl ?_
    refine zr_getR dX12_agree_55 zf_X12_29 rfl (hS.has (a := 84) rfl rfl) (hS.ref (a := 90) rfl) ?_
    refine zr_bipush (v := 24) dX12_agree_58 (by decide) ?_
    refine zr_iload_n dX12_agree_60 rfl rfl ?_
    refine zr_imul dX12_agree_61 ?_
    refine zr_iload dX12_agree_62 rfl ?_
    refine zr_iadd dX12_agree_64 ?_
    refine zr_iconst (v := 1) dX12_agree_65 (by decide) ?_
    refine zr_isub dX12_agree_66 ?_
    obtain ⟨hi2, k⟩ := k
    refine zr_ialdv (x := (I 90 ((((24 : Int32) * v1) + v5) - (1 : Int32)).toNatClampNeg)) dX12_agree_67 (hS.has (a := 90) rfl rfl) hi2 rfl ?_
    refine zr_aload_n dX12_agree_68 rfl rfl ?_
    refine zr_getR dX12_agree_69 zf_X12_29 rfl (hS.has (a := 84) rfl rfl) (hS.ref (a := 90) rfl) ?_
    refine zr_bipush (v := 24) dX12_agree_72 (by decide) ?_
    refine zr_iload_n dX12_agree_74 rfl rfl ?_
    refine zr_imul dX12_agree_75 ?_
    refine zr_iload dX12_agree_76 rfl ?_
    refine zr_iadd dX12_agree_78 ?_
    obtain ⟨hi3, k⟩ := k
    refine zr_ialdv (x := (I 90 (((24 : Int32) * v1) + v5).toNatClampNeg)) dX12_agree_79 (hS.has (a := 90) rfl rfl) hi3 rfl ?_
    refine zr_callV (As := [.int (I 90 ((((24 : Int32) * v1) + v5) - (1 : Int32)).toNatClampNeg), .int (I 90 (((24 : Int32) * v1) + v5).toNatClampNeg)]) (fr' := fX12_goes) (lo' := lX12_goes) (bc' := 0) (bs' := 0) (bcr := bc) (bsr := bs) dX12_agree_80 zs_X12_390 zi_X12_goes zcl_12 (hS.has (a := 84) rfl rfl) rfl rfl (Nat.le_of_ble_eq_true rfl) (Nat.le_of_ble_eq_true rfl) (Nat.le_of_ble_eq_true rfl) (Nat.le_refl _) (Nat.le_refl _) ?_
    refine sp_X12_goes hS  ?_
    show ZW G mX12_agree fX12_agree lX12_agree 83 [zo G 84, .int v1, .int v2, .int v3, .int v4, .int v5] [.int (p_X12_goes (I 90 ((((24 : Int32) * v1) + v5) - (1 : Int32)).toNatClampNeg) (I 90 (((24 : Int32) * v1) + v5).toNatClampNeg))] S I L bc bs Q
    refine zr_aload_n dX12_agree_83 rfl rfl ?_
    refine zr_aload_n dX12_agree_84 rfl rfl ?_
    refine zr_getR dX12_agree_85 zf_X12_164 rfl (hS.has (a := 84) rfl rfl) (hS.ref (a := 131) rfl) ?_
    refine zr_iload_n dX12_agree_88 rfl rfl ?_
    refine zr_iload_n dX12_agree_89 rfl rfl ?_
    refine zr_isub dX12_agree_90 ?_
    refine zr_iload dX12_agree_91 rfl ?_
    refine zr_iadd dX12_agree_93 ?_
    obtain ⟨hi4, k⟩ := k
    refine zr_ialdv (x := (I 131 ((v3 - v2) + v5).toNatClampNeg)) dX12_agree_94 (hS.has (a := 131) rfl rfl) hi4 rfl ?_
    refine zr_aload_n dX12_agree_95 rfl rfl ?_
    refine zr_getR dX12_agree_96 zf_X12_164 rfl (hS.has (a := 84) rfl rfl) (hS.ref (a := 131) rfl) ?_
    refine zr_iload_n dX12_agree_99 rfl rfl ?_
    refine zr_iload_n dX12_agree_100 rfl rfl ?_
    refine zr_isub dX12_agree_101 ?_
    refine zr_iconst (v := 1) dX12_agree_102 (by decide) ?_
    refine zr_iadd dX12_agree_103 ?_
    refine zr_iload dX12_agree_104 rfl ?_
    refine zr_iadd dX12_agree_106 ?_
    obtain ⟨hi5, k⟩ := k
    refine zr_ialdv (x := (I 131 (((v3 - v2) + (1 : Int32)) + v5).toNatClampNeg)) dX12_agree_107 (hS.has (a := 131) rfl rfl) hi5 rfl ?_
    refine zr_callV (As := [.int (I 131 ((v3 - v2) + v5).toNatClampNeg), .int (I 131 (((v3 - v2) + (1 : Int32)) + v5).toNatClampNeg)]) (fr' := fX12_goes) (lo' := lX12_goes) (bc' := 0) (bs' := 0) (bcr := bc) (bsr := bs) dX12_agree_108 zs_X12_390 zi_X12_goes zcl_12 (hS.has (a := 84) rfl rfl) rfl rfl (Nat.le_of_ble_eq_true rfl) (Nat.le_of_ble_eq_true rfl) (Nat.le_of_ble_eq_true rfl) (Nat.le_refl _) (Nat.le_refl _) ?_
    refine sp_X12_goes hS  ?_
    show ZW G mX12_agree fX12_agree lX12_agree 111 [zo G 84, .int v1, .int v2, .int v3, .int v4, .int v5] [.int (p_X12_goes (I 131 ((v3 - v2) + v5).toNatClampNeg) (I 131 (((v3 - v2) + (1 : Int32)) + v5).toNatClampNeg)), .int (p_X12_goes (I 90 ((((24 : Int32) * v1) + v5) - (1 : Int32)).toNatClampNeg) (I 90 (((24 : Int32) * v1) + v5).toNatClampNeg))] S I L bc bs Q
    refine zr_icne (tgt := 120) dX12_agree_111 (by decide) (fun hb => ?_) (fun hb => ?_)
    · have k := k.1 hb
      refine zr_iinc (v := (v5 + 1)) dX12_agree_120 rfl rfl (Nat.le_of_ble_eq_true rfl) rfl ?_
      refine zr_goto (tgt := 47) dX12_agree_123 (by decide) ?_
      exact k
    · have k := k.2 hb
      refine zr_iload dX12_agree_114 rfl ?_
      refine zr_iconst (v := 1) dX12_agree_116 (by decide) ?_
      refine zr_iadd dX12_agree_117 ?_
      refine zr_istore dX12_agree_118 (Nat.le_of_ble_eq_true rfl) rfl ?_
      refine zr_iinc (v := (v5 + 1)) dX12_agree_120 rfl rfl (Nat.le_of_ble_eq_true rfl) rfl ?_
      refine zr_goto (tgt := 47) dX12_agree_123 (by decide) ?_
      exact k
set_option maxHeartbeats 2000000 in
theorem vX12_findDate_0 {G : Gp} {bc bs : Nat} {Q : zPost} {S : zSh} {I : zFI} {L : zFL} {v1 : Int32} {v2 : Int32} (hS : zStd S)  (k : ZC G mX12_ringsSeen fX12_ringsSeen lX12_ringsSeen [zo G 84, .int v2] S I L 0 0 (fun w S' I1 L1 => ∃ r1 : Int32, w = some (.int r1) ∧ S = S' ∧ (((2 : Int32) ≤ r1 → ZW G mX12_findDate fX12_findDate lX12_findDate 30 [zo G 84, .int v1, .int v2, .int r1, .int (0 : Int32), .null, .null] [] S (u2 (u2 (u2 I1 84 73 (-1 : Int32)) 84 74 (-1 : Int32)) 84 75 (0 : Int32)) L1 bc bs Q) ∧ (¬ (2 : Int32) ≤ r1 → Q none S (u2 (u2 (u2 I1 84 73 (-1 : Int32)) 84 74 (-1 : Int32)) 84 75 (0 : Int32)) L1)))) : ZW G mX12_findDate fX12_findDate lX12_findDate 0 [zo G 84, .int v1, .int v2, .null, .null, .null, .null] [] S I L bc bs Q := by
  refine zr_aload_n dX12_findDate_0 rfl rfl ?_
  refine zr_iload_n dX12_findDate_1 rfl rfl ?_
  refine zr_callV (As := [.int v2]) (fr' := fX12_ringsSeen) (lo' := lX12_ringsSeen) (bc' := 0) (bs' := 0) (bcr := bc) (bsr := bs) dX12_findDate_2 zs_X12_295 zi_X12_ringsSeen zcl_12 (hS.has (a := 84) rfl rfl) rfl rfl (Nat.le_of_ble_eq_true rfl) (Nat.le_of_ble_eq_true rfl) (Nat.le_of_ble_eq_true rfl) (Nat.le_refl _) (Nat.le_refl _) ?_
  refine ZC.mono (fun w S' I1 L1 k => ?_) k
  obtain ⟨r1, rfl, rfl, k⟩ := k
  show ZW G mX12_findDate fX12_findDate lX12_findDate 5 [zo G 84, .int v1, .int v2, .null, .null, .null, .null] [.int r1] S I1 L1 bc bs Q
  refine zr_istore_n dX12_findDate_5 rfl (Nat.le_of_ble_eq_true rfl) rfl ?_
  refine zr_aload_n dX12_findDate_6 rfl rfl ?_
  refine zr_iconst (v := -1) dX12_findDate_7 (by decide) ?_
  refine zr_putI dX12_findDate_8 zf_X12_393 rfl (hS.has (a := 84) rfl rfl) rfl rfl ?_
  refine zr_aload_n dX12_findDate_11 rfl rfl ?_
  refine zr_iconst (v := -1) dX12_findDate_12 (by decide) ?_
  refine zr_putI dX12_findDate_13 zf_X12_396 rfl (hS.has (a := 84) rfl rfl) rfl rfl ?_
  refine zr_aload_n dX12_findDate_16 rfl rfl ?_
  refine zr_iconst (v := 0) dX12_findDate_17 (by decide) ?_
  refine zr_putI dX12_findDate_18 zf_X12_399 rfl (hS.has (a := 84) rfl rfl) rfl rfl ?_
  refine zr_iload_n dX12_findDate_21 rfl rfl ?_
  refine zr_iconst (v := 2) dX12_findDate_22 (by decide) ?_
  refine zr_icge (tgt := 27) dX12_findDate_23 (by decide) (fun hb => ?_) (fun hb => ?_)
  · have k := k.1 hb
    refine zr_iconst (v := 0) dX12_findDate_27 (by decide) ?_
    refine zr_istore dX12_findDate_28 (Nat.le_of_ble_eq_true rfl) rfl ?_
    exact k
  · have k := k.2 hb
    exact zr_return_ dX12_findDate_26 rfl k
set_option maxHeartbeats 2000000 in
theorem vX12_findDate_30 {G : Gp} {bc bs : Nat} {Q : zPost} {S : zSh} {I : zFI} {L : zFL} {v1 : Int32} {v2 : Int32} {v3 : Int32} {v4 : Int32} (hS : zStd S)  (k : (((200 : Int32) ≤ v4 → ((¬ (I 84 73) = (-1 : Int32) → vp_in (((50 : Int32) * v1) + (4 : Int32)) 150 ∧ ((((100 : Int32) * (I 84 74)) < ((I 105 (((50 : Int32) * v1) + (4 : Int32)).toNatClampNeg) * (v3 - (1 : Int32))) → ZW G mX12_findDate fX12_findDate lX12_findDate 124 [zo G 84, .int v1, .int v2, .int v3, .int (0 : Int32), .null, .null] [] S (u2 I 84 75 (0 : Int32)) L bc bs Q) ∧ (¬ ((100 : Int32) * (I 84 74)) < ((I 105 (((50 : Int32) * v1) + (4 : Int32)).toNatClampNeg) * (v3 - (1 : Int32))) → ZW G mX12_findDate fX12_findDate lX12_findDate 124 [zo G 84, .int v1, .int v2, .int v3, .int (0 : Int32), .null, .null] [] S (u2 I 84 75 (1 : Int32)) L bc bs Q))) ∧ ((I 84 73) = (-1 : Int32) → Q none S I L))) ∧ (¬ (200 : Int32) ≤ v4 → ZC G mX12_agree fX12_agree lX12_agree [zo G 84, .int v2, .int v3, .int v4] S I L 0 0 (fun w S' I1 L1 => ∃ r1 : Int32, w = some (.int r1) ∧ S = S' ∧ (((I1 84 74) < r1 → ZW G mX12_findDate fX12_findDate lX12_findDate 30 [zo G 84, .int v1, .int v2, .int v3, .int (v4 + 1), .null, .null] [] S (u2 (u2 I1 84 74 r1) 84 73 v4) L1 bc bs Q) ∧ (¬ (I1 84 74) < r1 → ZW G mX12_findDate fX12_findDate lX12_findDate 30 [zo G 84, .int v1, .int v2, .int v3, .int (v4 + 1), .null, .null] [] S I1 L1 bc bs Q)))))) : ZW G mX12_findDate fX12_findDate lX12_findDate 30 [zo G 84, .int v1, .int v2, .int v3, .int v4, .null, .null] [] S I L bc bs Q := by
  refine zr_iload dX12_findDate_30 rfl ?_
  refine zr_sipush (v := 200) dX12_findDate_32 (by decide) ?_
  refine zr_icge (tgt := 78) dX12_findDate_35 (by decide) (fun hb => ?_) (fun hb => ?_)
  · have k := k.1 hb
    refine zr_aload_n dX12_findDate_78 rfl rfl ?_
    refine zr_getIv (x := (I 84 73)) dX12_findDate_79 zf_X12_393 rfl (hS.has (a := 84) rfl rfl) rfl ?_
    refine zr_iconst (v := -1) dX12_findDate_82 (by decide) ?_
    refine zr_icne (tgt := 87) dX12_findDate_83 (by decide) (fun hb => ?_) (fun hb => ?_)
    · have k := k.1 hb
      refine zr_aload_n dX12_findDate_87 rfl rfl ?_
      refine zr_bipush (v := 100) dX12_findDate_88 (by decide) ?_
      refine zr_aload_n dX12_findDate_90 rfl rfl ?_
      refine zr_getIv (x := (I 84 74)) dX12_findDate_91 zf_X12_396 rfl (hS.has (a := 84) rfl rfl) rfl ?_
      refine zr_imul dX12_findDate_94 ?_
      refine zr_aload_n dX12_findDate_95 rfl rfl ?_
      refine zr_getR dX12_findDate_96 zf_X12_75 rfl (hS.has (a := 84) rfl rfl) (hS.ref (a := 105) rfl) ?_
      refine zr_bipush (v := 50) dX12_findDate_99 (by decide) ?_
      refine zr_iload_n dX12_findDate_101 rfl rfl ?_
      refine zr_imul dX12_findDate_102 ?_
      refine zr_iconst (v := 4) dX12_findDate_103 (by decide) ?_
      refine zr_iadd dX12_findDate_104 ?_
      obtain ⟨hi1, k⟩ := k
      refine zr_ialdv (x := (I 105 (((50 : Int32) * v1) + (4 : Int32)).toNatClampNeg)) dX12_findDate_105 (hS.has (a := 105) rfl rfl) hi1 rfl ?_
      refine zr_iload_n dX12_findDate_106 rfl rfl ?_
      refine zr_iconst (v := 1) dX12_findDate_107 (by decide) ?_
      refine zr_isub dX12_findDate_108 ?_
      refine zr_imul dX12_findDate_109 ?_
      refine zr_iclt (tgt := 117) dX12_findDate_110 (by decide) (fun hb => ?_) (fun hb => ?_)
      · have k := k.1 hb
        refine zr_iconst (v := 0) dX12_findDate_117 (by decide) ?_
        refine zr_putI dX12_findDate_118 zf_X12_399 rfl (hS.has (a := 84) rfl rfl) rfl rfl ?_
        refine zr_iconst (v := 0) dX12_findDate_121 (by decide) ?_
        refine zr_istore dX12_findDate_122 (Nat.le_of_ble_eq_true rfl) rfl ?_
        exact k
      · have k := k.2 hb
        refine zr_iconst (v := 1) dX12_findDate_113 (by decide) ?_
        refine zr_goto (tgt := 118) dX12_findDate_114 (by decide) ?_
        refine zr_putI dX12_findDate_118 zf_X12_399 rfl (hS.has (a := 84) rfl rfl) rfl rfl ?_
        refine zr_iconst (v := 0) dX12_findDate_121 (by decide) ?_
        refine zr_istore dX12_findDate_122 (Nat.le_of_ble_eq_true rfl) rfl ?_
        exact k
    · have k := k.2 hb
      exact zr_return_ dX12_findDate_86 rfl k
  · have k := k.2 hb
    refine zr_aload_n dX12_findDate_38 rfl rfl ?_
    refine zr_iload_n dX12_findDate_39 rfl rfl ?_
    refine zr_iload_n dX12_findDate_40 rfl rfl ?_
    refine zr_iload dX12_findDate_41 rfl ?_
    refine zr_callV (As := [.int v2, .int v3, .int v4]) (fr' := fX12_agree) (lo' := lX12_agree) (bc' := 0) (bs' := 0) (bcr := bc) (bsr := bs) dX12_findDate_43 zs_X12_403 zi_X12_agree zcl_12 (hS.has (a := 84) rfl rfl) rfl rfl (Nat.le_of_ble_eq_true rfl) (Nat.le_of_ble_eq_true rfl) (Nat.le_of_ble_eq_true rfl) (Nat.le_refl _) (Nat.le_refl _) ?_
    refine ZC.mono (fun w S' I1 L1 k => ?_) k
    obtain ⟨r1, rfl, rfl, k⟩ := k
    show ZW G mX12_findDate fX12_findDate lX12_findDate 46 [zo G 84, .int v1, .int v2, .int v3, .int v4, .null, .null] [.int r1] S I1 L1 bc bs Q
    refine zr_istore dX12_findDate_46 (Nat.le_of_ble_eq_true rfl) rfl ?_
    refine zr_iload dX12_findDate_48 rfl ?_
    refine zr_aload_n dX12_findDate_50 rfl rfl ?_
    refine zr_getIv (x := (I1 84 74)) dX12_findDate_51 zf_X12_396 rfl (hS.has (a := 84) rfl rfl) rfl ?_
    refine zr_icgt (tgt := 60) dX12_findDate_54 (by decide) (fun hb => ?_) (fun hb => ?_)
    · have k := k.1 hb
      refine zr_aload_n dX12_findDate_60 rfl rfl ?_
      refine zr_iload dX12_findDate_61 rfl ?_
      refine zr_putI dX12_findDate_63 zf_X12_396 rfl (hS.has (a := 84) rfl rfl) rfl rfl ?_
      refine zr_aload_n dX12_findDate_66 rfl rfl ?_
      refine zr_iload dX12_findDate_67 rfl ?_
      refine zr_putI dX12_findDate_69 zf_X12_393 rfl (hS.has (a := 84) rfl rfl) rfl rfl ?_
      refine zr_iinc (v := (v4 + 1)) dX12_findDate_72 rfl rfl (Nat.le_of_ble_eq_true rfl) rfl ?_
      refine zr_goto (tgt := 30) dX12_findDate_75 (by decide) ?_
      exact zr_mask [true, true, true, true, true, false, false] rfl k
    · have k := k.2 hb
      refine zr_goto (tgt := 72) dX12_findDate_57 (by decide) ?_
      refine zr_iinc (v := (v4 + 1)) dX12_findDate_72 rfl rfl (Nat.le_of_ble_eq_true rfl) rfl ?_
      refine zr_goto (tgt := 30) dX12_findDate_75 (by decide) ?_
      exact zr_mask [true, true, true, true, true, false, false] rfl k
set_option maxHeartbeats 2000000 in
theorem vX12_findDate_124 {G : Gp} {bc bs : Nat} {Q : zPost} {S : zSh} {I : zFI} {L : zFL} {v1 : Int32} {v2 : Int32} {v3 : Int32} {v4 : Int32} (hS : zStd S)  (k : (((200 : Int32) ≤ v4 → vp_in v2 16 ∧ (((I 93 v2.toNatClampNeg) = 0 → ((v3 ≤ (I 92 v2.toNatClampNeg) → vp_in (((50 : Int32) * v1) + (6 : Int32)) 150 ∧ vp_in (((50 : Int32) * v1) + (7 : Int32)) 150 ∧ (((((I 84 73) + (I 105 (((50 : Int32) * v1) + (6 : Int32)).toNatClampNeg)) - v3) ≤ (I 84 73) → ((¬ v3 = 0 → (((((I 84 73) + (I 105 (((50 : Int32) * v1) + (7 : Int32)).toNatClampNeg)) - v3) ≤ (I 84 73) → Q none S (u2 (u2 (u2 I 84 76 (I 84 73)) 84 77 (I 84 73)) 84 77 (I 84 73)) L) ∧ (¬ (((I 84 73) + (I 105 (((50 : Int32) * v1) + (7 : Int32)).toNatClampNeg)) - v3) ≤ (I 84 73) → Q none S (u2 (u2 (u2 I 84 76 (I 84 73)) 84 77 (I 84 73)) 84 77 (((I 84 73) + (I 105 (((50 : Int32) * v1) + (7 : Int32)).toNatClampNeg)) - v3)) L))) ∧ (v3 = 0 → Q none S (u2 (u2 (u2 I 84 76 (I 84 73)) 84 77 (I 84 73)) 84 77 (999 : Int32)) L))) ∧ (¬ (((I 84 73) + (I 105 (((50 : Int32) * v1) + (6 : Int32)).toNatClampNeg)) - v3) ≤ (I 84 73) → ((¬ v3 = 0 → (((((I 84 73) + (I 105 (((50 : Int32) * v1) + (7 : Int32)).toNatClampNeg)) - v3) ≤ (((I 84 73) + (I 105 (((50 : Int32) * v1) + (6 : Int32)).toNatClampNeg)) - v3) → Q none S (u2 (u2 (u2 (u2 I 84 76 (I 84 73)) 84 77 (I 84 73)) 84 76 (((I 84 73) + (I 105 (((50 : Int32) * v1) + (6 : Int32)).toNatClampNeg)) - v3)) 84 77 (((I 84 73) + (I 105 (((50 : Int32) * v1) + (6 : Int32)).toNatClampNeg)) - v3)) L) ∧ (¬ (((I 84 73) + (I 105 (((50 : Int32) * v1) + (7 : Int32)).toNatClampNeg)) - v3) ≤ (((I 84 73) + (I 105 (((50 : Int32) * v1) + (6 : Int32)).toNatClampNeg)) - v3) → Q none S (u2 (u2 (u2 (u2 I 84 76 (I 84 73)) 84 77 (I 84 73)) 84 76 (((I 84 73) + (I 105 (((50 : Int32) * v1) + (6 : Int32)).toNatClampNeg)) - v3)) 84 77 (((I 84 73) + (I 105 (((50 : Int32) * v1) + (7 : Int32)).toNatClampNeg)) - v3)) L))) ∧ (v3 = 0 → Q none S (u2 (u2 (u2 (u2 I 84 76 (I 84 73)) 84 77 (I 84 73)) 84 76 (((I 84 73) + (I 105 (((50 : Int32) * v1) + (6 : Int32)).toNatClampNeg)) - v3)) 84 77 (999 : Int32)) L))))) ∧ (¬ v3 ≤ (I 92 v2.toNatClampNeg) → vp_in (((50 : Int32) * v1) + (6 : Int32)) 150 ∧ vp_in (((50 : Int32) * v1) + (7 : Int32)) 150 ∧ (((((I 84 73) + (I 105 (((50 : Int32) * v1) + (6 : Int32)).toNatClampNeg)) - (I 92 v2.toNatClampNeg)) ≤ (I 84 73) → ((¬ (I 92 v2.toNatClampNeg) = 0 → (((((I 84 73) + (I 105 (((50 : Int32) * v1) + (7 : Int32)).toNatClampNeg)) - (I 92 v2.toNatClampNeg)) ≤ (I 84 73) → Q none S (u2 (u2 (u2 I 84 76 (I 84 73)) 84 77 (I 84 73)) 84 77 (I 84 73)) L) ∧ (¬ (((I 84 73) + (I 105 (((50 : Int32) * v1) + (7 : Int32)).toNatClampNeg)) - (I 92 v2.toNatClampNeg)) ≤ (I 84 73) → Q none S (u2 (u2 (u2 I 84 76 (I 84 73)) 84 77 (I 84 73)) 84 77 (((I 84 73) + (I 105 (((50 : Int32) * v1) + (7 : Int32)).toNatClampNeg)) - (I 92 v2.toNatClampNeg))) L))) ∧ ((I 92 v2.toNatClampNeg) = 0 → Q none S (u2 (u2 (u2 I 84 76 (I 84 73)) 84 77 (I 84 73)) 84 77 (999 : Int32)) L))) ∧ (¬ (((I 84 73) + (I 105 (((50 : Int32) * v1) + (6 : Int32)).toNatClampNeg)) - (I 92 v2.toNatClampNeg)) ≤ (I 84 73) → ((¬ (I 92 v2.toNatClampNeg) = 0 → (((((I 84 73) + (I 105 (((50 : Int32) * v1) + (7 : Int32)).toNatClampNeg)) - (I 92 v2.toNatClampNeg)) ≤ (((I 84 73) + (I 105 (((50 : Int32) * v1) + (6 : Int32)).toNatClampNeg)) - (I 92 v2.toNatClampNeg)) → Q none S (u2 (u2 (u2 (u2 I 84 76 (I 84 73)) 84 77 (I 84 73)) 84 76 (((I 84 73) + (I 105 (((50 : Int32) * v1) + (6 : Int32)).toNatClampNeg)) - (I 92 v2.toNatClampNeg))) 84 77 (((I 84 73) + (I 105 (((50 : Int32) * v1) + (6 : Int32)).toNatClampNeg)) - (I 92 v2.toNatClampNeg))) L) ∧ (¬ (((I 84 73) + (I 105 (((50 : Int32) * v1) + (7 : Int32)).toNatClampNeg)) - (I 92 v2.toNatClampNeg)) ≤ (((I 84 73) + (I 105 (((50 : Int32) * v1) + (6 : Int32)).toNatClampNeg)) - (I 92 v2.toNatClampNeg)) → Q none S (u2 (u2 (u2 (u2 I 84 76 (I 84 73)) 84 77 (I 84 73)) 84 76 (((I 84 73) + (I 105 (((50 : Int32) * v1) + (6 : Int32)).toNatClampNeg)) - (I 92 v2.toNatClampNeg))) 84 77 (((I 84 73) + (I 105 (((50 : Int32) * v1) + (7 : Int32)).toNatClampNeg)) - (I 92 v2.toNatClampNeg))) L))) ∧ ((I 92 v2.toNatClampNeg) = 0 → Q none S (u2 (u2 (u2 (u2 I 84 76 (I 84 73)) 84 77 (I 84 73)) 84 76 (((I 84 73) + (I 105 (((50 : Int32) * v1) + (6 : Int32)).toNatClampNeg)) - (I 92 v2.toNatClampNeg))) 84 77 (999 : Int32)) L))))))) ∧ (¬ (I 93 v2.toNatClampNeg) = 0 → Q none S (u2 (u2 I 84 76 (I 84 73)) 84 77 (I 84 73)) L))) ∧ (¬ (200 : Int32) ≤ v4 → ((v4 = (I 84 73) → ZW G mX12_findDate fX12_findDate lX12_findDate 124 [zo G 84, .int v1, .int v2, .int v3, .int (v4 + 1), .null, .null] [] S I L bc bs Q) ∧ (¬ v4 = (I 84 73) → ZC G mX12_agree fX12_agree lX12_agree [zo G 84, .int v2, .int v3, .int v4] S I L 0 0 (fun w S' I1 L1 => ∃ r1 : Int32, w = some (.int r1) ∧ S = S' ∧ vp_in (((50 : Int32) * v1) + (5 : Int32)) 150 ∧ ((r1 ≤ ((I1 84 74) - (I1 105 (((50 : Int32) * v1) + (5 : Int32)).toNatClampNeg)) → ZW G mX12_findDate fX12_findDate lX12_findDate 124 [zo G 84, .int v1, .int v2, .int v3, .int (v4 + 1), .null, .null] [] S I1 L1 bc bs Q) ∧ (¬ r1 ≤ ((I1 84 74) - (I1 105 (((50 : Int32) * v1) + (5 : Int32)).toNatClampNeg)) → ZC G mX12_agree fX12_agree lX12_agree [zo G 84, .int v2, .int v3, .int v4] S I1 L1 0 0 (fun w S' I2 L2 => ∃ r2 : Int32, w = some (.int r2) ∧ S = S' ∧ ((r2 = (-1 : Int32) → ZW G mX12_findDate fX12_findDate lX12_findDate 124 [zo G 84, .int v1, .int v2, .int v3, .int (v4 + 1), .null, .null] [] S I2 L2 bc bs Q) ∧ (¬ r2 = (-1 : Int32) → ZW G mX12_findDate fX12_findDate lX12_findDate 124 [zo G 84, .int v1, .int v2, .int v3, .int (v4 + 1), .null, .null] [] S (u2 I2 84 75 (0 : Int32)) L2 bc bs Q))))))))))) : ZW G mX12_findDate fX12_findDate lX12_findDate 124 [zo G 84, .int v1, .int v2, .int v3, .int v4, .null, .null] [] S I L bc bs Q := by
  refine zr_iload dX12_findDate_124 rfl ?_
  refine zr_sipush (v := 200) dX12_findDate_126 (by decide) ?_
  refine zr_icge (tgt := 191) dX12_findDate_129 (by decide) (fun hb => ?_) (fun hb => ?_)
  · have k := k.1 hb
    refine zr_aload_n dX12_findDate_191 rfl rfl ?_
    refine zr_aload_n dX12_findDate_192 rfl rfl ?_
    refine zr_getIv (x := (I 84 73)) dX12_findDate_193 zf_X12_393 rfl (hS.has (a := 84) rfl rfl) rfl ?_
    refine zr_putI dX12_findDate_196 zf_X12_406 rfl (hS.has (a := 84) rfl rfl) rfl rfl ?_
    refine zr_aload_n dX12_findDate_199 rfl rfl ?_
    refine zr_aload_n dX12_findDate_200 rfl rfl ?_
    refine zr_getIv (x := (I 84 73)) dX12_findDate_201 zf_X12_393 rfl (hS.has (a := 84) rfl rfl) rfl ?_
    refine zr_putI dX12_findDate_204 zf_X12_409 rfl (hS.has (a := 84) rfl rfl) rfl rfl ?_
    refine zr_aload_n dX12_findDate_207 rfl rfl ?_
    refine zr_getR dX12_findDate_208 zf_X12_38 rfl (hS.has (a := 84) rfl rfl) (hS.ref (a := 93) rfl) ?_
    refine zr_iload_n dX12_findDate_211 rfl rfl ?_
    obtain ⟨hi2, k⟩ := k
    refine zr_zaldv (x := (I 93 v2.toNatClampNeg)) dX12_findDate_212 (hS.has (a := 93) rfl rfl) hi2 rfl ?_
    refine zr_ifeq (tgt := 217) dX12_findDate_213 (by decide) (fun hb => ?_) (fun hb => ?_)
    · have k := k.1 hb
      refine zr_aload_n dX12_findDate_217 rfl rfl ?_
      refine zr_getR dX12_findDate_218 zf_X12_35 rfl (hS.has (a := 84) rfl rfl) (hS.ref (a := 92) rfl) ?_
      refine zr_iload_n dX12_findDate_221 rfl rfl ?_
      refine zr_ialdv (x := (I 92 v2.toNatClampNeg)) dX12_findDate_222 (hS.has (a := 92) rfl rfl) hi2 rfl ?_
      refine zr_iload_n dX12_findDate_223 rfl rfl ?_
      refine zr_icge (tgt := 236) dX12_findDate_224 (by decide) (fun hb => ?_) (fun hb => ?_)
      · have k := k.1 hb
        refine zr_iload_n dX12_findDate_236 rfl rfl ?_
        refine zr_istore dX12_findDate_237 (Nat.le_of_ble_eq_true rfl) rfl ?_
        refine zr_aload_n dX12_findDate_239 rfl rfl ?_
        refine zr_getIv (x := (I 84 73)) dX12_findDate_240 zf_X12_393 rfl (hS.has (a := 84) rfl rfl) rfl ?_
        refine zr_aload_n dX12_findDate_243 rfl rfl ?_
        refine zr_getR dX12_findDate_244 zf_X12_75 rfl (hS.has (a := 84) rfl rfl) (hS.ref (a := 105) rfl) ?_
        refine zr_bipush (v := 50) dX12_findDate_247 (by decide) ?_
        refine zr_iload_n dX12_findDate_249 rfl rfl ?_
        refine zr_imul dX12_findDate_250 ?_
        refine zr_bipush (v := 6) dX12_findDate_251 (by decide) ?_
        refine zr_iadd dX12_findDate_253 ?_
        obtain ⟨hi3, k⟩ := k
        refine zr_ialdv (x := (I 105 (((50 : Int32) * v1) + (6 : Int32)).toNatClampNeg)) dX12_findDate_254 (hS.has (a := 105) rfl rfl) hi3 rfl ?_
        refine zr_iadd dX12_findDate_255 ?_
        refine zr_iload dX12_findDate_256 rfl ?_
        refine zr_isub dX12_findDate_258 ?_
        refine zr_istore dX12_findDate_259 (Nat.le_of_ble_eq_true rfl) rfl ?_
        refine zr_aload_n dX12_findDate_261 rfl rfl ?_
        refine zr_getIv (x := (I 84 73)) dX12_findDate_262 zf_X12_393 rfl (hS.has (a := 84) rfl rfl) rfl ?_
        refine zr_aload_n dX12_findDate_265 rfl rfl ?_
        refine zr_getR dX12_findDate_266 zf_X12_75 rfl (hS.has (a := 84) rfl rfl) (hS.ref (a := 105) rfl) ?_
        refine zr_bipush (v := 50) dX12_findDate_269 (by decide) ?_
        refine zr_iload_n dX12_findDate_271 rfl rfl ?_
        refine zr_imul dX12_findDate_272 ?_
        refine zr_bipush (v := 7) dX12_findDate_273 (by decide) ?_
        refine zr_iadd dX12_findDate_275 ?_
        obtain ⟨hi4, k⟩ := k
        refine zr_ialdv (x := (I 105 (((50 : Int32) * v1) + (7 : Int32)).toNatClampNeg)) dX12_findDate_276 (hS.has (a := 105) rfl rfl) hi4 rfl ?_
        refine zr_iadd dX12_findDate_277 ?_
        refine zr_iload dX12_findDate_278 rfl ?_
        refine zr_isub dX12_findDate_280 ?_
        refine zr_istore dX12_findDate_281 (Nat.le_of_ble_eq_true rfl) rfl ?_
        refine zr_iload dX12_findDate_283 rfl ?_
        refine zr_aload_n dX12_findDate_285 rfl rfl ?_
        refine zr_getIv (x := (I 84 73)) dX12_findDate_286 zf_X12_406 rfl (hS.has (a := 84) rfl rfl) rfl ?_
        refine zr_icle (tgt := 298) dX12_findDate_289 (by decide) (fun hb => ?_) (fun hb => ?_)
        · have k := k.1 hb
          refine zr_aload_n dX12_findDate_298 rfl rfl ?_
          refine zr_iload dX12_findDate_299 rfl ?_
          refine zr_ifne (tgt := 310) dX12_findDate_301 (by decide) (fun hb => ?_) (fun hb => ?_)
          · have k := k.1 hb
            refine zr_iload dX12_findDate_310 rfl ?_
            refine zr_aload_n dX12_findDate_312 rfl rfl ?_
            refine zr_getIv (x := (I 84 73)) dX12_findDate_313 zf_X12_406 rfl (hS.has (a := 84) rfl rfl) rfl ?_
            refine zr_icle (tgt := 324) dX12_findDate_316 (by decide) (fun hb => ?_) (fun hb => ?_)
            · have k := k.1 hb
              refine zr_aload_n dX12_findDate_324 rfl rfl ?_
              refine zr_getIv (x := (I 84 73)) dX12_findDate_325 zf_X12_406 rfl (hS.has (a := 84) rfl rfl) rfl ?_
              refine zr_putI dX12_findDate_328 zf_X12_409 rfl (hS.has (a := 84) rfl rfl) rfl rfl ?_
              exact zr_return_ dX12_findDate_331 rfl k
            · have k := k.2 hb
              refine zr_iload dX12_findDate_319 rfl ?_
              refine zr_goto (tgt := 328) dX12_findDate_321 (by decide) ?_
              refine zr_putI dX12_findDate_328 zf_X12_409 rfl (hS.has (a := 84) rfl rfl) rfl rfl ?_
              exact zr_return_ dX12_findDate_331 rfl k
          · have k := k.2 hb
            refine zr_sipush (v := 999) dX12_findDate_304 (by decide) ?_
            refine zr_goto (tgt := 328) dX12_findDate_307 (by decide) ?_
            refine zr_putI dX12_findDate_328 zf_X12_409 rfl (hS.has (a := 84) rfl rfl) rfl rfl ?_
            exact zr_return_ dX12_findDate_331 rfl k
        · have k := k.2 hb
          refine zr_aload_n dX12_findDate_292 rfl rfl ?_
          refine zr_iload dX12_findDate_293 rfl ?_
          refine zr_putI dX12_findDate_295 zf_X12_406 rfl (hS.has (a := 84) rfl rfl) rfl rfl ?_
          refine zr_aload_n dX12_findDate_298 rfl rfl ?_
          refine zr_iload dX12_findDate_299 rfl ?_
          refine zr_ifne (tgt := 310) dX12_findDate_301 (by decide) (fun hb => ?_) (fun hb => ?_)
          · have k := k.1 hb
            refine zr_iload dX12_findDate_310 rfl ?_
            refine zr_aload_n dX12_findDate_312 rfl rfl ?_
            refine zr_getIv (x := (((I 84 73) + (I 105 (((50 : Int32) * v1) + (6 : Int32)).toNatClampNeg)) - v3)) dX12_findDate_313 zf_X12_406 rfl (hS.has (a := 84) rfl rfl) rfl ?_
            refine zr_icle (tgt := 324) dX12_findDate_316 (by decide) (fun hb => ?_) (fun hb => ?_)
            · have k := k.1 hb
              refine zr_aload_n dX12_findDate_324 rfl rfl ?_
              refine zr_getIv (x := (((I 84 73) + (I 105 (((50 : Int32) * v1) + (6 : Int32)).toNatClampNeg)) - v3)) dX12_findDate_325 zf_X12_406 rfl (hS.has (a := 84) rfl rfl) rfl ?_
              refine zr_putI dX12_findDate_328 zf_X12_409 rfl (hS.has (a := 84) rfl rfl) rfl rfl ?_
              exact zr_return_ dX12_findDate_331 rfl k
            · have k := k.2 hb
              refine zr_iload dX12_findDate_319 rfl ?_
              refine zr_goto (tgt := 328) dX12_findDate_321 (by decide) ?_
              refine zr_putI dX12_findDate_328 zf_X12_409 rfl (hS.has (a := 84) rfl rfl) rfl rfl ?_
              exact zr_return_ dX12_findDate_331 rfl k
          · have k := k.2 hb
            refine zr_sipush (v := 999) dX12_findDate_304 (by decide) ?_
            refine zr_goto (tgt := 328) dX12_findDate_307 (by decide) ?_
            refine zr_putI dX12_findDate_328 zf_X12_409 rfl (hS.has (a := 84) rfl rfl) rfl rfl ?_
            exact zr_return_ dX12_findDate_331 rfl k
      · have k := k.2 hb
        refine zr_aload_n dX12_findDate_227 rfl rfl ?_
        refine zr_getR dX12_findDate_228 zf_X12_35 rfl (hS.has (a := 84) rfl rfl) (hS.ref (a := 92) rfl) ?_
        refine zr_iload_n dX12_findDate_231 rfl rfl ?_
        refine zr_ialdv (x := (I 92 v2.toNatClampNeg)) dX12_findDate_232 (hS.has (a := 92) rfl rfl) hi2 rfl ?_
        refine zr_goto (tgt := 237) dX12_findDate_233 (by decide) ?_
        refine zr_istore dX12_findDate_237 (Nat.le_of_ble_eq_true rfl) rfl ?_
        refine zr_aload_n dX12_findDate_239 rfl rfl ?_
        refine zr_getIv (x := (I 84 73)) dX12_findDate_240 zf_X12_393 rfl (hS.has (a := 84) rfl rfl) rfl ?_
        refine zr_aload_n dX12_findDate_243 rfl rfl ?_
        refine zr_getR dX12_findDate_244 zf_X12_75 rfl (hS.has (a := 84) rfl rfl) (hS.ref (a := 105) rfl) ?_
        refine zr_bipush (v := 50) dX12_findDate_247 (by decide) ?_
        refine zr_iload_n dX12_findDate_249 rfl rfl ?_
        refine zr_imul dX12_findDate_250 ?_
        refine zr_bipush (v := 6) dX12_findDate_251 (by decide) ?_
        refine zr_iadd dX12_findDate_253 ?_
        obtain ⟨hi5, k⟩ := k
        refine zr_ialdv (x := (I 105 (((50 : Int32) * v1) + (6 : Int32)).toNatClampNeg)) dX12_findDate_254 (hS.has (a := 105) rfl rfl) hi5 rfl ?_
        refine zr_iadd dX12_findDate_255 ?_
        refine zr_iload dX12_findDate_256 rfl ?_
        refine zr_isub dX12_findDate_258 ?_
        refine zr_istore dX12_findDate_259 (Nat.le_of_ble_eq_true rfl) rfl ?_
        refine zr_aload_n dX12_findDate_261 rfl rfl ?_
        refine zr_getIv (x := (I 84 73)) dX12_findDate_262 zf_X12_393 rfl (hS.has (a := 84) rfl rfl) rfl ?_
        refine zr_aload_n dX12_findDate_265 rfl rfl ?_
        refine zr_getR dX12_findDate_266 zf_X12_75 rfl (hS.has (a := 84) rfl rfl) (hS.ref (a := 105) rfl) ?_
        refine zr_bipush (v := 50) dX12_findDate_269 (by decide) ?_
        refine zr_iload_n dX12_findDate_271 rfl rfl ?_
        refine zr_imul dX12_findDate_272 ?_
        refine zr_bipush (v := 7) dX12_findDate_273 (by decide) ?_
        refine zr_iadd dX12_findDate_275 ?_
        obtain ⟨hi6, k⟩ := k
        refine zr_ialdv (x := (I 105 (((50 : Int32) * v1) + (7 : Int32)).toNatClampNeg)) dX12_findDate_276 (hS.has (a := 105) rfl rfl) hi6 rfl ?_
        refine zr_iadd dX12_findDate_277 ?_
        refine zr_iload dX12_findDate_278 rfl ?_
        refine zr_isub dX12_findDate_280 ?_
        refine zr_istore dX12_findDate_281 (Nat.le_of_ble_eq_true rfl) rfl ?_
        refine zr_iload dX12_findDate_283 rfl ?_
        refine zr_aload_n dX12_findDate_285 rfl rfl ?_
        refine zr_getIv (x := (I 84 73)) dX12_findDate_286 zf_X12_406 rfl (hS.has (a := 84) rfl rfl) rfl ?_
        refine zr_icle (tgt := 298) dX12_findDate_289 (by decide) (fun hb => ?_) (fun hb => ?_)
        · have k := k.1 hb
          refine zr_aload_n dX12_findDate_298 rfl rfl ?_
          refine zr_iload dX12_findDate_299 rfl ?_
          refine zr_ifne (tgt := 310) dX12_findDate_301 (by decide) (fun hb => ?_) (fun hb => ?_)
          · have k := k.1 hb
            refine zr_iload dX12_findDate_310 rfl ?_
            refine zr_aload_n dX12_findDate_312 rfl rfl ?_
            refine zr_getIv (x := (I 84 73)) dX12_findDate_313 zf_X12_406 rfl (hS.has (a := 84) rfl rfl) rfl ?_
            refine zr_icle (tgt := 324) dX12_findDate_316 (by decide) (fun hb => ?_) (fun hb => ?_)
            · have k := k.1 hb
              refine zr_aload_n dX12_findDate_324 rfl rfl ?_
              refine zr_getIv (x := (I 84 73)) dX12_findDate_325 zf_X12_406 rfl (hS.has (a := 84) rfl rfl) rfl ?_
              refine zr_putI dX12_findDate_328 zf_X12_409 rfl (hS.has (a := 84) rfl rfl) rfl rfl ?_
              exact zr_return_ dX12_findDate_331 rfl k
            · have k := k.2 hb
              refine zr_iload dX12_findDate_319 rfl ?_
              refine zr_goto (tgt := 328) dX12_findDate_321 (by decide) ?_
              refine zr_putI dX12_findDate_328 zf_X12_409 rfl (hS.has (a := 84) rfl rfl) rfl rfl ?_
              exact zr_return_ dX12_findDate_331 rfl k
          · have k := k.2 hb
            refine zr_sipush (v := 999) dX12_findDate_304 (by decide) ?_
            refine zr_goto (tgt := 328) dX12_findDate_307 (by decide) ?_
            refine zr_putI dX12_findDate_328 zf_X12_409 rfl (hS.has (a := 84) rfl rfl) rfl rfl ?_
            exact zr_return_ dX12_findDate_331 rfl k
        · have k := k.2 hb
          refine zr_aload_n dX12_findDate_292 rfl rfl ?_
          refine zr_iload dX12_findDate_293 rfl ?_
          refine zr_putI dX12_findDate_295 zf_X12_406 rfl (hS.has (a := 84) rfl rfl) rfl rfl ?_
          refine zr_aload_n dX12_findDate_298 rfl rfl ?_
          refine zr_iload dX12_findDate_299 rfl ?_
          refine zr_ifne (tgt := 310) dX12_findDate_301 (by decide) (fun hb => ?_) (fun hb => ?_)
          · have k := k.1 hb
            refine zr_iload dX12_findDate_310 rfl ?_
            refine zr_aload_n dX12_findDate_312 rfl rfl ?_
            refine zr_getIv (x := (((I 84 73) + (I 105 (((50 : Int32) * v1) + (6 : Int32)).toNatClampNeg)) - (I 92 v2.toNatClampNeg))) dX12_findDate_313 zf_X12_406 rfl (hS.has (a := 84) rfl rfl) rfl ?_
            refine zr_icle (tgt := 324) dX12_findDate_316 (by decide) (fun hb => ?_) (fun hb => ?_)
            · have k := k.1 hb
              refine zr_aload_n dX12_findDate_324 rfl rfl ?_
              refine zr_getIv (x := (((I 84 73) + (I 105 (((50 : Int32) * v1) + (6 : Int32)).toNatClampNeg)) - (I 92 v2.toNatClampNeg))) dX12_findDate_325 zf_X12_406 rfl (hS.has (a := 84) rfl rfl) rfl ?_
              refine zr_putI dX12_findDate_328 zf_X12_409 rfl (hS.has (a := 84) rfl rfl) rfl rfl ?_
              exact zr_return_ dX12_findDate_331 rfl k
            · have k := k.2 hb
              refine zr_iload dX12_findDate_319 rfl ?_
              refine zr_goto (tgt := 328) dX12_findDate_321 (by decide) ?_
              refine zr_putI dX12_findDate_328 zf_X12_409 rfl (hS.has (a := 84) rfl rfl) rfl rfl ?_
              exact zr_return_ dX12_findDate_331 rfl k
          · have k := k.2 hb
            refine zr_sipush (v := 999) dX12_findDate_304 (by decide) ?_
            refine zr_goto (tgt := 328) dX12_findDate_307 (by decide) ?_
            refine zr_putI dX12_findDate_328 zf_X12_409 rfl (hS.has (a := 84) rfl rfl) rfl rfl ?_
            exact zr_return_ dX12_findDate_331 rfl k
    · have k := k.2 hb
      exact zr_return_ dX12_findDate_216 rfl k
  · have k := k.2 hb
    refine zr_iload dX12_findDate_132 rfl ?_
    refine zr_aload_n dX12_findDate_134 rfl rfl ?_
    refine zr_getIv (x := (I 84 73)) dX12_findDate_135 zf_X12_393 rfl (hS.has (a := 84) rfl rfl) rfl ?_
    refine zr_iceq (tgt := 185) dX12_findDate_138 (by decide) (fun hb => ?_) (fun hb => ?_)
    · have k := k.1 hb
      refine zr_iinc (v := (v4 + 1)) dX12_findDate_185 rfl rfl (Nat.le_of_ble_eq_true rfl) rfl ?_
      refine zr_goto (tgt := 124) dX12_findDate_188 (by decide) ?_
      exact k
    · have k := k.2 hb
      refine zr_aload_n dX12_findDate_141 rfl rfl ?_
      refine zr_iload_n dX12_findDate_142 rfl rfl ?_
      refine zr_iload_n dX12_findDate_143 rfl rfl ?_
      refine zr_iload dX12_findDate_144 rfl ?_
      refine zr_callV (As := [.int v2, .int v3, .int v4]) (fr' := fX12_agree) (lo' := lX12_agree) (bc' := 0) (bs' := 0) (bcr := bc) (bsr := bs) dX12_findDate_146 zs_X12_403 zi_X12_agree zcl_12 (hS.has (a := 84) rfl rfl) rfl rfl (Nat.le_of_ble_eq_true rfl) (Nat.le_of_ble_eq_true rfl) (Nat.le_of_ble_eq_true rfl) (Nat.le_refl _) (Nat.le_refl _) ?_
      refine ZC.mono (fun w S' I1 L1 k => ?_) k
      obtain ⟨r1, rfl, rfl, k⟩ := k
      show ZW G mX12_findDate fX12_findDate lX12_findDate 149 [zo G 84, .int v1, .int v2, .int v3, .int v4, .null, .null] [.int r1] S I1 L1 bc bs Q
      refine zr_aload_n dX12_findDate_149 rfl rfl ?_
      refine zr_getIv (x := (I1 84 74)) dX12_findDate_150 zf_X12_396 rfl (hS.has (a := 84) rfl rfl) rfl ?_
      refine zr_aload_n dX12_findDate_153 rfl rfl ?_
      refine zr_getR dX12_findDate_154 zf_X12_75 rfl (hS.has (a := 84) rfl rfl) (hS.ref (a := 105) rfl) ?_
      refine zr_bipush (v := 50) dX12_findDate_157 (by decide) ?_
      refine zr_iload_n dX12_findDate_159 rfl rfl ?_
      refine zr_imul dX12_findDate_160 ?_
      refine zr_iconst (v := 5) dX12_findDate_161 (by decide) ?_
      refine zr_iadd dX12_findDate_162 ?_
      obtain ⟨hi7, k⟩ := k
      refine zr_ialdv (x := (I1 105 (((50 : Int32) * v1) + (5 : Int32)).toNatClampNeg)) dX12_findDate_163 (hS.has (a := 105) rfl rfl) hi7 rfl ?_
      refine zr_isub dX12_findDate_164 ?_
      refine zr_icle (tgt := 185) dX12_findDate_165 (by decide) (fun hb => ?_) (fun hb => ?_)
      · have k := k.1 hb
        refine zr_iinc (v := (v4 + 1)) dX12_findDate_185 rfl rfl (Nat.le_of_ble_eq_true rfl) rfl ?_
        refine zr_goto (tgt := 124) dX12_findDate_188 (by decide) ?_
        exact k
      · have k := k.2 hb
        refine zr_aload_n dX12_findDate_168 rfl rfl ?_
        refine zr_iload_n dX12_findDate_169 rfl rfl ?_
        refine zr_iload_n dX12_findDate_170 rfl rfl ?_
        refine zr_iload dX12_findDate_171 rfl ?_
        refine zr_callV (As := [.int v2, .int v3, .int v4]) (fr' := fX12_agree) (lo' := lX12_agree) (bc' := 0) (bs' := 0) (bcr := bc) (bsr := bs) dX12_findDate_173 zs_X12_403 zi_X12_agree zcl_12 (hS.has (a := 84) rfl rfl) rfl rfl (Nat.le_of_ble_eq_true rfl) (Nat.le_of_ble_eq_true rfl) (Nat.le_of_ble_eq_true rfl) (Nat.le_refl _) (Nat.le_refl _) ?_
        refine ZC.mono (fun w S' I2 L2 k => ?_) k
        obtain ⟨r2, rfl, rfl, k⟩ := k
        show ZW G mX12_findDate fX12_findDate lX12_findDate 176 [zo G 84, .int v1, .int v2, .int v3, .int v4, .null, .null] [.int r2] S I2 L2 bc bs Q
        refine zr_iconst (v := -1) dX12_findDate_176 (by decide) ?_
        refine zr_iceq (tgt := 185) dX12_findDate_177 (by decide) (fun hb => ?_) (fun hb => ?_)
        · have k := k.1 hb
          refine zr_iinc (v := (v4 + 1)) dX12_findDate_185 rfl rfl (Nat.le_of_ble_eq_true rfl) rfl ?_
          refine zr_goto (tgt := 124) dX12_findDate_188 (by decide) ?_
          exact k
        · have k := k.2 hb
          refine zr_aload_n dX12_findDate_180 rfl rfl ?_
          refine zr_iconst (v := 0) dX12_findDate_181 (by decide) ?_
          refine zr_putI dX12_findDate_182 zf_X12_399 rfl (hS.has (a := 84) rfl rfl) rfl rfl ?_
          refine zr_iinc (v := (v4 + 1)) dX12_findDate_185 rfl rfl (Nat.le_of_ble_eq_true rfl) rfl ?_
          refine zr_goto (tgt := 124) dX12_findDate_188 (by decide) ?_
          exact k
set_option maxHeartbeats 2000000 in
theorem vX12_usedTo_0 {G : Gp} {bc bs : Nat} {Q : zPost} {S : zSh} {I : zFI} {L : zFL} {v1 : Int32} (hS : zStd S)  (k : vp_in (((50 : Int32) * v1) + (8 : Int32)) 150 ∧ ((((I 84 77) + (I 105 (((50 : Int32) * v1) + (8 : Int32)).toNatClampNeg)) ≤ (999 : Int32) → Q (some (.int ((I 84 77) + (I 105 (((50 : Int32) * v1) + (8 : Int32)).toNatClampNeg)))) S I L) ∧ (¬ ((I 84 77) + (I 105 (((50 : Int32) * v1) + (8 : Int32)).toNatClampNeg)) ≤ (999 : Int32) → Q (some (.int (999 : Int32))) S I L))) : ZW G mX12_usedTo fX12_usedTo lX12_usedTo 0 [zo G 84, .int v1] [] S I L bc bs Q := by
  refine zr_aload_n dX12_usedTo_0 rfl rfl ?_
  refine zr_getIv (x := (I 84 77)) dX12_usedTo_1 zf_X12_409 rfl (hS.has (a := 84) rfl rfl) rfl ?_
  refine zr_aload_n dX12_usedTo_4 rfl rfl ?_
  refine zr_getR dX12_usedTo_5 zf_X12_75 rfl (hS.has (a := 84) rfl rfl) (hS.ref (a := 105) rfl) ?_
  refine zr_bipush (v := 50) dX12_usedTo_8 (by decide) ?_
  refine zr_iload_n dX12_usedTo_10 rfl rfl ?_
  refine zr_imul dX12_usedTo_11 ?_
  refine zr_bipush (v := 8) dX12_usedTo_12 (by decide) ?_
  refine zr_iadd dX12_usedTo_14 ?_
  obtain ⟨hi1, k⟩ := k
  refine zr_ialdv (x := (I 105 (((50 : Int32) * v1) + (8 : Int32)).toNatClampNeg)) dX12_usedTo_15 (hS.has (a := 105) rfl rfl) hi1 rfl ?_
  refine zr_iadd dX12_usedTo_16 ?_
  refine zr_sipush (v := 999) dX12_usedTo_17 (by decide) ?_
  refine zr_icle (tgt := 29) dX12_usedTo_20 (by decide) (fun hb => ?_) (fun hb => ?_)
  · have k := k.1 hb
    refine zr_aload_n dX12_usedTo_29 rfl rfl ?_
    refine zr_getIv (x := (I 84 77)) dX12_usedTo_30 zf_X12_409 rfl (hS.has (a := 84) rfl rfl) rfl ?_
    refine zr_aload_n dX12_usedTo_33 rfl rfl ?_
    refine zr_getR dX12_usedTo_34 zf_X12_75 rfl (hS.has (a := 84) rfl rfl) (hS.ref (a := 105) rfl) ?_
    refine zr_bipush (v := 50) dX12_usedTo_37 (by decide) ?_
    refine zr_iload_n dX12_usedTo_39 rfl rfl ?_
    refine zr_imul dX12_usedTo_40 ?_
    refine zr_bipush (v := 8) dX12_usedTo_41 (by decide) ?_
    refine zr_iadd dX12_usedTo_43 ?_
    refine zr_ialdv (x := (I 105 (((50 : Int32) * v1) + (8 : Int32)).toNatClampNeg)) dX12_usedTo_44 (hS.has (a := 105) rfl rfl) hi1 rfl ?_
    refine zr_iadd dX12_usedTo_45 ?_
    exact zr_ireturn dX12_usedTo_46 rfl rfl k
  · have k := k.2 hb
    refine zr_sipush (v := 999) dX12_usedTo_23 (by decide) ?_
    refine zr_goto (tgt := 46) dX12_usedTo_26 (by decide) ?_
    exact zr_ireturn dX12_usedTo_46 rfl rfl k
def p_X12_usedTo (I : zFI) (v1 : Int32) : Int32 := (if ((I 84 77) + (I 105 (((50 : Int32) * v1) + (8 : Int32)).toNatClampNeg)) ≤ (999 : Int32) then ((I 84 77) + (I 105 (((50 : Int32) * v1) + (8 : Int32)).toNatClampNeg)) else (999 : Int32))
set_option maxHeartbeats 2000000 in
theorem sp_X12_usedTo {G : Gp} {Q : zPost} {S : zSh} {I : zFI} {L : zFL} {v1 : Int32} (hS : zStd S)  (hv0 : vp_in (((50 : Int32) * v1) + (8 : Int32)) 150) (h : Q (some (.int (p_X12_usedTo I v1))) S I L) : ZC G mX12_usedTo fX12_usedTo lX12_usedTo [zo G 84, .int v1] S I L 0 0 Q := by
  refine ZC.of' (vX12_usedTo_0 hS  ?_) rfl (Nat.le_of_ble_eq_true rfl) rfl
  unfold p_X12_usedTo at h
  refine ⟨hv0 , ?_⟩
  refine ⟨fun hb1 => ?_, fun hb1 => ?_⟩
  · rw [if_pos hb1] at h
    exact h
  · rw [if_neg hb1] at h
    exact h
set_option maxHeartbeats 2000000 in
theorem vX12_date_0 {G : Gp} {bc bs : Nat} {Q : zPost} {S : zSh} {I : zFI} {L : zFL} {v1 : Int32} {v2 : Int32} {v3 : Int32} (hS : zStd S)  (k : (((p_X12_isIn v1 (0 : Int32) (1 : Int32)) = 0 → Q (some (.int (-1 : Int32))) S (u2 I 84 0 (0 : Int32)) L) ∧ (¬ (p_X12_isIn v1 (0 : Int32) (1 : Int32)) = 0 → (¬ v2 < 0 → ¬ ((u2 I 84 0 (0 : Int32)) 84 3) ≤ v2 → vp_in v2 16) ∧ (((p_X12_isTimber (u2 I 84 0 (0 : Int32)) v2) = 0 → Q (some (.int (-1 : Int32))) S (u2 I 84 0 (0 : Int32)) L) ∧ (¬ (p_X12_isTimber (u2 I 84 0 (0 : Int32)) v2) = 0 → ((¬ (p_X12_isIn v3 (0 : Int32) (6 : Int32)) = 0 → ZC G mX12_findDate fX12_findDate lX12_findDate [zo G 84, .int v1, .int v2] S (u2 I 84 0 (0 : Int32)) L 0 0 (fun w S' I1 L1 => w = none ∧ S = S' ∧ ((¬ (I1 84 73) = (-1 : Int32) → ((¬ v3 = 0 → ((¬ v3 = (1 : Int32) → ((¬ v3 = (2 : Int32) → ((¬ (I1 84 75) = 0 → ((v3 = (3 : Int32) → Q (some (.int (I1 84 76))) S I1 L1) ∧ (¬ v3 = (3 : Int32) → ((¬ v3 = (5 : Int32) → ((¬ v3 = (4 : Int32) → (vp_in (((50 : Int32) * v1) + (8 : Int32)) 150) ∧ Q (some (.int (p_X12_usedTo I1 v1))) S I1 L1) ∧ (v3 = (4 : Int32) → Q (some (.int (I1 84 77))) S I1 L1))) ∧ (v3 = (5 : Int32) → Q (some (.int (I1 84 76))) S I1 L1))))) ∧ ((I1 84 75) = 0 → Q (some (.int (-1 : Int32))) S I1 L1))) ∧ (v3 = (2 : Int32) → (((I1 84 75) = 0 → Q (some (.int (0 : Int32))) S I1 L1) ∧ (¬ (I1 84 75) = 0 → Q (some (.int (1 : Int32))) S I1 L1))))) ∧ (v3 = (1 : Int32) → Q (some (.int (I1 84 74))) S I1 L1))) ∧ (v3 = 0 → Q (some (.int (I1 84 73))) S I1 L1))) ∧ ((I1 84 73) = (-1 : Int32) → Q (some (.int (-1 : Int32))) S I1 L1)))) ∧ ((p_X12_isIn v3 (0 : Int32) (6 : Int32)) = 0 → Q (some (.int (-1 : Int32))) S (u2 I 84 0 (0 : Int32)) L))))))) : ZW G mX12_date fX12_date lX12_date 0 [zo G 84, .int v1, .int v2, .int v3] [] S I L bc bs Q := by
  refine zr_aload_n dX12_date_0 rfl rfl ?_
  refine zr_iconst (v := 0) dX12_date_1 (by decide) ?_
  refine zr_putI dX12_date_2 zf_X12_188 rfl (hS.has (a := 84) rfl rfl) rfl rfl ?_
  refine zr_aload_n dX12_date_5 rfl rfl ?_
  refine zr_iload_n dX12_date_6 rfl rfl ?_
  refine zr_iconst (v := 0) dX12_date_7 (by decide) ?_
  refine zr_iconst (v := 1) dX12_date_8 (by decide) ?_
  refine zr_callV (As := [.int v1, .int (0 : Int32), .int (1 : Int32)]) (fr' := fX12_isIn) (lo' := lX12_isIn) (bc' := 0) (bs' := 0) (bcr := bc) (bsr := bs) dX12_date_9 zs_X12_201 zi_X12_isIn zcl_12 (hS.has (a := 84) rfl rfl) rfl rfl (Nat.le_of_ble_eq_true rfl) (Nat.le_of_ble_eq_true rfl) (Nat.le_of_ble_eq_true rfl) (Nat.le_refl _) (Nat.le_refl _) ?_
  refine sp_X12_isIn hS  ?_
  show ZW G mX12_date fX12_date lX12_date 12 [zo G 84, .int v1, .int v2, .int v3] [.int (p_X12_isIn v1 (0 : Int32) (1 : Int32))] S (u2 I 84 0 (0 : Int32)) L bc bs Q
  refine zr_ifeq (tgt := 34) dX12_date_12 (by decide) (fun hb => ?_) (fun hb => ?_)
  · have k := k.1 hb
    refine zr_iconst (v := -1) dX12_date_34 (by decide) ?_
    exact zr_ireturn dX12_date_35 rfl rfl k
  · have k := k.2 hb
    refine zr_aload_n dX12_date_15 rfl rfl ?_
    refine zr_iload_n dX12_date_16 rfl rfl ?_
    refine zr_callV (As := [.int v2]) (fr' := fX12_isTimber) (lo' := lX12_isTimber) (bc' := 0) (bs' := 0) (bcr := bc) (bsr := bs) dX12_date_17 zs_X12_289 zi_X12_isTimber zcl_12 (hS.has (a := 84) rfl rfl) rfl rfl (Nat.le_of_ble_eq_true rfl) (Nat.le_of_ble_eq_true rfl) (Nat.le_of_ble_eq_true rfl) (Nat.le_refl _) (Nat.le_refl _) ?_
    obtain ⟨hq0, k⟩ := k
    refine sp_X12_isTimber hS hq0 ?_
    show ZW G mX12_date fX12_date lX12_date 20 [zo G 84, .int v1, .int v2, .int v3] [.int (p_X12_isTimber (u2 I 84 0 (0 : Int32)) v2)] S (u2 I 84 0 (0 : Int32)) L bc bs Q
    refine zr_ifeq (tgt := 34) dX12_date_20 (by decide) (fun hb => ?_) (fun hb => ?_)
    · have k := k.1 hb
      refine zr_iconst (v := -1) dX12_date_34 (by decide) ?_
      exact zr_ireturn dX12_date_35 rfl rfl k
    · have k := k.2 hb
      refine zr_aload_n dX12_date_23 rfl rfl ?_
      refine zr_iload_n dX12_date_24 rfl rfl ?_
      refine zr_iconst (v := 0) dX12_date_25 (by decide) ?_
      refine zr_bipush (v := 6) dX12_date_26 (by decide) ?_
      refine zr_callV (As := [.int v3, .int (0 : Int32), .int (6 : Int32)]) (fr' := fX12_isIn) (lo' := lX12_isIn) (bc' := 0) (bs' := 0) (bcr := bc) (bsr := bs) dX12_date_28 zs_X12_201 zi_X12_isIn zcl_12 (hS.has (a := 84) rfl rfl) rfl rfl (Nat.le_of_ble_eq_true rfl) (Nat.le_of_ble_eq_true rfl) (Nat.le_of_ble_eq_true rfl) (Nat.le_refl _) (Nat.le_refl _) ?_
      refine sp_X12_isIn hS  ?_
      show ZW G mX12_date fX12_date lX12_date 31 [zo G 84, .int v1, .int v2, .int v3] [.int (p_X12_isIn v3 (0 : Int32) (6 : Int32))] S (u2 I 84 0 (0 : Int32)) L bc bs Q
      refine zr_ifne (tgt := 36) dX12_date_31 (by decide) (fun hb => ?_) (fun hb => ?_)
      · have k := k.1 hb
        refine zr_aload_n dX12_date_36 rfl rfl ?_
        refine zr_iload_n dX12_date_37 rfl rfl ?_
        refine zr_iload_n dX12_date_38 rfl rfl ?_
        refine zr_callV (As := [.int v1, .int v2]) (fr' := fX12_findDate) (lo' := lX12_findDate) (bc' := 0) (bs' := 0) (bcr := bc) (bsr := bs) dX12_date_39 zs_X12_412 zi_X12_findDate zcl_12 (hS.has (a := 84) rfl rfl) rfl rfl (Nat.le_of_ble_eq_true rfl) (Nat.le_of_ble_eq_true rfl) (Nat.le_of_ble_eq_true rfl) (Nat.le_refl _) (Nat.le_refl _) ?_
        refine ZC.mono (fun w S' I1 L1 k => ?_) k
        obtain ⟨rfl, rfl, k⟩ := k
        show ZW G mX12_date fX12_date lX12_date 42 [zo G 84, .int v1, .int v2, .int v3] [] S I1 L1 bc bs Q
        refine zr_aload_n dX12_date_42 rfl rfl ?_
        refine zr_getIv (x := (I1 84 73)) dX12_date_43 zf_X12_393 rfl (hS.has (a := 84) rfl rfl) rfl ?_
        refine zr_iconst (v := -1) dX12_date_46 (by decide) ?_
        refine zr_icne (tgt := 52) dX12_date_47 (by decide) (fun hb => ?_) (fun hb => ?_)
        · have k := k.1 hb
          refine zr_iload_n dX12_date_52 rfl rfl ?_
          refine zr_ifne (tgt := 61) dX12_date_53 (by decide) (fun hb => ?_) (fun hb => ?_)
          · have k := k.1 hb
            refine zr_iload_n dX12_date_61 rfl rfl ?_
            refine zr_iconst (v := 1) dX12_date_62 (by decide) ?_
            refine zr_icne (tgt := 71) dX12_date_63 (by decide) (fun hb => ?_) (fun hb => ?_)
            · have k := k.1 hb
              refine zr_iload_n dX12_date_71 rfl rfl ?_
              refine zr_iconst (v := 2) dX12_date_72 (by decide) ?_
              refine zr_icne (tgt := 89) dX12_date_73 (by decide) (fun hb => ?_) (fun hb => ?_)
              · have k := k.1 hb
                refine zr_aload_n dX12_date_89 rfl rfl ?_
                refine zr_getIv (x := (I1 84 75)) dX12_date_90 zf_X12_399 rfl (hS.has (a := 84) rfl rfl) rfl ?_
                refine zr_ifne (tgt := 98) dX12_date_93 (by decide) (fun hb => ?_) (fun hb => ?_)
                · have k := k.1 hb
                  refine zr_iload_n dX12_date_98 rfl rfl ?_
                  refine zr_iconst (v := 3) dX12_date_99 (by decide) ?_
                  refine zr_iceq (tgt := 108) dX12_date_100 (by decide) (fun hb => ?_) (fun hb => ?_)
                  · have k := k.1 hb
                    refine zr_aload_n dX12_date_108 rfl rfl ?_
                    refine zr_getIv (x := (I1 84 76)) dX12_date_109 zf_X12_406 rfl (hS.has (a := 84) rfl rfl) rfl ?_
                    refine zr_goto (tgt := 132) dX12_date_112 (by decide) ?_
                    exact zr_ireturn dX12_date_132 rfl rfl k
                  · have k := k.2 hb
                    refine zr_iload_n dX12_date_103 rfl rfl ?_
                    refine zr_iconst (v := 5) dX12_date_104 (by decide) ?_
                    refine zr_icne (tgt := 115) dX12_date_105 (by decide) (fun hb => ?_) (fun hb => ?_)
                    · have k := k.1 hb
                      refine zr_iload_n dX12_date_115 rfl rfl ?_
                      refine zr_iconst (v := 4) dX12_date_116 (by decide) ?_
                      refine zr_icne (tgt := 127) dX12_date_117 (by decide) (fun hb => ?_) (fun hb => ?_)
                      · have k := k.1 hb
                        refine zr_aload_n dX12_date_127 rfl rfl ?_
                        refine zr_iload_n dX12_date_128 rfl rfl ?_
                        refine zr_callV (As := [.int v1]) (fr' := fX12_usedTo) (lo' := lX12_usedTo) (bc' := 0) (bs' := 0) (bcr := bc) (bsr := bs) dX12_date_129 zs_X12_415 zi_X12_usedTo zcl_12 (hS.has (a := 84) rfl rfl) rfl rfl (Nat.le_of_ble_eq_true rfl) (Nat.le_of_ble_eq_true rfl) (Nat.le_of_ble_eq_true rfl) (Nat.le_refl _) (Nat.le_refl _) ?_
                        obtain ⟨hq0, k⟩ := k
                        refine sp_X12_usedTo hS hq0 ?_
                        show ZW G mX12_date fX12_date lX12_date 132 [zo G 84, .int v1, .int v2, .int v3] [.int (p_X12_usedTo I1 v1)] S I1 L1 bc bs Q
                        exact zr_ireturn dX12_date_132 rfl rfl k
                      · have k := k.2 hb
                        refine zr_aload_n dX12_date_120 rfl rfl ?_
                        refine zr_getIv (x := (I1 84 77)) dX12_date_121 zf_X12_409 rfl (hS.has (a := 84) rfl rfl) rfl ?_
                        refine zr_goto (tgt := 132) dX12_date_124 (by decide) ?_
                        exact zr_ireturn dX12_date_132 rfl rfl k
                    · have k := k.2 hb
                      refine zr_aload_n dX12_date_108 rfl rfl ?_
                      refine zr_getIv (x := (I1 84 76)) dX12_date_109 zf_X12_406 rfl (hS.has (a := 84) rfl rfl) rfl ?_
                      refine zr_goto (tgt := 132) dX12_date_112 (by decide) ?_
                      exact zr_ireturn dX12_date_132 rfl rfl k
                · have k := k.2 hb
                  refine zr_iconst (v := -1) dX12_date_96 (by decide) ?_
                  exact zr_ireturn dX12_date_97 rfl rfl k
              · have k := k.2 hb
                refine zr_aload_n dX12_date_76 rfl rfl ?_
                refine zr_getIv (x := (I1 84 75)) dX12_date_77 zf_X12_399 rfl (hS.has (a := 84) rfl rfl) rfl ?_
                refine zr_ifeq (tgt := 87) dX12_date_80 (by decide) (fun hb => ?_) (fun hb => ?_)
                · have k := k.1 hb
                  refine zr_iconst (v := 0) dX12_date_87 (by decide) ?_
                  exact zr_ireturn dX12_date_88 rfl rfl k
                · have k := k.2 hb
                  refine zr_iconst (v := 1) dX12_date_83 (by decide) ?_
                  refine zr_goto (tgt := 88) dX12_date_84 (by decide) ?_
                  exact zr_ireturn dX12_date_88 rfl rfl k
            · have k := k.2 hb
              refine zr_aload_n dX12_date_66 rfl rfl ?_
              refine zr_getIv (x := (I1 84 74)) dX12_date_67 zf_X12_396 rfl (hS.has (a := 84) rfl rfl) rfl ?_
              exact zr_ireturn dX12_date_70 rfl rfl k
          · have k := k.2 hb
            refine zr_aload_n dX12_date_56 rfl rfl ?_
            refine zr_getIv (x := (I1 84 73)) dX12_date_57 zf_X12_393 rfl (hS.has (a := 84) rfl rfl) rfl ?_
            exact zr_ireturn dX12_date_60 rfl rfl k
        · have k := k.2 hb
          refine zr_iconst (v := -1) dX12_date_50 (by decide) ?_
          exact zr_ireturn dX12_date_51 rfl rfl k
      · have k := k.2 hb
        refine zr_iconst (v := -1) dX12_date_34 (by decide) ?_
        exact zr_ireturn dX12_date_35 rfl rfl k
set_option maxHeartbeats 2000000 in
theorem vX12_built_0 {G : Gp} {bc bs : Nat} {Q : zPost} {S : zSh} {I : zFI} {L : zFL} {v1 : Int32} {v2 : Int32} {v3 : Int32} (hS : zStd S)  (k : (((p_X12_isIn v3 (0 : Int32) (3 : Int32)) = 0 → Q (some (.int (-1 : Int32))) S (u2 I 84 0 (0 : Int32)) L) ∧ (¬ (p_X12_isIn v3 (0 : Int32) (3 : Int32)) = 0 → ZC G mX12_hasFrame fX12_hasFrame lX12_hasFrame [zo G 84, .int v1, .int v2] S (u2 I 84 0 (0 : Int32)) L 0 0 (fun w S' I1 L1 => ∃ r1 : Int32, w = some (.int r1) ∧ S = S' ∧ ((¬ r1 = 0 → ZW G mX12_built fX12_built lX12_built 29 [zo G 84, .int v1, .int v2, .int v3, .int (0 : Int32), .null, .null] [] S I1 L1 bc bs Q) ∧ (r1 = 0 → Q (some (.int (-1 : Int32))) S I1 L1)))))) : ZW G mX12_built fX12_built lX12_built 0 [zo G 84, .int v1, .int v2, .int v3, .null, .null, .null] [] S I L bc bs Q := by
  refine zr_aload_n dX12_built_0 rfl rfl ?_
  refine zr_iconst (v := 0) dX12_built_1 (by decide) ?_
  refine zr_putI dX12_built_2 zf_X12_188 rfl (hS.has (a := 84) rfl rfl) rfl rfl ?_
  refine zr_aload_n dX12_built_5 rfl rfl ?_
  refine zr_iload_n dX12_built_6 rfl rfl ?_
  refine zr_iconst (v := 0) dX12_built_7 (by decide) ?_
  refine zr_iconst (v := 3) dX12_built_8 (by decide) ?_
  refine zr_callV (As := [.int v3, .int (0 : Int32), .int (3 : Int32)]) (fr' := fX12_isIn) (lo' := lX12_isIn) (bc' := 0) (bs' := 0) (bcr := bc) (bsr := bs) dX12_built_9 zs_X12_201 zi_X12_isIn zcl_12 (hS.has (a := 84) rfl rfl) rfl rfl (Nat.le_of_ble_eq_true rfl) (Nat.le_of_ble_eq_true rfl) (Nat.le_of_ble_eq_true rfl) (Nat.le_refl _) (Nat.le_refl _) ?_
  refine sp_X12_isIn hS  ?_
  show ZW G mX12_built fX12_built lX12_built 12 [zo G 84, .int v1, .int v2, .int v3, .null, .null, .null] [.int (p_X12_isIn v3 (0 : Int32) (3 : Int32))] S (u2 I 84 0 (0 : Int32)) L bc bs Q
  refine zr_ifeq (tgt := 24) dX12_built_12 (by decide) (fun hb => ?_) (fun hb => ?_)
  · have k := k.1 hb
    refine zr_iconst (v := -1) dX12_built_24 (by decide) ?_
    exact zr_ireturn dX12_built_25 rfl rfl k
  · have k := k.2 hb
    refine zr_aload_n dX12_built_15 rfl rfl ?_
    refine zr_iload_n dX12_built_16 rfl rfl ?_
    refine zr_iload_n dX12_built_17 rfl rfl ?_
    refine zr_callV (As := [.int v1, .int v2]) (fr' := fX12_hasFrame) (lo' := lX12_hasFrame) (bc' := 0) (bs' := 0) (bcr := bc) (bsr := bs) dX12_built_18 zs_X12_381 zi_X12_hasFrame zcl_12 (hS.has (a := 84) rfl rfl) rfl rfl (Nat.le_of_ble_eq_true rfl) (Nat.le_of_ble_eq_true rfl) (Nat.le_of_ble_eq_true rfl) (Nat.le_refl _) (Nat.le_refl _) ?_
    refine ZC.mono (fun w S' I1 L1 k => ?_) k
    obtain ⟨r1, rfl, rfl, k⟩ := k
    show ZW G mX12_built fX12_built lX12_built 21 [zo G 84, .int v1, .int v2, .int v3, .null, .null, .null] [.int r1] S I1 L1 bc bs Q
    refine zr_ifne (tgt := 26) dX12_built_21 (by decide) (fun hb => ?_) (fun hb => ?_)
    · have k := k.1 hb
      refine zr_iconst (v := 0) dX12_built_26 (by decide) ?_
      refine zr_istore dX12_built_27 (Nat.le_of_ble_eq_true rfl) rfl ?_
      exact k
    · have k := k.2 hb
      refine zr_iconst (v := -1) dX12_built_24 (by decide) ?_
      exact zr_ireturn dX12_built_25 rfl rfl k
set_option maxHeartbeats 2000000 in
theorem vX12_built_29 {G : Gp} {bc bs : Nat} {Q : zPost} {S : zSh} {I : zFI} {L : zFL} {v1 : Int32} {v2 : Int32} {v3 : Int32} {v4 : Int32} (hS : zStd S)  (k : (((1000 : Int32) ≤ v4 → ZW G mX12_built fX12_built lX12_built 57 [zo G 84, .int v1, .int v2, .int v3, .int (0 : Int32), .int (0 : Int32), .null] [] S I L bc bs Q) ∧ (¬ (1000 : Int32) ≤ v4 → vp_in v4 1000 ∧ ZW G mX12_built fX12_built lX12_built 29 [zo G 84, .int v1, .int v2, .int v3, .int (v4 + 1), .null, .null] [] S (u2 I 133 v4.toNatClampNeg (0 : Int32)) L bc bs Q))) : ZW G mX12_built fX12_built lX12_built 29 [zo G 84, .int v1, .int v2, .int v3, .int v4, .null, .null] [] S I L bc bs Q := by
  refine zr_iload dX12_built_29 rfl ?_
  refine zr_sipush (v := 1000) dX12_built_31 (by decide) ?_
  refine zr_icge (tgt := 51) dX12_built_34 (by decide) (fun hb => ?_) (fun hb => ?_)
  · have k := k.1 hb
    refine zr_iconst (v := 0) dX12_built_51 (by decide) ?_
    refine zr_istore dX12_built_52 (Nat.le_of_ble_eq_true rfl) rfl ?_
    refine zr_iconst (v := 0) dX12_built_54 (by decide) ?_
    refine zr_istore dX12_built_55 (Nat.le_of_ble_eq_true rfl) rfl ?_
    exact k
  · have k := k.2 hb
    refine zr_aload_n dX12_built_37 rfl rfl ?_
    refine zr_getR dX12_built_38 zf_X12_170 rfl (hS.has (a := 84) rfl rfl) (hS.ref (a := 133) rfl) ?_
    refine zr_iload dX12_built_41 rfl ?_
    refine zr_iconst (v := 0) dX12_built_43 (by decide) ?_
    obtain ⟨hi1, k⟩ := k
    refine zr_iast dX12_built_44 (hS.has (a := 133) rfl rfl) hi1 ?_
    refine zr_iinc (v := (v4 + 1)) dX12_built_45 rfl rfl (Nat.le_of_ble_eq_true rfl) rfl ?_
    refine zr_goto (tgt := 29) dX12_built_48 (by decide) ?_
    exact k
set_option maxHeartbeats 2000000 in
theorem vX12_built_57 {G : Gp} {bc bs : Nat} {Q : zPost} {S : zSh} {I : zFI} {L : zFL} {v1 : Int32} {v2 : Int32} {v3 : Int32} {v4 : Int32} {v5 : Int32} (hS : zStd S)  (k : (((I 84 3) ≤ v5 → ((¬ v3 = (3 : Int32) → ZW G mX12_built fX12_built lX12_built 164 [zo G 84, .int v1, .int v2, .int v3, .int v4, .int (0 : Int32), .int (1 : Int32)] [] S I L bc bs Q) ∧ (v3 = (3 : Int32) → Q (some (.int v4)) S I L))) ∧ (¬ (I 84 3) ≤ v5 → vp_in v2 16 ∧ ((¬ (((I 125 v2.toNatClampNeg) >>> (v5 &&& 31)) &&& (1 : Int32)) = 0 → ZC G mX12_findDate fX12_findDate lX12_findDate [zo G 84, .int v1, .int v5] S I L 0 0 (fun w S' I1 L1 => w = none ∧ S = S' ∧ ((¬ (I1 84 75) = 0 → ZW G mX12_built fX12_built lX12_built 112 [zo G 84, .int v1, .int v2, .int v3, .int (v4 + (1 : Int32)), .int v5, .int (I1 84 76)] [] S I1 L1 bc bs Q) ∧ ((I1 84 75) = 0 → ZW G mX12_built fX12_built lX12_built 57 [zo G 84, .int v1, .int v2, .int v3, .int v4, .int (v5 + 1), .null] [] S I1 L1 bc bs Q)))) ∧ ((((I 125 v2.toNatClampNeg) >>> (v5 &&& 31)) &&& (1 : Int32)) = 0 → ZW G mX12_built fX12_built lX12_built 57 [zo G 84, .int v1, .int v2, .int v3, .int v4, .int (v5 + 1), .null] [] S I L bc bs Q))))) : ZW G mX12_built fX12_built lX12_built 57 [zo G 84, .int v1, .int v2, .int v3, .int v4, .int v5, .null] [] S I L bc bs Q := by
  refine zr_iload dX12_built_57 rfl ?_
  refine zr_aload_n dX12_built_59 rfl rfl ?_
  refine zr_getIv (x := (I 84 3)) dX12_built_60 zf_X12_191 rfl (hS.has (a := 84) rfl rfl) rfl ?_
  refine zr_icge (tgt := 150) dX12_built_63 (by decide) (fun hb => ?_) (fun hb => ?_)
  · have k := k.1 hb
    refine zr_iload_n dX12_built_150 rfl rfl ?_
    refine zr_iconst (v := 3) dX12_built_151 (by decide) ?_
    refine zr_icne (tgt := 158) dX12_built_152 (by decide) (fun hb => ?_) (fun hb => ?_)
    · have k := k.1 hb
      refine zr_iconst (v := 0) dX12_built_158 (by decide) ?_
      refine zr_istore dX12_built_159 (Nat.le_of_ble_eq_true rfl) rfl ?_
      refine zr_iconst (v := 1) dX12_built_161 (by decide) ?_
      refine zr_istore dX12_built_162 (Nat.le_of_ble_eq_true rfl) rfl ?_
      exact k
    · have k := k.2 hb
      refine zr_iload dX12_built_155 rfl ?_
      exact zr_ireturn dX12_built_157 rfl rfl k
  · have k := k.2 hb
    refine zr_aload_n dX12_built_66 rfl rfl ?_
    refine zr_getR dX12_built_67 zf_X12_144 rfl (hS.has (a := 84) rfl rfl) (hS.ref (a := 125) rfl) ?_
    refine zr_iload_n dX12_built_70 rfl rfl ?_
    obtain ⟨hi2, k⟩ := k
    refine zr_ialdv (x := (I 125 v2.toNatClampNeg)) dX12_built_71 (hS.has (a := 125) rfl rfl) hi2 rfl ?_
    refine zr_iload dX12_built_72 rfl ?_
    refine zr_ishr dX12_built_74 ?_
    refine zr_iconst (v := 1) dX12_built_75 (by decide) ?_
    refine zr_iand dX12_built_76 ?_
    refine zr_ifne (tgt := 83) dX12_built_77 (by decide) (fun hb => ?_) (fun hb => ?_)
    · have k := k.1 hb
      refine zr_aload_n dX12_built_83 rfl rfl ?_
      refine zr_iload_n dX12_built_84 rfl rfl ?_
      refine zr_iload dX12_built_85 rfl ?_
      refine zr_callV (As := [.int v1, .int v5]) (fr' := fX12_findDate) (lo' := lX12_findDate) (bc' := 0) (bs' := 0) (bcr := bc) (bsr := bs) dX12_built_87 zs_X12_412 zi_X12_findDate zcl_12 (hS.has (a := 84) rfl rfl) rfl rfl (Nat.le_of_ble_eq_true rfl) (Nat.le_of_ble_eq_true rfl) (Nat.le_of_ble_eq_true rfl) (Nat.le_refl _) (Nat.le_refl _) ?_
      refine ZC.mono (fun w S' I1 L1 k => ?_) k
      obtain ⟨rfl, rfl, k⟩ := k
      show ZW G mX12_built fX12_built lX12_built 90 [zo G 84, .int v1, .int v2, .int v3, .int v4, .int v5, .null] [] S I1 L1 bc bs Q
      refine zr_aload_n dX12_built_90 rfl rfl ?_
      refine zr_getIv (x := (I1 84 75)) dX12_built_91 zf_X12_399 rfl (hS.has (a := 84) rfl rfl) rfl ?_
      refine zr_ifne (tgt := 100) dX12_built_94 (by decide) (fun hb => ?_) (fun hb => ?_)
      · have k := k.1 hb
        refine zr_iload dX12_built_100 rfl ?_
        refine zr_iconst (v := 1) dX12_built_102 (by decide) ?_
        refine zr_iadd dX12_built_103 ?_
        refine zr_istore dX12_built_104 (Nat.le_of_ble_eq_true rfl) rfl ?_
        refine zr_aload_n dX12_built_106 rfl rfl ?_
        refine zr_getIv (x := (I1 84 76)) dX12_built_107 zf_X12_406 rfl (hS.has (a := 84) rfl rfl) rfl ?_
        refine zr_istore dX12_built_110 (Nat.le_of_ble_eq_true rfl) rfl ?_
        exact k
      · have k := k.2 hb
        refine zr_goto (tgt := 144) dX12_built_97 (by decide) ?_
        refine zr_iinc (v := (v5 + 1)) dX12_built_144 rfl rfl (Nat.le_of_ble_eq_true rfl) rfl ?_
        refine zr_goto (tgt := 57) dX12_built_147 (by decide) ?_
        exact k
    · have k := k.2 hb
      refine zr_goto (tgt := 144) dX12_built_80 (by decide) ?_
      refine zr_iinc (v := (v5 + 1)) dX12_built_144 rfl rfl (Nat.le_of_ble_eq_true rfl) rfl ?_
      refine zr_goto (tgt := 57) dX12_built_147 (by decide) ?_
      exact k
set_option maxHeartbeats 2000000 in
theorem vX12_built_112 {G : Gp} {bc bs : Nat} {Q : zPost} {S : zSh} {I : zFI} {L : zFL} {v1 : Int32} {v2 : Int32} {v3 : Int32} {v4 : Int32} {v5 : Int32} {v6 : Int32} (hS : zStd S)  (k : (vp_in (((50 : Int32) * v1) + (8 : Int32)) 150) ∧ (((p_X12_usedTo I v1) < v6 → ZW G mX12_built fX12_built lX12_built 57 [zo G 84, .int v1, .int v2, .int v3, .int v4, .int (v5 + 1), .null] [] S I L bc bs Q) ∧ (¬ (p_X12_usedTo I v1) < v6 → vp_in v6 1000 ∧ ZW G mX12_built fX12_built lX12_built 112 [zo G 84, .int v1, .int v2, .int v3, .int v4, .int v5, .int (v6 + 1)] [] S (u2 I 133 v6.toNatClampNeg ((I 133 v6.toNatClampNeg) + (1 : Int32))) L bc bs Q))) : ZW G mX12_built fX12_built lX12_built 112 [zo G 84, .int v1, .int v2, .int v3, .int v4, .int v5, .int v6] [] S I L bc bs Q := by
  refine zr_iload dX12_built_112 rfl ?_
  refine zr_aload_n dX12_built_114 rfl rfl ?_
  refine zr_iload_n dX12_built_115 rfl rfl ?_
  refine zr_callV (As := [.int v1]) (fr' := fX12_usedTo) (lo' := lX12_usedTo) (bc' := 0) (bs' := 0) (bcr := bc) (bsr := bs) dX12_built_116 zs_X12_415 zi_X12_usedTo zcl_12 (hS.has (a := 84) rfl rfl) rfl rfl (Nat.le_of_ble_eq_true rfl) (Nat.le_of_ble_eq_true rfl) (Nat.le_of_ble_eq_true rfl) (Nat.le_refl _) (Nat.le_refl _) ?_
  obtain ⟨hq0, k⟩ := k
  refine sp_X12_usedTo hS hq0 ?_
  show ZW G mX12_built fX12_built lX12_built 119 [zo G 84, .int v1, .int v2, .int v3, .int v4, .int v5, .int v6] [.int (p_X12_usedTo I v1), .int v6] S I L bc bs Q
  refine zr_icgt (tgt := 144) dX12_built_119 (by decide) (fun hb => ?_) (fun hb => ?_)
  · have k := k.1 hb
    refine zr_iinc (v := (v5 + 1)) dX12_built_144 rfl rfl (Nat.le_of_ble_eq_true rfl) rfl ?_
    refine zr_goto (tgt := 57) dX12_built_147 (by decide) ?_
    exact zr_mask [true, true, true, true, true, true, false] rfl k
  · have k := k.2 hb
    refine zr_aload_n dX12_built_122 rfl rfl ?_
    refine zr_getR dX12_built_123 zf_X12_170 rfl (hS.has (a := 84) rfl rfl) (hS.ref (a := 133) rfl) ?_
    refine zr_iload dX12_built_126 rfl ?_
    refine zr_aload_n dX12_built_128 rfl rfl ?_
    refine zr_getR dX12_built_129 zf_X12_170 rfl (hS.has (a := 84) rfl rfl) (hS.ref (a := 133) rfl) ?_
    refine zr_iload dX12_built_132 rfl ?_
    obtain ⟨hi3, k⟩ := k
    refine zr_ialdv (x := (I 133 v6.toNatClampNeg)) dX12_built_134 (hS.has (a := 133) rfl rfl) hi3 rfl ?_
    refine zr_iconst (v := 1) dX12_built_135 (by decide) ?_
    refine zr_iadd dX12_built_136 ?_
    refine zr_iast dX12_built_137 (hS.has (a := 133) rfl rfl) hi3 ?_
    refine zr_iinc (v := (v6 + 1)) dX12_built_138 rfl rfl (Nat.le_of_ble_eq_true rfl) rfl ?_
    refine zr_goto (tgt := 112) dX12_built_141 (by decide) ?_
    exact k
set_option maxHeartbeats 2000000 in
theorem vX12_built_164 {G : Gp} {bc bs : Nat} {Q : zPost} {S : zSh} {I : zFI} {L : zFL} {v1 : Int32} {v2 : Int32} {v3 : Int32} {v4 : Int32} {v5 : Int32} {v6 : Int32} (hS : zStd S)  (k : (((1000 : Int32) ≤ v6 → ((¬ v3 = (2 : Int32) → ((¬ v4 = 0 → ZW G mX12_built fX12_built lX12_built 226 [zo G 84, .int v1, .int v2, .int v3, .int v4, .int v5, .int v5] [] S I L bc bs Q) ∧ (v4 = 0 → Q (some (.int (-1 : Int32))) S I L))) ∧ (v3 = (2 : Int32) → vp_in v5 1000 ∧ Q (some (.int (v4 - (I 133 v5.toNatClampNeg)))) S I L))) ∧ (¬ (1000 : Int32) ≤ v6 → vp_in v6 1000 ∧ vp_in v5 1000 ∧ (((I 133 v6.toNatClampNeg) ≤ (I 133 v5.toNatClampNeg) → ZW G mX12_built fX12_built lX12_built 164 [zo G 84, .int v1, .int v2, .int v3, .int v4, .int v5, .int (v6 + 1)] [] S I L bc bs Q) ∧ (¬ (I 133 v6.toNatClampNeg) ≤ (I 133 v5.toNatClampNeg) → ZW G mX12_built fX12_built lX12_built 164 [zo G 84, .int v1, .int v2, .int v3, .int v4, .int v6, .int (v6 + 1)] [] S I L bc bs Q))))) : ZW G mX12_built fX12_built lX12_built 164 [zo G 84, .int v1, .int v2, .int v3, .int v4, .int v5, .int v6] [] S I L bc bs Q := by
  refine zr_iload dX12_built_164 rfl ?_
  refine zr_sipush (v := 1000) dX12_built_166 (by decide) ?_
  refine zr_icge (tgt := 199) dX12_built_169 (by decide) (fun hb => ?_) (fun hb => ?_)
  · have k := k.1 hb
    refine zr_iload_n dX12_built_199 rfl rfl ?_
    refine zr_iconst (v := 2) dX12_built_200 (by decide) ?_
    refine zr_icne (tgt := 215) dX12_built_201 (by decide) (fun hb => ?_) (fun hb => ?_)
    · have k := k.1 hb
      refine zr_iload dX12_built_215 rfl ?_
      refine zr_ifne (tgt := 222) dX12_built_217 (by decide) (fun hb => ?_) (fun hb => ?_)
      · have k := k.1 hb
        refine zr_iload dX12_built_222 rfl ?_
        refine zr_istore dX12_built_224 (Nat.le_of_ble_eq_true rfl) rfl ?_
        exact k
      · have k := k.2 hb
        refine zr_iconst (v := -1) dX12_built_220 (by decide) ?_
        exact zr_ireturn dX12_built_221 rfl rfl k
    · have k := k.2 hb
      refine zr_iload dX12_built_204 rfl ?_
      refine zr_aload_n dX12_built_206 rfl rfl ?_
      refine zr_getR dX12_built_207 zf_X12_170 rfl (hS.has (a := 84) rfl rfl) (hS.ref (a := 133) rfl) ?_
      refine zr_iload dX12_built_210 rfl ?_
      obtain ⟨hi4, k⟩ := k
      refine zr_ialdv (x := (I 133 v5.toNatClampNeg)) dX12_built_212 (hS.has (a := 133) rfl rfl) hi4 rfl ?_
      refine zr_isub dX12_built_213 ?_
      exact zr_ireturn dX12_built_214 rfl rfl k
  · have k := k.2 hb
    refine zr_aload_n dX12_built_172 rfl rfl ?_
    refine zr_getR dX12_built_173 zf_X12_170 rfl (hS.has (a := 84) rfl rfl) (hS.ref (a := 133) rfl) ?_
    refine zr_iload dX12_built_176 rfl ?_
    obtain ⟨hi5, k⟩ := k
    refine zr_ialdv (x := (I 133 v6.toNatClampNeg)) dX12_built_178 (hS.has (a := 133) rfl rfl) hi5 rfl ?_
    refine zr_aload_n dX12_built_179 rfl rfl ?_
    refine zr_getR dX12_built_180 zf_X12_170 rfl (hS.has (a := 84) rfl rfl) (hS.ref (a := 133) rfl) ?_
    refine zr_iload dX12_built_183 rfl ?_
    obtain ⟨hi6, k⟩ := k
    refine zr_ialdv (x := (I 133 v5.toNatClampNeg)) dX12_built_185 (hS.has (a := 133) rfl rfl) hi6 rfl ?_
    refine zr_icle (tgt := 193) dX12_built_186 (by decide) (fun hb => ?_) (fun hb => ?_)
    · have k := k.1 hb
      refine zr_iinc (v := (v6 + 1)) dX12_built_193 rfl rfl (Nat.le_of_ble_eq_true rfl) rfl ?_
      refine zr_goto (tgt := 164) dX12_built_196 (by decide) ?_
      exact k
    · have k := k.2 hb
      refine zr_iload dX12_built_189 rfl ?_
      refine zr_istore dX12_built_191 (Nat.le_of_ble_eq_true rfl) rfl ?_
      refine zr_iinc (v := (v6 + 1)) dX12_built_193 rfl rfl (Nat.le_of_ble_eq_true rfl) rfl ?_
      refine zr_goto (tgt := 164) dX12_built_196 (by decide) ?_
      exact k
set_option maxHeartbeats 2000000 in
theorem vX12_built_226 {G : Gp} {bc bs : Nat} {Q : zPost} {S : zSh} {I : zFI} {L : zFL} {v1 : Int32} {v2 : Int32} {v3 : Int32} {v4 : Int32} {v5 : Int32} {v6 : Int32} (hS : zStd S)  (k : (((999 : Int32) ≤ v6 → ((¬ v3 = 0 → Q (some (.int v6)) S I L) ∧ (v3 = 0 → Q (some (.int v5)) S I L))) ∧ (¬ (999 : Int32) ≤ v6 → vp_in (v6 + (1 : Int32)) 1000 ∧ vp_in v5 1000 ∧ ((¬ (I 133 (v6 + (1 : Int32)).toNatClampNeg) = (I 133 v5.toNatClampNeg) → ((¬ v3 = 0 → Q (some (.int v6)) S I L) ∧ (v3 = 0 → Q (some (.int v5)) S I L))) ∧ ((I 133 (v6 + (1 : Int32)).toNatClampNeg) = (I 133 v5.toNatClampNeg) → ZW G mX12_built fX12_built lX12_built 226 [zo G 84, .int v1, .int v2, .int v3, .int v4, .int v5, .int (v6 + (1 : Int32))] [] S I L bc bs Q))))) : ZW G mX12_built fX12_built lX12_built 226 [zo G 84, .int v1, .int v2, .int v3, .int v4, .int v5, .int v6] [] S I L bc bs Q := by
  refine zr_iload dX12_built_226 rfl ?_
  refine zr_sipush (v := 999) dX12_built_228 (by decide) ?_
  refine zr_icge (tgt := 262) dX12_built_231 (by decide) (fun hb => ?_) (fun hb => ?_)
  · have k := k.1 hb
    refine zr_iload_n dX12_built_262 rfl rfl ?_
    refine zr_ifne (tgt := 271) dX12_built_263 (by decide) (fun hb => ?_) (fun hb => ?_)
    · have k := k.1 hb
      refine zr_iload dX12_built_271 rfl ?_
      exact zr_ireturn dX12_built_273 rfl rfl k
    · have k := k.2 hb
      refine zr_iload dX12_built_266 rfl ?_
      refine zr_goto (tgt := 273) dX12_built_268 (by decide) ?_
      exact zr_ireturn dX12_built_273 rfl rfl k
  · have k := k.2 hb
    refine zr_aload_n dX12_built_234 rfl rfl ?_
    refine zr_getR dX12_built_235 zf_X12_170 rfl (hS.has (a := 84) rfl rfl) (hS.ref (a := 133) rfl) ?_
    refine zr_iload dX12_built_238 rfl ?_
    refine zr_iconst (v := 1) dX12_built_240 (by decide) ?_
    refine zr_iadd dX12_built_241 ?_
    obtain ⟨hi7, k⟩ := k
    refine zr_ialdv (x := (I 133 (v6 + (1 : Int32)).toNatClampNeg)) dX12_built_242 (hS.has (a := 133) rfl rfl) hi7 rfl ?_
    refine zr_aload_n dX12_built_243 rfl rfl ?_
    refine zr_getR dX12_built_244 zf_X12_170 rfl (hS.has (a := 84) rfl rfl) (hS.ref (a := 133) rfl) ?_
    refine zr_iload dX12_built_247 rfl ?_
    obtain ⟨hi8, k⟩ := k
    refine zr_ialdv (x := (I 133 v5.toNatClampNeg)) dX12_built_249 (hS.has (a := 133) rfl rfl) hi8 rfl ?_
    refine zr_icne (tgt := 262) dX12_built_250 (by decide) (fun hb => ?_) (fun hb => ?_)
    · have k := k.1 hb
      refine zr_iload_n dX12_built_262 rfl rfl ?_
      refine zr_ifne (tgt := 271) dX12_built_263 (by decide) (fun hb => ?_) (fun hb => ?_)
      · have k := k.1 hb
        refine zr_iload dX12_built_271 rfl ?_
        exact zr_ireturn dX12_built_273 rfl rfl k
      · have k := k.2 hb
        refine zr_iload dX12_built_266 rfl ?_
        refine zr_goto (tgt := 273) dX12_built_268 (by decide) ?_
        exact zr_ireturn dX12_built_273 rfl rfl k
    · have k := k.2 hb
      refine zr_iload dX12_built_253 rfl ?_
      refine zr_iconst (v := 1) dX12_built_255 (by decide) ?_
      refine zr_iadd dX12_built_256 ?_
      refine zr_istore dX12_built_257 (Nat.le_of_ble_eq_true rfl) rfl ?_
      refine zr_goto (tgt := 226) dX12_built_259 (by decide) ?_
      exact k
set_option maxHeartbeats 2000000 in
theorem vX12_lean_0 {G : Gp} {bc bs : Nat} {Q : zPost} {S : zSh} {I : zFI} {L : zFL} {v1 : Int32} {v2 : Int32} {v3 : Int32} (hS : zStd S)  (k : (((p_X12_isIn v1 (0 : Int32) ((I 84 3) - (1 : Int32))) = 0 → Q (some (.int (0 : Int32))) S (u2 I 84 0 (0 : Int32)) L) ∧ (¬ (p_X12_isIn v1 (0 : Int32) ((I 84 3) - (1 : Int32))) = 0 → (((p_X12_isIn v2 (0 : Int32) (999 : Int32)) = 0 → Q (some (.int (0 : Int32))) S (u2 I 84 0 (0 : Int32)) L) ∧ (¬ (p_X12_isIn v2 (0 : Int32) (999 : Int32)) = 0 → (((p_X12_isIn v3 (-99 : Int32) (99 : Int32)) = 0 → Q (some (.int (0 : Int32))) S (u2 I 84 0 (0 : Int32)) L) ∧ (¬ (p_X12_isIn v3 (-99 : Int32) (99 : Int32)) = 0 → ((¬ (I 84 79) = (60 : Int32) → vp_in (I 84 79) 60 ∧ Q (some (.int (1 : Int32))) S (u2 (u2 (u2 (u2 (u2 (u2 I 84 0 (0 : Int32)) 134 (I 84 79).toNatClampNeg v1) 135 (I 84 79).toNatClampNeg v2) 136 (I 84 79).toNatClampNeg v3) 137 (I 84 79).toNatClampNeg (I 84 1)) 84 79 ((I 84 79) + (1 : Int32))) L) ∧ ((I 84 79) = (60 : Int32) → Q (some (.int (0 : Int32))) S (u2 I 84 0 (0 : Int32)) L))))))))) : ZW G mX12_lean fX12_lean lX12_lean 0 [zo G 84, .int v1, .int v2, .int v3] [] S I L bc bs Q := by
  refine zr_aload_n dX12_lean_0 rfl rfl ?_
  refine zr_iconst (v := 0) dX12_lean_1 (by decide) ?_
  refine zr_putI dX12_lean_2 zf_X12_188 rfl (hS.has (a := 84) rfl rfl) rfl rfl ?_
  refine zr_aload_n dX12_lean_5 rfl rfl ?_
  refine zr_iload_n dX12_lean_6 rfl rfl ?_
  refine zr_iconst (v := 0) dX12_lean_7 (by decide) ?_
  refine zr_aload_n dX12_lean_8 rfl rfl ?_
  refine zr_getIv (x := (I 84 3)) dX12_lean_9 zf_X12_191 rfl (hS.has (a := 84) rfl rfl) rfl ?_
  refine zr_iconst (v := 1) dX12_lean_12 (by decide) ?_
  refine zr_isub dX12_lean_13 ?_
  refine zr_callV (As := [.int v1, .int (0 : Int32), .int ((I 84 3) - (1 : Int32))]) (fr' := fX12_isIn) (lo' := lX12_isIn) (bc' := 0) (bs' := 0) (bcr := bc) (bsr := bs) dX12_lean_14 zs_X12_201 zi_X12_isIn zcl_12 (hS.has (a := 84) rfl rfl) rfl rfl (Nat.le_of_ble_eq_true rfl) (Nat.le_of_ble_eq_true rfl) (Nat.le_of_ble_eq_true rfl) (Nat.le_refl _) (Nat.le_refl _) ?_
  refine sp_X12_isIn hS  ?_
  show ZW G mX12_lean fX12_lean lX12_lean 17 [zo G 84, .int v1, .int v2, .int v3] [.int (p_X12_isIn v1 (0 : Int32) ((I 84 3) - (1 : Int32)))] S (u2 I 84 0 (0 : Int32)) L bc bs Q
  refine zr_ifeq (tgt := 53) dX12_lean_17 (by decide) (fun hb => ?_) (fun hb => ?_)
  · have k := k.1 hb
    refine zr_iconst (v := 0) dX12_lean_53 (by decide) ?_
    exact zr_ireturn dX12_lean_54 rfl rfl k
  · have k := k.2 hb
    refine zr_aload_n dX12_lean_20 rfl rfl ?_
    refine zr_iload_n dX12_lean_21 rfl rfl ?_
    refine zr_iconst (v := 0) dX12_lean_22 (by decide) ?_
    refine zr_sipush (v := 999) dX12_lean_23 (by decide) ?_
    refine zr_callV (As := [.int v2, .int (0 : Int32), .int (999 : Int32)]) (fr' := fX12_isIn) (lo' := lX12_isIn) (bc' := 0) (bs' := 0) (bcr := bc) (bsr := bs) dX12_lean_26 zs_X12_201 zi_X12_isIn zcl_12 (hS.has (a := 84) rfl rfl) rfl rfl (Nat.le_of_ble_eq_true rfl) (Nat.le_of_ble_eq_true rfl) (Nat.le_of_ble_eq_true rfl) (Nat.le_refl _) (Nat.le_refl _) ?_
    refine sp_X12_isIn hS  ?_
    show ZW G mX12_lean fX12_lean lX12_lean 29 [zo G 84, .int v1, .int v2, .int v3] [.int (p_X12_isIn v2 (0 : Int32) (999 : Int32))] S (u2 I 84 0 (0 : Int32)) L bc bs Q
    refine zr_ifeq (tgt := 53) dX12_lean_29 (by decide) (fun hb => ?_) (fun hb => ?_)
    · have k := k.1 hb
      refine zr_iconst (v := 0) dX12_lean_53 (by decide) ?_
      exact zr_ireturn dX12_lean_54 rfl rfl k
    · have k := k.2 hb
      refine zr_aload_n dX12_lean_32 rfl rfl ?_
      refine zr_iload_n dX12_lean_33 rfl rfl ?_
      refine zr_bipush (v := -99) dX12_lean_34 (by decide) ?_
      refine zr_bipush (v := 99) dX12_lean_36 (by decide) ?_
      refine zr_callV (As := [.int v3, .int (-99 : Int32), .int (99 : Int32)]) (fr' := fX12_isIn) (lo' := lX12_isIn) (bc' := 0) (bs' := 0) (bcr := bc) (bsr := bs) dX12_lean_38 zs_X12_201 zi_X12_isIn zcl_12 (hS.has (a := 84) rfl rfl) rfl rfl (Nat.le_of_ble_eq_true rfl) (Nat.le_of_ble_eq_true rfl) (Nat.le_of_ble_eq_true rfl) (Nat.le_refl _) (Nat.le_refl _) ?_
      refine sp_X12_isIn hS  ?_
      show ZW G mX12_lean fX12_lean lX12_lean 41 [zo G 84, .int v1, .int v2, .int v3] [.int (p_X12_isIn v3 (-99 : Int32) (99 : Int32))] S (u2 I 84 0 (0 : Int32)) L bc bs Q
      refine zr_ifeq (tgt := 53) dX12_lean_41 (by decide) (fun hb => ?_) (fun hb => ?_)
      · have k := k.1 hb
        refine zr_iconst (v := 0) dX12_lean_53 (by decide) ?_
        exact zr_ireturn dX12_lean_54 rfl rfl k
      · have k := k.2 hb
        refine zr_aload_n dX12_lean_44 rfl rfl ?_
        refine zr_getIv (x := (I 84 79)) dX12_lean_45 zf_X12_418 rfl (hS.has (a := 84) rfl rfl) rfl ?_
        refine zr_bipush (v := 60) dX12_lean_48 (by decide) ?_
        refine zr_icne (tgt := 55) dX12_lean_50 (by decide) (fun hb => ?_) (fun hb => ?_)
        · have k := k.1 hb
          refine zr_aload_n dX12_lean_55 rfl rfl ?_
          refine zr_getR dX12_lean_56 zf_X12_173 rfl (hS.has (a := 84) rfl rfl) (hS.ref (a := 134) rfl) ?_
          refine zr_aload_n dX12_lean_59 rfl rfl ?_
          refine zr_getIv (x := (I 84 79)) dX12_lean_60 zf_X12_418 rfl (hS.has (a := 84) rfl rfl) rfl ?_
          refine zr_iload_n dX12_lean_63 rfl rfl ?_
          obtain ⟨hi1, k⟩ := k
          refine zr_iast dX12_lean_64 (hS.has (a := 134) rfl rfl) hi1 ?_
          refine zr_aload_n dX12_lean_65 rfl rfl ?_
          refine zr_getR dX12_lean_66 zf_X12_176 rfl (hS.has (a := 84) rfl rfl) (hS.ref (a := 135) rfl) ?_
          refine zr_aload_n dX12_lean_69 rfl rfl ?_
          refine zr_getIv (x := (I 84 79)) dX12_lean_70 zf_X12_418 rfl (hS.has (a := 84) rfl rfl) rfl ?_
          refine zr_iload_n dX12_lean_73 rfl rfl ?_
          refine zr_iast dX12_lean_74 (hS.has (a := 135) rfl rfl) hi1 ?_
          refine zr_aload_n dX12_lean_75 rfl rfl ?_
          refine zr_getR dX12_lean_76 zf_X12_179 rfl (hS.has (a := 84) rfl rfl) (hS.ref (a := 136) rfl) ?_
          refine zr_aload_n dX12_lean_79 rfl rfl ?_
          refine zr_getIv (x := (I 84 79)) dX12_lean_80 zf_X12_418 rfl (hS.has (a := 84) rfl rfl) rfl ?_
          refine zr_iload_n dX12_lean_83 rfl rfl ?_
          refine zr_iast dX12_lean_84 (hS.has (a := 136) rfl rfl) hi1 ?_
          refine zr_aload_n dX12_lean_85 rfl rfl ?_
          refine zr_getR dX12_lean_86 zf_X12_182 rfl (hS.has (a := 84) rfl rfl) (hS.ref (a := 137) rfl) ?_
          refine zr_aload_n dX12_lean_89 rfl rfl ?_
          refine zr_getIv (x := (I 84 79)) dX12_lean_90 zf_X12_418 rfl (hS.has (a := 84) rfl rfl) rfl ?_
          refine zr_aload_n dX12_lean_93 rfl rfl ?_
          refine zr_getIv (x := (I 84 1)) dX12_lean_94 zf_X12_205 rfl (hS.has (a := 84) rfl rfl) rfl ?_
          refine zr_iast dX12_lean_97 (hS.has (a := 137) rfl rfl) hi1 ?_
          refine zr_aload_n dX12_lean_98 rfl rfl ?_
          refine zr_aload_n dX12_lean_99 rfl rfl ?_
          refine zr_getIv (x := (I 84 79)) dX12_lean_100 zf_X12_418 rfl (hS.has (a := 84) rfl rfl) rfl ?_
          refine zr_iconst (v := 1) dX12_lean_103 (by decide) ?_
          refine zr_iadd dX12_lean_104 ?_
          refine zr_putI dX12_lean_105 zf_X12_418 rfl (hS.has (a := 84) rfl rfl) rfl rfl ?_
          refine zr_iconst (v := 1) dX12_lean_108 (by decide) ?_
          exact zr_ireturn dX12_lean_109 rfl rfl k
        · have k := k.2 hb
          refine zr_iconst (v := 0) dX12_lean_53 (by decide) ?_
          exact zr_ireturn dX12_lean_54 rfl rfl k
set_option maxHeartbeats 2000000 in
theorem vX12_counts_0 {G : Gp} {bc bs : Nat} {Q : zPost} {S : zSh} {I : zFI} {L : zFL} {v1 : Int32} {v2 : Int32} (hS : zStd S)  (k : vp_in v1 60 ∧ ((¬ (I 134 v1.toNatClampNeg) = v2 → Q (some (.int (0 : Int32))) S I L) ∧ ((I 134 v1.toNatClampNeg) = v2 → (((p_X12_isSeen I (I 137 v1.toNatClampNeg)) = 0 → Q (some (.int (0 : Int32))) S I L) ∧ (¬ (p_X12_isSeen I (I 137 v1.toNatClampNeg)) = 0 → Q (some (.int (1 : Int32))) S I L))))) : ZW G mX12_counts fX12_counts lX12_counts 0 [zo G 84, .int v1, .int v2] [] S I L bc bs Q := by
  refine zr_aload_n dX12_counts_0 rfl rfl ?_
  refine zr_getR dX12_counts_1 zf_X12_173 rfl (hS.has (a := 84) rfl rfl) (hS.ref (a := 134) rfl) ?_
  refine zr_iload_n dX12_counts_4 rfl rfl ?_
  obtain ⟨hi1, k⟩ := k
  refine zr_ialdv (x := (I 134 v1.toNatClampNeg)) dX12_counts_5 (hS.has (a := 134) rfl rfl) hi1 rfl ?_
  refine zr_iload_n dX12_counts_6 rfl rfl ?_
  refine zr_icne (tgt := 27) dX12_counts_7 (by decide) (fun hb => ?_) (fun hb => ?_)
  · have k := k.1 hb
    refine zr_iconst (v := 0) dX12_counts_27 (by decide) ?_
    exact zr_ireturn dX12_counts_28 rfl rfl k
  · have k := k.2 hb
    refine zr_aload_n dX12_counts_10 rfl rfl ?_
    refine zr_aload_n dX12_counts_11 rfl rfl ?_
    refine zr_getR dX12_counts_12 zf_X12_182 rfl (hS.has (a := 84) rfl rfl) (hS.ref (a := 137) rfl) ?_
    refine zr_iload_n dX12_counts_15 rfl rfl ?_
    refine zr_ialdv (x := (I 137 v1.toNatClampNeg)) dX12_counts_16 (hS.has (a := 137) rfl rfl) hi1 rfl ?_
    refine zr_callV (As := [.int (I 137 v1.toNatClampNeg)]) (fr' := fX12_isSeen) (lo' := lX12_isSeen) (bc' := 0) (bs' := 0) (bcr := bc) (bsr := bs) dX12_counts_17 zs_X12_194 zi_X12_isSeen zcl_12 (hS.has (a := 84) rfl rfl) rfl rfl (Nat.le_of_ble_eq_true rfl) (Nat.le_of_ble_eq_true rfl) (Nat.le_of_ble_eq_true rfl) (Nat.le_refl _) (Nat.le_refl _) ?_
    refine sp_X12_isSeen hS  ?_
    show ZW G mX12_counts fX12_counts lX12_counts 20 [zo G 84, .int v1, .int v2] [.int (p_X12_isSeen I (I 137 v1.toNatClampNeg))] S I L bc bs Q
    refine zr_ifeq (tgt := 27) dX12_counts_20 (by decide) (fun hb => ?_) (fun hb => ?_)
    · have k := k.1 hb
      refine zr_iconst (v := 0) dX12_counts_27 (by decide) ?_
      exact zr_ireturn dX12_counts_28 rfl rfl k
    · have k := k.2 hb
      refine zr_iconst (v := 1) dX12_counts_23 (by decide) ?_
      refine zr_goto (tgt := 28) dX12_counts_24 (by decide) ?_
      exact zr_ireturn dX12_counts_28 rfl rfl k
def p_X12_counts (I : zFI) (v1 : Int32) (v2 : Int32) : Int32 := (if (I 134 v1.toNatClampNeg) = v2 then (if (p_X12_isSeen I (I 137 v1.toNatClampNeg)) = 0 then (0 : Int32) else (1 : Int32)) else (0 : Int32))
set_option maxHeartbeats 2000000 in
theorem sp_X12_counts {G : Gp} {Q : zPost} {S : zSh} {I : zFI} {L : zFL} {v1 : Int32} {v2 : Int32} (hS : zStd S)  (hv0 : vp_in v1 60) (h : Q (some (.int (p_X12_counts I v1 v2))) S I L) : ZC G mX12_counts fX12_counts lX12_counts [zo G 84, .int v1, .int v2] S I L 0 0 Q := by
  refine ZC.of' (vX12_counts_0 hS  ?_) rfl (Nat.le_of_ble_eq_true rfl) rfl
  unfold p_X12_counts at h
  refine ⟨hv0 , ?_⟩
  refine ⟨fun hb1 => ?_, fun hb1 => ?_⟩
  · rw [if_neg hb1] at h
    exact h
  · rw [if_pos hb1] at h
    refine ⟨fun hb2 => ?_, fun hb2 => ?_⟩
    · rw [if_pos hb2] at h
      exact h
    · rw [if_neg hb2] at h
      exact h
theorem pb_X12_counts (I : zFI) (v1 : Int32) (v2 : Int32) : p_X12_counts I v1 v2 = 0 ∨ p_X12_counts I v1 v2 = 1 := by
  unfold p_X12_counts
  repeat' split
  all_goals first | exact Or.inl rfl | exact Or.inr rfl | exact pb_X12_isSeen _ _
set_option maxHeartbeats 2000000 in
theorem vX12_findLeans_0 {G : Gp} {bc bs : Nat} {Q : zPost} {S : zSh} {I : zFI} {L : zFL} {v1 : Int32} (hS : zStd S)  (k : ZW G mX12_findLeans fX12_findLeans lX12_findLeans 7 [zo G 84, .int v1, .int (0 : Int32), .null, .null] [] S (u2 I 84 84 (0 : Int32)) L bc bs Q) : ZW G mX12_findLeans fX12_findLeans lX12_findLeans 0 [zo G 84, .int v1, .null, .null, .null] [] S I L bc bs Q := by
  refine zr_aload_n dX12_findLeans_0 rfl rfl ?_
  refine zr_iconst (v := 0) dX12_findLeans_1 (by decide) ?_
  refine zr_putI dX12_findLeans_2 zf_X12_421 rfl (hS.has (a := 84) rfl rfl) rfl rfl ?_
  refine zr_iconst (v := 0) dX12_findLeans_5 (by decide) ?_
  refine zr_istore_n dX12_findLeans_6 rfl (Nat.le_of_ble_eq_true rfl) rfl ?_
  exact k
set_option maxHeartbeats 2000000 in
theorem vX12_findLeans_7 {G : Gp} {bc bs : Nat} {Q : zPost} {S : zSh} {I : zFI} {L : zFL} {v1 : Int32} {v2 : Int32} (hS : zStd S)  (k : (((I 84 79) ≤ v2 → Q none S I L) ∧ (¬ (I 84 79) ≤ v2 → (vp_in v2 60) ∧ ((¬ (p_X12_counts I v2 v1) = 0 → ZW G mX12_findLeans fX12_findLeans lX12_findLeans 34 [zo G 84, .int v1, .int v2, .int (1 : Int32), .int (v2 + (1 : Int32))] [] S I L bc bs Q) ∧ ((p_X12_counts I v2 v1) = 0 → ZW G mX12_findLeans fX12_findLeans lX12_findLeans 7 [zo G 84, .int v1, .int (v2 + 1), .null, .null] [] S I L bc bs Q))))) : ZW G mX12_findLeans fX12_findLeans lX12_findLeans 7 [zo G 84, .int v1, .int v2, .null, .null] [] S I L bc bs Q := by
  refine zr_iload_n dX12_findLeans_7 rfl rfl ?_
  refine zr_aload_n dX12_findLeans_8 rfl rfl ?_
  refine zr_getIv (x := (I 84 79)) dX12_findLeans_9 zf_X12_418 rfl (hS.has (a := 84) rfl rfl) rfl ?_
  refine zr_icge (tgt := 188) dX12_findLeans_12 (by decide) (fun hb => ?_) (fun hb => ?_)
  · have k := k.1 hb
    exact zr_return_ dX12_findLeans_188 rfl k
  · have k := k.2 hb
    refine zr_aload_n dX12_findLeans_15 rfl rfl ?_
    refine zr_iload_n dX12_findLeans_16 rfl rfl ?_
    refine zr_iload_n dX12_findLeans_17 rfl rfl ?_
    refine zr_callV (As := [.int v2, .int v1]) (fr' := fX12_counts) (lo' := lX12_counts) (bc' := 0) (bs' := 0) (bcr := bc) (bsr := bs) dX12_findLeans_18 zs_X12_424 zi_X12_counts zcl_12 (hS.has (a := 84) rfl rfl) rfl rfl (Nat.le_of_ble_eq_true rfl) (Nat.le_of_ble_eq_true rfl) (Nat.le_of_ble_eq_true rfl) (Nat.le_refl _) (Nat.le_refl _) ?_
    obtain ⟨hq0, k⟩ := k
    refine sp_X12_counts hS hq0 ?_
    show ZW G mX12_findLeans fX12_findLeans lX12_findLeans 21 [zo G 84, .int v1, .int v2, .null, .null] [.int (p_X12_counts I v2 v1)] S I L bc bs Q
    refine zr_ifne (tgt := 27) dX12_findLeans_21 (by decide) (fun hb => ?_) (fun hb => ?_)
    · have k := k.1 hb
      refine zr_iconst (v := 1) dX12_findLeans_27 (by decide) ?_
      refine zr_istore_n dX12_findLeans_28 rfl (Nat.le_of_ble_eq_true rfl) rfl ?_
      refine zr_iload_n dX12_findLeans_29 rfl rfl ?_
      refine zr_iconst (v := 1) dX12_findLeans_30 (by decide) ?_
      refine zr_iadd dX12_findLeans_31 ?_
      refine zr_istore dX12_findLeans_32 (Nat.le_of_ble_eq_true rfl) rfl ?_
      exact k
    · have k := k.2 hb
      refine zr_goto (tgt := 182) dX12_findLeans_24 (by decide) ?_
      refine zr_iinc (v := (v2 + 1)) dX12_findLeans_182 rfl rfl (Nat.le_of_ble_eq_true rfl) rfl ?_
      refine zr_goto (tgt := 7) dX12_findLeans_185 (by decide) ?_
      exact k
set_option maxHeartbeats 2000000 in
theorem vX12_findLeans_34 {G : Gp} {bc bs : Nat} {Q : zPost} {S : zSh} {I : zFI} {L : zFL} {v1 : Int32} {v2 : Int32} {v3 : Int32} {v4 : Int32} (hS : zStd S)  (k : (((I 84 79) ≤ v4 → ((¬ v3 = 0 → (((I 84 84) = 0 → vp_in v2 60 ∧ (((I 84 84) = 0 → ZW G mX12_findLeans fX12_findLeans lX12_findLeans 7 [zo G 84, .int v1, .int (v2 + 1), .null, .null] [] S (u2 (u2 (u2 (u2 (u2 I 84 85 (I 135 v2.toNatClampNeg)) 84 87 (I 136 v2.toNatClampNeg)) 84 86 (I 135 v2.toNatClampNeg)) 84 88 (I 136 v2.toNatClampNeg)) 84 84 ((I 84 84) + (1 : Int32))) L bc bs Q) ∧ (¬ (I 84 84) = 0 → (((I 135 v2.toNatClampNeg) ≤ (I 84 86) → ZW G mX12_findLeans fX12_findLeans lX12_findLeans 7 [zo G 84, .int v1, .int (v2 + 1), .null, .null] [] S (u2 (u2 (u2 I 84 85 (I 135 v2.toNatClampNeg)) 84 87 (I 136 v2.toNatClampNeg)) 84 84 ((I 84 84) + (1 : Int32))) L bc bs Q) ∧ (¬ (I 135 v2.toNatClampNeg) ≤ (I 84 86) → ZW G mX12_findLeans fX12_findLeans lX12_findLeans 7 [zo G 84, .int v1, .int (v2 + 1), .null, .null] [] S (u2 (u2 (u2 (u2 (u2 I 84 85 (I 135 v2.toNatClampNeg)) 84 87 (I 136 v2.toNatClampNeg)) 84 86 (I 135 v2.toNatClampNeg)) 84 88 (I 136 v2.toNatClampNeg)) 84 84 ((I 84 84) + (1 : Int32))) L bc bs Q))))) ∧ (¬ (I 84 84) = 0 → vp_in v2 60 ∧ (((I 84 85) ≤ (I 135 v2.toNatClampNeg) → (((I 84 84) = 0 → ZW G mX12_findLeans fX12_findLeans lX12_findLeans 7 [zo G 84, .int v1, .int (v2 + 1), .null, .null] [] S (u2 (u2 (u2 I 84 86 (I 135 v2.toNatClampNeg)) 84 88 (I 136 v2.toNatClampNeg)) 84 84 ((I 84 84) + (1 : Int32))) L bc bs Q) ∧ (¬ (I 84 84) = 0 → (((I 135 v2.toNatClampNeg) ≤ (I 84 86) → ZW G mX12_findLeans fX12_findLeans lX12_findLeans 7 [zo G 84, .int v1, .int (v2 + 1), .null, .null] [] S (u2 I 84 84 ((I 84 84) + (1 : Int32))) L bc bs Q) ∧ (¬ (I 135 v2.toNatClampNeg) ≤ (I 84 86) → ZW G mX12_findLeans fX12_findLeans lX12_findLeans 7 [zo G 84, .int v1, .int (v2 + 1), .null, .null] [] S (u2 (u2 (u2 I 84 86 (I 135 v2.toNatClampNeg)) 84 88 (I 136 v2.toNatClampNeg)) 84 84 ((I 84 84) + (1 : Int32))) L bc bs Q))))) ∧ (¬ (I 84 85) ≤ (I 135 v2.toNatClampNeg) → (((I 84 84) = 0 → ZW G mX12_findLeans fX12_findLeans lX12_findLeans 7 [zo G 84, .int v1, .int (v2 + 1), .null, .null] [] S (u2 (u2 (u2 (u2 (u2 I 84 85 (I 135 v2.toNatClampNeg)) 84 87 (I 136 v2.toNatClampNeg)) 84 86 (I 135 v2.toNatClampNeg)) 84 88 (I 136 v2.toNatClampNeg)) 84 84 ((I 84 84) + (1 : Int32))) L bc bs Q) ∧ (¬ (I 84 84) = 0 → (((I 135 v2.toNatClampNeg) ≤ (I 84 86) → ZW G mX12_findLeans fX12_findLeans lX12_findLeans 7 [zo G 84, .int v1, .int (v2 + 1), .null, .null] [] S (u2 (u2 (u2 I 84 85 (I 135 v2.toNatClampNeg)) 84 87 (I 136 v2.toNatClampNeg)) 84 84 ((I 84 84) + (1 : Int32))) L bc bs Q) ∧ (¬ (I 135 v2.toNatClampNeg) ≤ (I 84 86) → ZW G mX12_findLeans fX12_findLeans lX12_findLeans 7 [zo G 84, .int v1, .int (v2 + 1), .null, .null] [] S (u2 (u2 (u2 (u2 (u2 I 84 85 (I 135 v2.toNatClampNeg)) 84 87 (I 136 v2.toNatClampNeg)) 84 86 (I 135 v2.toNatClampNeg)) 84 88 (I 136 v2.toNatClampNeg)) 84 84 ((I 84 84) + (1 : Int32))) L bc bs Q))))))))) ∧ (v3 = 0 → ZW G mX12_findLeans fX12_findLeans lX12_findLeans 7 [zo G 84, .int v1, .int (v2 + 1), .null, .null] [] S I L bc bs Q))) ∧ (¬ (I 84 79) ≤ v4 → ((v3 = 0 → ZW G mX12_findLeans fX12_findLeans lX12_findLeans 34 [zo G 84, .int v1, .int v2, .int (0 : Int32), .int (v4 + 1)] [] S I L bc bs Q) ∧ (¬ v3 = 0 → (vp_in v4 60) ∧ (((p_X12_counts I v4 v1) = 0 → ZW G mX12_findLeans fX12_findLeans lX12_findLeans 34 [zo G 84, .int v1, .int v2, .int (1 : Int32), .int (v4 + 1)] [] S I L bc bs Q) ∧ (¬ (p_X12_counts I v4 v1) = 0 → vp_in v4 60 ∧ vp_in v2 60 ∧ (((I 135 v4.toNatClampNeg) = (I 135 v2.toNatClampNeg) → ZW G mX12_findLeans fX12_findLeans lX12_findLeans 34 [zo G 84, .int v1, .int v2, .int (0 : Int32), .int (v4 + 1)] [] S I L bc bs Q) ∧ (¬ (I 135 v4.toNatClampNeg) = (I 135 v2.toNatClampNeg) → ZW G mX12_findLeans fX12_findLeans lX12_findLeans 34 [zo G 84, .int v1, .int v2, .int (1 : Int32), .int (v4 + 1)] [] S I L bc bs Q))))))))) : ZW G mX12_findLeans fX12_findLeans lX12_findLeans 34 [zo G 84, .int v1, .int v2, .int v3, .int v4] [] S I L bc bs Q := by
  refine zr_iload dX12_findLeans_34 rfl ?_
  refine zr_aload_n dX12_findLeans_36 rfl rfl ?_
  refine zr_getIv (x := (I 84 79)) dX12_findLeans_37 zf_X12_418 rfl (hS.has (a := 84) rfl rfl) rfl ?_
  refine zr_icge (tgt := 85) dX12_findLeans_40 (by decide) (fun hb => ?_) (fun hb => ?_)
  · have k := k.1 hb
    refine zr_iload_n dX12_findLeans_85 rfl rfl ?_
    refine zr_ifne (tgt := 92) dX12_findLeans_86 (by decide) (fun hb => ?_) (fun hb => ?_)
    · have k := k.1 hb
      refine zr_aload_n dX12_findLeans_92 rfl rfl ?_
      refine zr_getIv (x := (I 84 84)) dX12_findLeans_93 zf_X12_421 rfl (hS.has (a := 84) rfl rfl) rfl ?_
      refine zr_ifeq (tgt := 112) dX12_findLeans_96 (by decide) (fun hb => ?_) (fun hb => ?_)
      · have k := k.1 hb
        refine zr_aload_n dX12_findLeans_112 rfl rfl ?_
        refine zr_aload_n dX12_findLeans_113 rfl rfl ?_
        refine zr_getR dX12_findLeans_114 zf_X12_176 rfl (hS.has (a := 84) rfl rfl) (hS.ref (a := 135) rfl) ?_
        refine zr_iload_n dX12_findLeans_117 rfl rfl ?_
        obtain ⟨hi1, k⟩ := k
        refine zr_ialdv (x := (I 135 v2.toNatClampNeg)) dX12_findLeans_118 (hS.has (a := 135) rfl rfl) hi1 rfl ?_
        refine zr_putI dX12_findLeans_119 zf_X12_427 rfl (hS.has (a := 84) rfl rfl) rfl rfl ?_
        refine zr_aload_n dX12_findLeans_122 rfl rfl ?_
        refine zr_aload_n dX12_findLeans_123 rfl rfl ?_
        refine zr_getR dX12_findLeans_124 zf_X12_179 rfl (hS.has (a := 84) rfl rfl) (hS.ref (a := 136) rfl) ?_
        refine zr_iload_n dX12_findLeans_127 rfl rfl ?_
        refine zr_ialdv (x := (I 136 v2.toNatClampNeg)) dX12_findLeans_128 (hS.has (a := 136) rfl rfl) hi1 rfl ?_
        refine zr_putI dX12_findLeans_129 zf_X12_430 rfl (hS.has (a := 84) rfl rfl) rfl rfl ?_
        refine zr_aload_n dX12_findLeans_132 rfl rfl ?_
        refine zr_getIv (x := (I 84 84)) dX12_findLeans_133 zf_X12_421 rfl (hS.has (a := 84) rfl rfl) rfl ?_
        refine zr_ifeq (tgt := 152) dX12_findLeans_136 (by decide) (fun hb => ?_) (fun hb => ?_)
        · have k := k.1 hb
          refine zr_aload_n dX12_findLeans_152 rfl rfl ?_
          refine zr_aload_n dX12_findLeans_153 rfl rfl ?_
          refine zr_getR dX12_findLeans_154 zf_X12_176 rfl (hS.has (a := 84) rfl rfl) (hS.ref (a := 135) rfl) ?_
          refine zr_iload_n dX12_findLeans_157 rfl rfl ?_
          refine zr_ialdv (x := (I 135 v2.toNatClampNeg)) dX12_findLeans_158 (hS.has (a := 135) rfl rfl) hi1 rfl ?_
          refine zr_putI dX12_findLeans_159 zf_X12_433 rfl (hS.has (a := 84) rfl rfl) rfl rfl ?_
          refine zr_aload_n dX12_findLeans_162 rfl rfl ?_
          refine zr_aload_n dX12_findLeans_163 rfl rfl ?_
          refine zr_getR dX12_findLeans_164 zf_X12_179 rfl (hS.has (a := 84) rfl rfl) (hS.ref (a := 136) rfl) ?_
          refine zr_iload_n dX12_findLeans_167 rfl rfl ?_
          refine zr_ialdv (x := (I 136 v2.toNatClampNeg)) dX12_findLeans_168 (hS.has (a := 136) rfl rfl) hi1 rfl ?_
          refine zr_putI dX12_findLeans_169 zf_X12_436 rfl (hS.has (a := 84) rfl rfl) rfl rfl ?_
          refine zr_aload_n dX12_findLeans_172 rfl rfl ?_
          refine zr_aload_n dX12_findLeans_173 rfl rfl ?_
          refine zr_getIv (x := (I 84 84)) dX12_findLeans_174 zf_X12_421 rfl (hS.has (a := 84) rfl rfl) rfl ?_
          refine zr_iconst (v := 1) dX12_findLeans_177 (by decide) ?_
          refine zr_iadd dX12_findLeans_178 ?_
          refine zr_putI dX12_findLeans_179 zf_X12_421 rfl (hS.has (a := 84) rfl rfl) rfl rfl ?_
          refine zr_iinc (v := (v2 + 1)) dX12_findLeans_182 rfl rfl (Nat.le_of_ble_eq_true rfl) rfl ?_
          refine zr_goto (tgt := 7) dX12_findLeans_185 (by decide) ?_
          exact zr_mask [true, true, true, false, false] rfl k
        · have k := k.2 hb
          refine zr_aload_n dX12_findLeans_139 rfl rfl ?_
          refine zr_getR dX12_findLeans_140 zf_X12_176 rfl (hS.has (a := 84) rfl rfl) (hS.ref (a := 135) rfl) ?_
          refine zr_iload_n dX12_findLeans_143 rfl rfl ?_
          refine zr_ialdv (x := (I 135 v2.toNatClampNeg)) dX12_findLeans_144 (hS.has (a := 135) rfl rfl) hi1 rfl ?_
          refine zr_aload_n dX12_findLeans_145 rfl rfl ?_
          refine zr_getIv (x := (I 84 86)) dX12_findLeans_146 zf_X12_433 rfl (hS.has (a := 84) rfl rfl) rfl ?_
          refine zr_icle (tgt := 172) dX12_findLeans_149 (by decide) (fun hb => ?_) (fun hb => ?_)
          · have k := k.1 hb
            refine zr_aload_n dX12_findLeans_172 rfl rfl ?_
            refine zr_aload_n dX12_findLeans_173 rfl rfl ?_
            refine zr_getIv (x := (I 84 84)) dX12_findLeans_174 zf_X12_421 rfl (hS.has (a := 84) rfl rfl) rfl ?_
            refine zr_iconst (v := 1) dX12_findLeans_177 (by decide) ?_
            refine zr_iadd dX12_findLeans_178 ?_
            refine zr_putI dX12_findLeans_179 zf_X12_421 rfl (hS.has (a := 84) rfl rfl) rfl rfl ?_
            refine zr_iinc (v := (v2 + 1)) dX12_findLeans_182 rfl rfl (Nat.le_of_ble_eq_true rfl) rfl ?_
            refine zr_goto (tgt := 7) dX12_findLeans_185 (by decide) ?_
            exact zr_mask [true, true, true, false, false] rfl k
          · have k := k.2 hb
            refine zr_aload_n dX12_findLeans_152 rfl rfl ?_
            refine zr_aload_n dX12_findLeans_153 rfl rfl ?_
            refine zr_getR dX12_findLeans_154 zf_X12_176 rfl (hS.has (a := 84) rfl rfl) (hS.ref (a := 135) rfl) ?_
            refine zr_iload_n dX12_findLeans_157 rfl rfl ?_
            refine zr_ialdv (x := (I 135 v2.toNatClampNeg)) dX12_findLeans_158 (hS.has (a := 135) rfl rfl) hi1 rfl ?_
            refine zr_putI dX12_findLeans_159 zf_X12_433 rfl (hS.has (a := 84) rfl rfl) rfl rfl ?_
            refine zr_aload_n dX12_findLeans_162 rfl rfl ?_
            refine zr_aload_n dX12_findLeans_163 rfl rfl ?_
            refine zr_getR dX12_findLeans_164 zf_X12_179 rfl (hS.has (a := 84) rfl rfl) (hS.ref (a := 136) rfl) ?_
            refine zr_iload_n dX12_findLeans_167 rfl rfl ?_
            refine zr_ialdv (x := (I 136 v2.toNatClampNeg)) dX12_findLeans_168 (hS.has (a := 136) rfl rfl) hi1 rfl ?_
            refine zr_putI dX12_findLeans_169 zf_X12_436 rfl (hS.has (a := 84) rfl rfl) rfl rfl ?_
            refine zr_aload_n dX12_findLeans_172 rfl rfl ?_
            refine zr_aload_n dX12_findLeans_173 rfl rfl ?_
            refine zr_getIv (x := (I 84 84)) dX12_findLeans_174 zf_X12_421 rfl (hS.has (a := 84) rfl rfl) rfl ?_
            refine zr_iconst (v := 1) dX12_findLeans_177 (by decide) ?_
            refine zr_iadd dX12_findLeans_178 ?_
            refine zr_putI dX12_findLeans_179 zf_X12_421 rfl (hS.has (a := 84) rfl rfl) rfl rfl ?_
            refine zr_iinc (v := (v2 + 1)) dX12_findLeans_182 rfl rfl (Nat.le_of_ble_eq_true rfl) rfl ?_
            refine zr_goto (tgt := 7) dX12_findLeans_185 (by decide) ?_
            exact zr_mask [true, true, true, false, false] rfl k
      · have k := k.2 hb
        refine zr_aload_n dX12_findLeans_99 rfl rfl ?_
        refine zr_getR dX12_findLeans_100 zf_X12_176 rfl (hS.has (a := 84) rfl rfl) (hS.ref (a := 135) rfl) ?_
        refine zr_iload_n dX12_findLeans_103 rfl rfl ?_
        obtain ⟨hi2, k⟩ := k
        refine zr_ialdv (x := (I 135 v2.toNatClampNeg)) dX12_findLeans_104 (hS.has (a := 135) rfl rfl) hi2 rfl ?_
        refine zr_aload_n dX12_findLeans_105 rfl rfl ?_
        refine zr_getIv (x := (I 84 85)) dX12_findLeans_106 zf_X12_427 rfl (hS.has (a := 84) rfl rfl) rfl ?_
        refine zr_icge (tgt := 132) dX12_findLeans_109 (by decide) (fun hb => ?_) (fun hb => ?_)
        · have k := k.1 hb
          refine zr_aload_n dX12_findLeans_132 rfl rfl ?_
          refine zr_getIv (x := (I 84 84)) dX12_findLeans_133 zf_X12_421 rfl (hS.has (a := 84) rfl rfl) rfl ?_
          refine zr_ifeq (tgt := 152) dX12_findLeans_136 (by decide) (fun hb => ?_) (fun hb => ?_)
          · have k := k.1 hb
            refine zr_aload_n dX12_findLeans_152 rfl rfl ?_
            refine zr_aload_n dX12_findLeans_153 rfl rfl ?_
            refine zr_getR dX12_findLeans_154 zf_X12_176 rfl (hS.has (a := 84) rfl rfl) (hS.ref (a := 135) rfl) ?_
            refine zr_iload_n dX12_findLeans_157 rfl rfl ?_
            refine zr_ialdv (x := (I 135 v2.toNatClampNeg)) dX12_findLeans_158 (hS.has (a := 135) rfl rfl) hi2 rfl ?_
            refine zr_putI dX12_findLeans_159 zf_X12_433 rfl (hS.has (a := 84) rfl rfl) rfl rfl ?_
            refine zr_aload_n dX12_findLeans_162 rfl rfl ?_
            refine zr_aload_n dX12_findLeans_163 rfl rfl ?_
            refine zr_getR dX12_findLeans_164 zf_X12_179 rfl (hS.has (a := 84) rfl rfl) (hS.ref (a := 136) rfl) ?_
            refine zr_iload_n dX12_findLeans_167 rfl rfl ?_
            refine zr_ialdv (x := (I 136 v2.toNatClampNeg)) dX12_findLeans_168 (hS.has (a := 136) rfl rfl) hi2 rfl ?_
            refine zr_putI dX12_findLeans_169 zf_X12_436 rfl (hS.has (a := 84) rfl rfl) rfl rfl ?_
            refine zr_aload_n dX12_findLeans_172 rfl rfl ?_
            refine zr_aload_n dX12_findLeans_173 rfl rfl ?_
            refine zr_getIv (x := (I 84 84)) dX12_findLeans_174 zf_X12_421 rfl (hS.has (a := 84) rfl rfl) rfl ?_
            refine zr_iconst (v := 1) dX12_findLeans_177 (by decide) ?_
            refine zr_iadd dX12_findLeans_178 ?_
            refine zr_putI dX12_findLeans_179 zf_X12_421 rfl (hS.has (a := 84) rfl rfl) rfl rfl ?_
            refine zr_iinc (v := (v2 + 1)) dX12_findLeans_182 rfl rfl (Nat.le_of_ble_eq_true rfl) rfl ?_
            refine zr_goto (tgt := 7) dX12_findLeans_185 (by decide) ?_
            exact zr_mask [true, true, true, false, false] rfl k
          · have k := k.2 hb
            refine zr_aload_n dX12_findLeans_139 rfl rfl ?_
            refine zr_getR dX12_findLeans_140 zf_X12_176 rfl (hS.has (a := 84) rfl rfl) (hS.ref (a := 135) rfl) ?_
            refine zr_iload_n dX12_findLeans_143 rfl rfl ?_
            refine zr_ialdv (x := (I 135 v2.toNatClampNeg)) dX12_findLeans_144 (hS.has (a := 135) rfl rfl) hi2 rfl ?_
            refine zr_aload_n dX12_findLeans_145 rfl rfl ?_
            refine zr_getIv (x := (I 84 86)) dX12_findLeans_146 zf_X12_433 rfl (hS.has (a := 84) rfl rfl) rfl ?_
            refine zr_icle (tgt := 172) dX12_findLeans_149 (by decide) (fun hb => ?_) (fun hb => ?_)
            · have k := k.1 hb
              refine zr_aload_n dX12_findLeans_172 rfl rfl ?_
              refine zr_aload_n dX12_findLeans_173 rfl rfl ?_
              refine zr_getIv (x := (I 84 84)) dX12_findLeans_174 zf_X12_421 rfl (hS.has (a := 84) rfl rfl) rfl ?_
              refine zr_iconst (v := 1) dX12_findLeans_177 (by decide) ?_
              refine zr_iadd dX12_findLeans_178 ?_
              refine zr_putI dX12_findLeans_179 zf_X12_421 rfl (hS.has (a := 84) rfl rfl) rfl rfl ?_
              refine zr_iinc (v := (v2 + 1)) dX12_findLeans_182 rfl rfl (Nat.le_of_ble_eq_true rfl) rfl ?_
              refine zr_goto (tgt := 7) dX12_findLeans_185 (by decide) ?_
              exact zr_mask [true, true, true, false, false] rfl k
            · have k := k.2 hb
              refine zr_aload_n dX12_findLeans_152 rfl rfl ?_
              refine zr_aload_n dX12_findLeans_153 rfl rfl ?_
              refine zr_getR dX12_findLeans_154 zf_X12_176 rfl (hS.has (a := 84) rfl rfl) (hS.ref (a := 135) rfl) ?_
              refine zr_iload_n dX12_findLeans_157 rfl rfl ?_
              refine zr_ialdv (x := (I 135 v2.toNatClampNeg)) dX12_findLeans_158 (hS.has (a := 135) rfl rfl) hi2 rfl ?_
              refine zr_putI dX12_findLeans_159 zf_X12_433 rfl (hS.has (a := 84) rfl rfl) rfl rfl ?_
              refine zr_aload_n dX12_findLeans_162 rfl rfl ?_
              refine zr_aload_n dX12_findLeans_163 rfl rfl ?_
              refine zr_getR dX12_findLeans_164 zf_X12_179 rfl (hS.has (a := 84) rfl rfl) (hS.ref (a := 136) rfl) ?_
              refine zr_iload_n dX12_findLeans_167 rfl rfl ?_
              refine zr_ialdv (x := (I 136 v2.toNatClampNeg)) dX12_findLeans_168 (hS.has (a := 136) rfl rfl) hi2 rfl ?_
              refine zr_putI dX12_findLeans_169 zf_X12_436 rfl (hS.has (a := 84) rfl rfl) rfl rfl ?_
              refine zr_aload_n dX12_findLeans_172 rfl rfl ?_
              refine zr_aload_n dX12_findLeans_173 rfl rfl ?_
              refine zr_getIv (x := (I 84 84)) dX12_findLeans_174 zf_X12_421 rfl (hS.has (a := 84) rfl rfl) rfl ?_
              refine zr_iconst (v := 1) dX12_findLeans_177 (by decide) ?_
              refine zr_iadd dX12_findLeans_178 ?_
              refine zr_putI dX12_findLeans_179 zf_X12_421 rfl (hS.has (a := 84) rfl rfl) rfl rfl ?_
              refine zr_iinc (v := (v2 + 1)) dX12_findLeans_182 rfl rfl (Nat.le_of_ble_eq_true rfl) rfl ?_
              refine zr_goto (tgt := 7) dX12_findLeans_185 (by decide) ?_
              exact zr_mask [true, true, true, false, false] rfl k
        · have k := k.2 hb
          refine zr_aload_n dX12_findLeans_112 rfl rfl ?_
          refine zr_aload_n dX12_findLeans_113 rfl rfl ?_
          refine zr_getR dX12_findLeans_114 zf_X12_176 rfl (hS.has (a := 84) rfl rfl) (hS.ref (a := 135) rfl) ?_
          refine zr_iload_n dX12_findLeans_117 rfl rfl ?_
          refine zr_ialdv (x := (I 135 v2.toNatClampNeg)) dX12_findLeans_118 (hS.has (a := 135) rfl rfl) hi2 rfl ?_
          refine zr_putI dX12_findLeans_119 zf_X12_427 rfl (hS.has (a := 84) rfl rfl) rfl rfl ?_
          refine zr_aload_n dX12_findLeans_122 rfl rfl ?_
          refine zr_aload_n dX12_findLeans_123 rfl rfl ?_
          refine zr_getR dX12_findLeans_124 zf_X12_179 rfl (hS.has (a := 84) rfl rfl) (hS.ref (a := 136) rfl) ?_
          refine zr_iload_n dX12_findLeans_127 rfl rfl ?_
          refine zr_ialdv (x := (I 136 v2.toNatClampNeg)) dX12_findLeans_128 (hS.has (a := 136) rfl rfl) hi2 rfl ?_
          refine zr_putI dX12_findLeans_129 zf_X12_430 rfl (hS.has (a := 84) rfl rfl) rfl rfl ?_
          refine zr_aload_n dX12_findLeans_132 rfl rfl ?_
          refine zr_getIv (x := (I 84 84)) dX12_findLeans_133 zf_X12_421 rfl (hS.has (a := 84) rfl rfl) rfl ?_
          refine zr_ifeq (tgt := 152) dX12_findLeans_136 (by decide) (fun hb => ?_) (fun hb => ?_)
          · have k := k.1 hb
            refine zr_aload_n dX12_findLeans_152 rfl rfl ?_
            refine zr_aload_n dX12_findLeans_153 rfl rfl ?_
            refine zr_getR dX12_findLeans_154 zf_X12_176 rfl (hS.has (a := 84) rfl rfl) (hS.ref (a := 135) rfl) ?_
            refine zr_iload_n dX12_findLeans_157 rfl rfl ?_
            refine zr_ialdv (x := (I 135 v2.toNatClampNeg)) dX12_findLeans_158 (hS.has (a := 135) rfl rfl) hi2 rfl ?_
            refine zr_putI dX12_findLeans_159 zf_X12_433 rfl (hS.has (a := 84) rfl rfl) rfl rfl ?_
            refine zr_aload_n dX12_findLeans_162 rfl rfl ?_
            refine zr_aload_n dX12_findLeans_163 rfl rfl ?_
            refine zr_getR dX12_findLeans_164 zf_X12_179 rfl (hS.has (a := 84) rfl rfl) (hS.ref (a := 136) rfl) ?_
            refine zr_iload_n dX12_findLeans_167 rfl rfl ?_
            refine zr_ialdv (x := (I 136 v2.toNatClampNeg)) dX12_findLeans_168 (hS.has (a := 136) rfl rfl) hi2 rfl ?_
            refine zr_putI dX12_findLeans_169 zf_X12_436 rfl (hS.has (a := 84) rfl rfl) rfl rfl ?_
            refine zr_aload_n dX12_findLeans_172 rfl rfl ?_
            refine zr_aload_n dX12_findLeans_173 rfl rfl ?_
            refine zr_getIv (x := (I 84 84)) dX12_findLeans_174 zf_X12_421 rfl (hS.has (a := 84) rfl rfl) rfl ?_
            refine zr_iconst (v := 1) dX12_findLeans_177 (by decide) ?_
            refine zr_iadd dX12_findLeans_178 ?_
            refine zr_putI dX12_findLeans_179 zf_X12_421 rfl (hS.has (a := 84) rfl rfl) rfl rfl ?_
            refine zr_iinc (v := (v2 + 1)) dX12_findLeans_182 rfl rfl (Nat.le_of_ble_eq_true rfl) rfl ?_
            refine zr_goto (tgt := 7) dX12_findLeans_185 (by decide) ?_
            exact zr_mask [true, true, true, false, false] rfl k
          · have k := k.2 hb
            refine zr_aload_n dX12_findLeans_139 rfl rfl ?_
            refine zr_getR dX12_findLeans_140 zf_X12_176 rfl (hS.has (a := 84) rfl rfl) (hS.ref (a := 135) rfl) ?_
            refine zr_iload_n dX12_findLeans_143 rfl rfl ?_
            refine zr_ialdv (x := (I 135 v2.toNatClampNeg)) dX12_findLeans_144 (hS.has (a := 135) rfl rfl) hi2 rfl ?_
            refine zr_aload_n dX12_findLeans_145 rfl rfl ?_
            refine zr_getIv (x := (I 84 86)) dX12_findLeans_146 zf_X12_433 rfl (hS.has (a := 84) rfl rfl) rfl ?_
            refine zr_icle (tgt := 172) dX12_findLeans_149 (by decide) (fun hb => ?_) (fun hb => ?_)
            · have k := k.1 hb
              refine zr_aload_n dX12_findLeans_172 rfl rfl ?_
              refine zr_aload_n dX12_findLeans_173 rfl rfl ?_
              refine zr_getIv (x := (I 84 84)) dX12_findLeans_174 zf_X12_421 rfl (hS.has (a := 84) rfl rfl) rfl ?_
              refine zr_iconst (v := 1) dX12_findLeans_177 (by decide) ?_
              refine zr_iadd dX12_findLeans_178 ?_
              refine zr_putI dX12_findLeans_179 zf_X12_421 rfl (hS.has (a := 84) rfl rfl) rfl rfl ?_
              refine zr_iinc (v := (v2 + 1)) dX12_findLeans_182 rfl rfl (Nat.le_of_ble_eq_true rfl) rfl ?_
              refine zr_goto (tgt := 7) dX12_findLeans_185 (by decide) ?_
              exact zr_mask [true, true, true, false, false] rfl k
            · have k := k.2 hb
              refine zr_aload_n dX12_findLeans_152 rfl rfl ?_
              refine zr_aload_n dX12_findLeans_153 rfl rfl ?_
              refine zr_getR dX12_findLeans_154 zf_X12_176 rfl (hS.has (a := 84) rfl rfl) (hS.ref (a := 135) rfl) ?_
              refine zr_iload_n dX12_findLeans_157 rfl rfl ?_
              refine zr_ialdv (x := (I 135 v2.toNatClampNeg)) dX12_findLeans_158 (hS.has (a := 135) rfl rfl) hi2 rfl ?_
              refine zr_putI dX12_findLeans_159 zf_X12_433 rfl (hS.has (a := 84) rfl rfl) rfl rfl ?_
              refine zr_aload_n dX12_findLeans_162 rfl rfl ?_
              refine zr_aload_n dX12_findLeans_163 rfl rfl ?_
              refine zr_getR dX12_findLeans_164 zf_X12_179 rfl (hS.has (a := 84) rfl rfl) (hS.ref (a := 136) rfl) ?_
              refine zr_iload_n dX12_findLeans_167 rfl rfl ?_
              refine zr_ialdv (x := (I 136 v2.toNatClampNeg)) dX12_findLeans_168 (hS.has (a := 136) rfl rfl) hi2 rfl ?_
              refine zr_putI dX12_findLeans_169 zf_X12_436 rfl (hS.has (a := 84) rfl rfl) rfl rfl ?_
              refine zr_aload_n dX12_findLeans_172 rfl rfl ?_
              refine zr_aload_n dX12_findLeans_173 rfl rfl ?_
              refine zr_getIv (x := (I 84 84)) dX12_findLeans_174 zf_X12_421 rfl (hS.has (a := 84) rfl rfl) rfl ?_
              refine zr_iconst (v := 1) dX12_findLeans_177 (by decide) ?_
              refine zr_iadd dX12_findLeans_178 ?_
              refine zr_putI dX12_findLeans_179 zf_X12_421 rfl (hS.has (a := 84) rfl rfl) rfl rfl ?_
              refine zr_iinc (v := (v2 + 1)) dX12_findLeans_182 rfl rfl (Nat.le_of_ble_eq_true rfl) rfl ?_
              refine zr_goto (tgt := 7) dX12_findLeans_185 (by decide) ?_
              exact zr_mask [true, true, true, false, false] rfl k
    · have k := k.2 hb
      refine zr_goto (tgt := 182) dX12_findLeans_89 (by decide) ?_
      refine zr_iinc (v := (v2 + 1)) dX12_findLeans_182 rfl rfl (Nat.le_of_ble_eq_true rfl) rfl ?_
      refine zr_goto (tgt := 7) dX12_findLeans_185 (by decide) ?_
      exact zr_mask [true, true, true, false, false] rfl k
  · have k := k.2 hb
    refine zr_iload_n dX12_findLeans_43 rfl rfl ?_
    refine zr_ifeq (tgt := 77) dX12_findLeans_44 (by decide) (fun hb => ?_) (fun hb => ?_)
    · have k := k.1 hb
      refine zr_iconst (v := 0) dX12_findLeans_77 (by decide) ?_
      refine zr_istore_n dX12_findLeans_78 rfl (Nat.le_of_ble_eq_true rfl) rfl ?_
      refine zr_iinc (v := (v4 + 1)) dX12_findLeans_79 rfl rfl (Nat.le_of_ble_eq_true rfl) rfl ?_
      refine zr_goto (tgt := 34) dX12_findLeans_82 (by decide) ?_
      exact k
    · have k := k.2 hb
      refine zr_aload_n dX12_findLeans_47 rfl rfl ?_
      refine zr_iload dX12_findLeans_48 rfl ?_
      refine zr_iload_n dX12_findLeans_50 rfl rfl ?_
      refine zr_callV (As := [.int v4, .int v1]) (fr' := fX12_counts) (lo' := lX12_counts) (bc' := 0) (bs' := 0) (bcr := bc) (bsr := bs) dX12_findLeans_51 zs_X12_424 zi_X12_counts zcl_12 (hS.has (a := 84) rfl rfl) rfl rfl (Nat.le_of_ble_eq_true rfl) (Nat.le_of_ble_eq_true rfl) (Nat.le_of_ble_eq_true rfl) (Nat.le_refl _) (Nat.le_refl _) ?_
      obtain ⟨hq0, k⟩ := k
      refine sp_X12_counts hS hq0 ?_
      show ZW G mX12_findLeans fX12_findLeans lX12_findLeans 54 [zo G 84, .int v1, .int v2, .int v3, .int v4] [.int (p_X12_counts I v4 v1)] S I L bc bs Q
      refine zr_ifeq (tgt := 73) dX12_findLeans_54 (by decide) (fun hb => ?_) (fun hb => ?_)
      · have k := k.1 hb
        refine zr_iconst (v := 1) dX12_findLeans_73 (by decide) ?_
        refine zr_goto (tgt := 78) dX12_findLeans_74 (by decide) ?_
        refine zr_istore_n dX12_findLeans_78 rfl (Nat.le_of_ble_eq_true rfl) rfl ?_
        refine zr_iinc (v := (v4 + 1)) dX12_findLeans_79 rfl rfl (Nat.le_of_ble_eq_true rfl) rfl ?_
        refine zr_goto (tgt := 34) dX12_findLeans_82 (by decide) ?_
        exact k
      · have k := k.2 hb
        refine zr_aload_n dX12_findLeans_57 rfl rfl ?_
        refine zr_getR dX12_findLeans_58 zf_X12_176 rfl (hS.has (a := 84) rfl rfl) (hS.ref (a := 135) rfl) ?_
        refine zr_iload dX12_findLeans_61 rfl ?_
        obtain ⟨hi3, k⟩ := k
        refine zr_ialdv (x := (I 135 v4.toNatClampNeg)) dX12_findLeans_63 (hS.has (a := 135) rfl rfl) hi3 rfl ?_
        refine zr_aload_n dX12_findLeans_64 rfl rfl ?_
        refine zr_getR dX12_findLeans_65 zf_X12_176 rfl (hS.has (a := 84) rfl rfl) (hS.ref (a := 135) rfl) ?_
        refine zr_iload_n dX12_findLeans_68 rfl rfl ?_
        obtain ⟨hi4, k⟩ := k
        refine zr_ialdv (x := (I 135 v2.toNatClampNeg)) dX12_findLeans_69 (hS.has (a := 135) rfl rfl) hi4 rfl ?_
        refine zr_iceq (tgt := 77) dX12_findLeans_70 (by decide) (fun hb => ?_) (fun hb => ?_)
        · have k := k.1 hb
          refine zr_iconst (v := 0) dX12_findLeans_77 (by decide) ?_
          refine zr_istore_n dX12_findLeans_78 rfl (Nat.le_of_ble_eq_true rfl) rfl ?_
          refine zr_iinc (v := (v4 + 1)) dX12_findLeans_79 rfl rfl (Nat.le_of_ble_eq_true rfl) rfl ?_
          refine zr_goto (tgt := 34) dX12_findLeans_82 (by decide) ?_
          exact k
        · have k := k.2 hb
          refine zr_iconst (v := 1) dX12_findLeans_73 (by decide) ?_
          refine zr_goto (tgt := 78) dX12_findLeans_74 (by decide) ?_
          refine zr_istore_n dX12_findLeans_78 rfl (Nat.le_of_ble_eq_true rfl) rfl ?_
          refine zr_iinc (v := (v4 + 1)) dX12_findLeans_79 rfl rfl (Nat.le_of_ble_eq_true rfl) rfl ?_
          refine zr_goto (tgt := 34) dX12_findLeans_82 (by decide) ?_
          exact k
