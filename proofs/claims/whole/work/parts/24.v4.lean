set_option maxHeartbeats 2000000 in
theorem vX12_isJoint_0 {G : Gp} {bc bs : Nat} {Q : zPost} {S : zSh} {I : zFI} {L : zFL} {v1 : Int32} (hS : zStd S)  (k : ((v1 < 0 → Q (some (.int (0 : Int32))) S I L) ∧ (¬ v1 < 0 → (((I 84 13) ≤ v1 → Q (some (.int (0 : Int32))) S I L) ∧ (¬ (I 84 13) ≤ v1 → vp_in v1 48 ∧ (((p_X12_isSeen I (I 98 v1.toNatClampNeg)) = 0 → Q (some (.int (0 : Int32))) S I L) ∧ (¬ (p_X12_isSeen I (I 98 v1.toNatClampNeg)) = 0 → Q (some (.int (1 : Int32))) S I L))))))) : ZW G mX12_isJoint fX12_isJoint lX12_isJoint 0 [zo G 84, .int v1] [] S I L bc bs Q := by
  refine zr_iload_n dX12_isJoint_0 rfl rfl ?_
  refine zr_iflt (tgt := 29) dX12_isJoint_1 (by decide) (fun hb => ?_) (fun hb => ?_)
  · have k := k.1 hb
    refine zr_iconst (v := 0) dX12_isJoint_29 (by decide) ?_
    exact zr_ireturn dX12_isJoint_30 rfl rfl k
  · have k := k.2 hb
    refine zr_iload_n dX12_isJoint_4 rfl rfl ?_
    refine zr_aload_n dX12_isJoint_5 rfl rfl ?_
    refine zr_getIv (x := (I 84 13)) dX12_isJoint_6 zf_X12_198 rfl (hS.has (a := 84) rfl rfl) rfl ?_
    refine zr_icge (tgt := 29) dX12_isJoint_9 (by decide) (fun hb => ?_) (fun hb => ?_)
    · have k := k.1 hb
      refine zr_iconst (v := 0) dX12_isJoint_29 (by decide) ?_
      exact zr_ireturn dX12_isJoint_30 rfl rfl k
    · have k := k.2 hb
      refine zr_aload_n dX12_isJoint_12 rfl rfl ?_
      refine zr_aload_n dX12_isJoint_13 rfl rfl ?_
      refine zr_getR dX12_isJoint_14 zf_X12_54 rfl (hS.has (a := 84) rfl rfl) (hS.ref (a := 98) rfl) ?_
      refine zr_iload_n dX12_isJoint_17 rfl rfl ?_
      obtain ⟨hi1, k⟩ := k
      refine zr_ialdv (x := (I 98 v1.toNatClampNeg)) dX12_isJoint_18 (hS.has (a := 98) rfl rfl) hi1 rfl ?_
      refine zr_callV (As := [.int (I 98 v1.toNatClampNeg)]) (fr' := fX12_isSeen) (lo' := lX12_isSeen) (bc' := 0) (bs' := 0) (bcr := bc) (bsr := bs) dX12_isJoint_19 zs_X12_194 zi_X12_isSeen zcl_12 (hS.has (a := 84) rfl rfl) rfl rfl (Nat.le_of_ble_eq_true rfl) (Nat.le_of_ble_eq_true rfl) (Nat.le_of_ble_eq_true rfl) (Nat.le_refl _) (Nat.le_refl _) ?_
      refine sp_X12_isSeen hS  ?_
      show ZW G mX12_isJoint fX12_isJoint lX12_isJoint 22 [zo G 84, .int v1] [.int (p_X12_isSeen I (I 98 v1.toNatClampNeg))] S I L bc bs Q
      refine zr_ifeq (tgt := 29) dX12_isJoint_22 (by decide) (fun hb => ?_) (fun hb => ?_)
      · have k := k.1 hb
        refine zr_iconst (v := 0) dX12_isJoint_29 (by decide) ?_
        exact zr_ireturn dX12_isJoint_30 rfl rfl k
      · have k := k.2 hb
        refine zr_iconst (v := 1) dX12_isJoint_25 (by decide) ?_
        refine zr_goto (tgt := 30) dX12_isJoint_26 (by decide) ?_
        exact zr_ireturn dX12_isJoint_30 rfl rfl k
def p_X12_isJoint (I : zFI) (v1 : Int32) : Int32 := (if v1 < 0 then (0 : Int32) else (if (I 84 13) ≤ v1 then (0 : Int32) else (if (p_X12_isSeen I (I 98 v1.toNatClampNeg)) = 0 then (0 : Int32) else (1 : Int32))))
set_option maxHeartbeats 2000000 in
theorem sp_X12_isJoint {G : Gp} {Q : zPost} {S : zSh} {I : zFI} {L : zFL} {v1 : Int32} (hS : zStd S)  (hv0 : ¬ v1 < 0 → ¬ (I 84 13) ≤ v1 → vp_in v1 48) (h : Q (some (.int (p_X12_isJoint I v1))) S I L) : ZC G mX12_isJoint fX12_isJoint lX12_isJoint [zo G 84, .int v1] S I L 0 0 Q := by
  refine ZC.of' (vX12_isJoint_0 hS  ?_) rfl (Nat.le_of_ble_eq_true rfl) rfl
  unfold p_X12_isJoint at h
  refine ⟨fun hb1 => ?_, fun hb1 => ?_⟩
  · rw [if_pos hb1] at h
    exact h
  · rw [if_neg hb1] at h
    refine ⟨fun hb2 => ?_, fun hb2 => ?_⟩
    · rw [if_pos hb2] at h
      exact h
    · rw [if_neg hb2] at h
      refine ⟨hv0 hb1 hb2, ?_⟩
      refine ⟨fun hb3 => ?_, fun hb3 => ?_⟩
      · rw [if_pos hb3] at h
        exact h
      · rw [if_neg hb3] at h
        exact h
theorem pb_X12_isJoint (I : zFI) (v1 : Int32) : p_X12_isJoint I v1 = 0 ∨ p_X12_isJoint I v1 = 1 := by
  unfold p_X12_isJoint
  repeat' split
  all_goals first | exact Or.inl rfl | exact Or.inr rfl | exact pb_X12_isSeen _ _
set_option maxHeartbeats 2000000 in
theorem vX12_days_0 {G : Gp} {bc bs : Nat} {Q : zPost} {S : zSh} {I : zFI} {L : zFL} {v1 : Int32} (hS : zStd S)  (k : (((p_X12_isIn v1 (1 : Int32) (1000 : Int32)) = 0 → Q (some (.int (-1 : Int32))) S (u2 I 84 0 (0 : Int32)) L) ∧ (¬ (p_X12_isIn v1 (1 : Int32) (1000 : Int32)) = 0 → ((((I 84 1) + v1) ≤ (9999 : Int32) → Q (some (.int ((I 84 1) + v1))) S (u2 (u2 I 84 0 (0 : Int32)) 84 1 ((I 84 1) + v1)) L) ∧ (¬ ((I 84 1) + v1) ≤ (9999 : Int32) → Q (some (.int (-1 : Int32))) S (u2 I 84 0 (0 : Int32)) L))))) : ZW G mX12_days fX12_days lX12_days 0 [zo G 84, .int v1] [] S I L bc bs Q := by
  refine zr_aload_n dX12_days_0 rfl rfl ?_
  refine zr_iconst (v := 0) dX12_days_1 (by decide) ?_
  refine zr_putI dX12_days_2 zf_X12_188 rfl (hS.has (a := 84) rfl rfl) rfl rfl ?_
  refine zr_aload_n dX12_days_5 rfl rfl ?_
  refine zr_iload_n dX12_days_6 rfl rfl ?_
  refine zr_iconst (v := 1) dX12_days_7 (by decide) ?_
  refine zr_sipush (v := 1000) dX12_days_8 (by decide) ?_
  refine zr_callV (As := [.int v1, .int (1 : Int32), .int (1000 : Int32)]) (fr' := fX12_isIn) (lo' := lX12_isIn) (bc' := 0) (bs' := 0) (bcr := bc) (bsr := bs) dX12_days_11 zs_X12_201 zi_X12_isIn zcl_12 (hS.has (a := 84) rfl rfl) rfl rfl (Nat.le_of_ble_eq_true rfl) (Nat.le_of_ble_eq_true rfl) (Nat.le_of_ble_eq_true rfl) (Nat.le_refl _) (Nat.le_refl _) ?_
  refine sp_X12_isIn hS  ?_
  show ZW G mX12_days fX12_days lX12_days 14 [zo G 84, .int v1] [.int (p_X12_isIn v1 (1 : Int32) (1000 : Int32))] S (u2 I 84 0 (0 : Int32)) L bc bs Q
  refine zr_ifeq (tgt := 29) dX12_days_14 (by decide) (fun hb => ?_) (fun hb => ?_)
  · have k := k.1 hb
    refine zr_iconst (v := -1) dX12_days_29 (by decide) ?_
    exact zr_ireturn dX12_days_30 rfl rfl k
  · have k := k.2 hb
    refine zr_aload_n dX12_days_17 rfl rfl ?_
    refine zr_getIv (x := (I 84 1)) dX12_days_18 zf_X12_205 rfl (hS.has (a := 84) rfl rfl) rfl ?_
    refine zr_iload_n dX12_days_21 rfl rfl ?_
    refine zr_iadd dX12_days_22 ?_
    refine zr_sipush (v := 9999) dX12_days_23 (by decide) ?_
    refine zr_icle (tgt := 31) dX12_days_26 (by decide) (fun hb => ?_) (fun hb => ?_)
    · have k := k.1 hb
      refine zr_aload_n dX12_days_31 rfl rfl ?_
      refine zr_aload_n dX12_days_32 rfl rfl ?_
      refine zr_getIv (x := (I 84 1)) dX12_days_33 zf_X12_205 rfl (hS.has (a := 84) rfl rfl) rfl ?_
      refine zr_iload_n dX12_days_36 rfl rfl ?_
      refine zr_iadd dX12_days_37 ?_
      refine zr_putI dX12_days_38 zf_X12_205 rfl (hS.has (a := 84) rfl rfl) rfl rfl ?_
      refine zr_aload_n dX12_days_41 rfl rfl ?_
      refine zr_getIv (x := ((I 84 1) + v1)) dX12_days_42 zf_X12_205 rfl (hS.has (a := 84) rfl rfl) rfl ?_
      exact zr_ireturn dX12_days_45 rfl rfl k
    · have k := k.2 hb
      refine zr_iconst (v := -1) dX12_days_29 (by decide) ?_
      exact zr_ireturn dX12_days_30 rfl rfl k
set_option maxHeartbeats 2000000 in
theorem vX12_view_0 {G : Gp} {bc bs : Nat} {Q : zPost} {S : zSh} {I : zFI} {L : zFL} {v1 : Int32} (hS : zStd S)  (k : ((¬ (p_X12_isIn v1 (-1 : Int32) (I 84 1)) = 0 → Q (some (.int (1 : Int32))) S (u2 (u2 I 84 0 (0 : Int32)) 84 2 v1) L) ∧ ((p_X12_isIn v1 (-1 : Int32) (I 84 1)) = 0 → Q (some (.int (0 : Int32))) S (u2 I 84 0 (0 : Int32)) L))) : ZW G mX12_view fX12_view lX12_view 0 [zo G 84, .int v1] [] S I L bc bs Q := by
  refine zr_aload_n dX12_view_0 rfl rfl ?_
  refine zr_iconst (v := 0) dX12_view_1 (by decide) ?_
  refine zr_putI dX12_view_2 zf_X12_188 rfl (hS.has (a := 84) rfl rfl) rfl rfl ?_
  refine zr_aload_n dX12_view_5 rfl rfl ?_
  refine zr_iload_n dX12_view_6 rfl rfl ?_
  refine zr_iconst (v := -1) dX12_view_7 (by decide) ?_
  refine zr_aload_n dX12_view_8 rfl rfl ?_
  refine zr_getIv (x := (I 84 1)) dX12_view_9 zf_X12_205 rfl (hS.has (a := 84) rfl rfl) rfl ?_
  refine zr_callV (As := [.int v1, .int (-1 : Int32), .int (I 84 1)]) (fr' := fX12_isIn) (lo' := lX12_isIn) (bc' := 0) (bs' := 0) (bcr := bc) (bsr := bs) dX12_view_12 zs_X12_201 zi_X12_isIn zcl_12 (hS.has (a := 84) rfl rfl) rfl rfl (Nat.le_of_ble_eq_true rfl) (Nat.le_of_ble_eq_true rfl) (Nat.le_of_ble_eq_true rfl) (Nat.le_refl _) (Nat.le_refl _) ?_
  refine sp_X12_isIn hS  ?_
  show ZW G mX12_view fX12_view lX12_view 15 [zo G 84, .int v1] [.int (p_X12_isIn v1 (-1 : Int32) (I 84 1))] S (u2 I 84 0 (0 : Int32)) L bc bs Q
  refine zr_ifne (tgt := 20) dX12_view_15 (by decide) (fun hb => ?_) (fun hb => ?_)
  · have k := k.1 hb
    refine zr_aload_n dX12_view_20 rfl rfl ?_
    refine zr_iload_n dX12_view_21 rfl rfl ?_
    refine zr_putI dX12_view_22 zf_X12_9 rfl (hS.has (a := 84) rfl rfl) rfl rfl ?_
    refine zr_iconst (v := 1) dX12_view_25 (by decide) ?_
    exact zr_ireturn dX12_view_26 rfl rfl k
  · have k := k.2 hb
    refine zr_iconst (v := 0) dX12_view_18 (by decide) ?_
    exact zr_ireturn dX12_view_19 rfl rfl k
set_option maxHeartbeats 2000000 in
theorem vX12_timber_0 {G : Gp} {bc bs : Nat} {Q : zPost} {S : zSh} {I : zFI} {L : zFL} {v1 : Int32} {v2 : Int32} (hS : zStd S)  (k : (((p_X12_isIn v1 (0 : Int32) (3 : Int32)) = 0 → Q (some (.int (-1 : Int32))) S (u2 I 84 0 (0 : Int32)) L) ∧ (¬ (p_X12_isIn v1 (0 : Int32) (3 : Int32)) = 0 → (((p_X12_isIn v2 (1 : Int32) (99 : Int32)) = 0 → Q (some (.int (-1 : Int32))) S (u2 I 84 0 (0 : Int32)) L) ∧ (¬ (p_X12_isIn v2 (1 : Int32) (99 : Int32)) = 0 → ((¬ (I 84 3) = (16 : Int32) → vp_in (I 84 3) 16 ∧ Q (some (.int (((I 84 3) + (1 : Int32)) - (1 : Int32)))) S (u2 (u2 (u2 (u2 (u2 I 84 0 (0 : Int32)) 85 (I 84 3).toNatClampNeg v1) 86 (I 84 3).toNatClampNeg v2) 87 (I 84 3).toNatClampNeg (I 84 1)) 84 3 ((I 84 3) + (1 : Int32))) L) ∧ ((I 84 3) = (16 : Int32) → Q (some (.int (-1 : Int32))) S (u2 I 84 0 (0 : Int32)) L))))))) : ZW G mX12_timber fX12_timber lX12_timber 0 [zo G 84, .int v1, .int v2] [] S I L bc bs Q := by
  refine zr_aload_n dX12_timber_0 rfl rfl ?_
  refine zr_iconst (v := 0) dX12_timber_1 (by decide) ?_
  refine zr_putI dX12_timber_2 zf_X12_188 rfl (hS.has (a := 84) rfl rfl) rfl rfl ?_
  refine zr_aload_n dX12_timber_5 rfl rfl ?_
  refine zr_iload_n dX12_timber_6 rfl rfl ?_
  refine zr_iconst (v := 0) dX12_timber_7 (by decide) ?_
  refine zr_iconst (v := 3) dX12_timber_8 (by decide) ?_
  refine zr_callV (As := [.int v1, .int (0 : Int32), .int (3 : Int32)]) (fr' := fX12_isIn) (lo' := lX12_isIn) (bc' := 0) (bs' := 0) (bcr := bc) (bsr := bs) dX12_timber_9 zs_X12_201 zi_X12_isIn zcl_12 (hS.has (a := 84) rfl rfl) rfl rfl (Nat.le_of_ble_eq_true rfl) (Nat.le_of_ble_eq_true rfl) (Nat.le_of_ble_eq_true rfl) (Nat.le_refl _) (Nat.le_refl _) ?_
  refine sp_X12_isIn hS  ?_
  show ZW G mX12_timber fX12_timber lX12_timber 12 [zo G 84, .int v1, .int v2] [.int (p_X12_isIn v1 (0 : Int32) (3 : Int32))] S (u2 I 84 0 (0 : Int32)) L bc bs Q
  refine zr_ifeq (tgt := 35) dX12_timber_12 (by decide) (fun hb => ?_) (fun hb => ?_)
  · have k := k.1 hb
    refine zr_iconst (v := -1) dX12_timber_35 (by decide) ?_
    exact zr_ireturn dX12_timber_36 rfl rfl k
  · have k := k.2 hb
    refine zr_aload_n dX12_timber_15 rfl rfl ?_
    refine zr_iload_n dX12_timber_16 rfl rfl ?_
    refine zr_iconst (v := 1) dX12_timber_17 (by decide) ?_
    refine zr_bipush (v := 99) dX12_timber_18 (by decide) ?_
    refine zr_callV (As := [.int v2, .int (1 : Int32), .int (99 : Int32)]) (fr' := fX12_isIn) (lo' := lX12_isIn) (bc' := 0) (bs' := 0) (bcr := bc) (bsr := bs) dX12_timber_20 zs_X12_201 zi_X12_isIn zcl_12 (hS.has (a := 84) rfl rfl) rfl rfl (Nat.le_of_ble_eq_true rfl) (Nat.le_of_ble_eq_true rfl) (Nat.le_of_ble_eq_true rfl) (Nat.le_refl _) (Nat.le_refl _) ?_
    refine sp_X12_isIn hS  ?_
    show ZW G mX12_timber fX12_timber lX12_timber 23 [zo G 84, .int v1, .int v2] [.int (p_X12_isIn v2 (1 : Int32) (99 : Int32))] S (u2 I 84 0 (0 : Int32)) L bc bs Q
    refine zr_ifeq (tgt := 35) dX12_timber_23 (by decide) (fun hb => ?_) (fun hb => ?_)
    · have k := k.1 hb
      refine zr_iconst (v := -1) dX12_timber_35 (by decide) ?_
      exact zr_ireturn dX12_timber_36 rfl rfl k
    · have k := k.2 hb
      refine zr_aload_n dX12_timber_26 rfl rfl ?_
      refine zr_getIv (x := (I 84 3)) dX12_timber_27 zf_X12_191 rfl (hS.has (a := 84) rfl rfl) rfl ?_
      refine zr_bipush (v := 16) dX12_timber_30 (by decide) ?_
      refine zr_icne (tgt := 37) dX12_timber_32 (by decide) (fun hb => ?_) (fun hb => ?_)
      · have k := k.1 hb
        refine zr_aload_n dX12_timber_37 rfl rfl ?_
        refine zr_getR dX12_timber_38 zf_X12_13 rfl (hS.has (a := 84) rfl rfl) (hS.ref (a := 85) rfl) ?_
        refine zr_aload_n dX12_timber_41 rfl rfl ?_
        refine zr_getIv (x := (I 84 3)) dX12_timber_42 zf_X12_191 rfl (hS.has (a := 84) rfl rfl) rfl ?_
        refine zr_iload_n dX12_timber_45 rfl rfl ?_
        obtain ⟨hi1, k⟩ := k
        refine zr_iast dX12_timber_46 (hS.has (a := 85) rfl rfl) hi1 ?_
        refine zr_aload_n dX12_timber_47 rfl rfl ?_
        refine zr_getR dX12_timber_48 zf_X12_17 rfl (hS.has (a := 84) rfl rfl) (hS.ref (a := 86) rfl) ?_
        refine zr_aload_n dX12_timber_51 rfl rfl ?_
        refine zr_getIv (x := (I 84 3)) dX12_timber_52 zf_X12_191 rfl (hS.has (a := 84) rfl rfl) rfl ?_
        refine zr_iload_n dX12_timber_55 rfl rfl ?_
        refine zr_iast dX12_timber_56 (hS.has (a := 86) rfl rfl) hi1 ?_
        refine zr_aload_n dX12_timber_57 rfl rfl ?_
        refine zr_getR dX12_timber_58 zf_X12_20 rfl (hS.has (a := 84) rfl rfl) (hS.ref (a := 87) rfl) ?_
        refine zr_aload_n dX12_timber_61 rfl rfl ?_
        refine zr_getIv (x := (I 84 3)) dX12_timber_62 zf_X12_191 rfl (hS.has (a := 84) rfl rfl) rfl ?_
        refine zr_aload_n dX12_timber_65 rfl rfl ?_
        refine zr_getIv (x := (I 84 1)) dX12_timber_66 zf_X12_205 rfl (hS.has (a := 84) rfl rfl) rfl ?_
        refine zr_iast dX12_timber_69 (hS.has (a := 87) rfl rfl) hi1 ?_
        refine zr_aload_n dX12_timber_70 rfl rfl ?_
        refine zr_aload_n dX12_timber_71 rfl rfl ?_
        refine zr_getIv (x := (I 84 3)) dX12_timber_72 zf_X12_191 rfl (hS.has (a := 84) rfl rfl) rfl ?_
        refine zr_iconst (v := 1) dX12_timber_75 (by decide) ?_
        refine zr_iadd dX12_timber_76 ?_
        refine zr_putI dX12_timber_77 zf_X12_191 rfl (hS.has (a := 84) rfl rfl) rfl rfl ?_
        refine zr_aload_n dX12_timber_80 rfl rfl ?_
        refine zr_getIv (x := ((I 84 3) + (1 : Int32))) dX12_timber_81 zf_X12_191 rfl (hS.has (a := 84) rfl rfl) rfl ?_
        refine zr_iconst (v := 1) dX12_timber_84 (by decide) ?_
        refine zr_isub dX12_timber_85 ?_
        exact zr_ireturn dX12_timber_86 rfl rfl k
      · have k := k.2 hb
        refine zr_iconst (v := -1) dX12_timber_35 (by decide) ?_
        exact zr_ireturn dX12_timber_36 rfl rfl k
set_option maxHeartbeats 2000000 in
theorem vX12_joint_0 {G : Gp} {bc bs : Nat} {Q : zPost} {S : zSh} {I : zFI} {L : zFL} {v1 : Int32} {v2 : Int32} {v3 : Int32} {v4 : Int32} (hS : zStd S)  (k : (((p_X12_isIn v1 (0 : Int32) ((I 84 3) - (1 : Int32))) = 0 → Q (some (.int (-1 : Int32))) S (u2 I 84 0 (0 : Int32)) L) ∧ (¬ (p_X12_isIn v1 (0 : Int32) ((I 84 3) - (1 : Int32))) = 0 → vp_in v1 16 ∧ (((p_X12_isIn v2 (0 : Int32) (I 86 v1.toNatClampNeg)) = 0 → Q (some (.int (-1 : Int32))) S (u2 I 84 0 (0 : Int32)) L) ∧ (¬ (p_X12_isIn v2 (0 : Int32) (I 86 v1.toNatClampNeg)) = 0 → (((p_X12_isIn v3 (0 : Int32) (1 : Int32)) = 0 → Q (some (.int (-1 : Int32))) S (u2 I 84 0 (0 : Int32)) L) ∧ (¬ (p_X12_isIn v3 (0 : Int32) (1 : Int32)) = 0 → (((p_X12_isIn v4 (1 : Int32) (9 : Int32)) = 0 → Q (some (.int (-1 : Int32))) S (u2 I 84 0 (0 : Int32)) L) ∧ (¬ (p_X12_isIn v4 (1 : Int32) (9 : Int32)) = 0 → (((I 88 v1.toNatClampNeg) = (6 : Int32) → Q (some (.int (-1 : Int32))) S (u2 I 84 0 (0 : Int32)) L) ∧ (¬ (I 88 v1.toNatClampNeg) = (6 : Int32) → ((¬ (I 84 13) = (48 : Int32) → vp_in (I 84 13) 48 ∧ Q (some (.int (((I 84 13) + (1 : Int32)) - (1 : Int32)))) S (u2 (u2 (u2 (u2 (u2 (u2 (u2 (u2 I 84 0 (0 : Int32)) 94 (I 84 13).toNatClampNeg v1) 95 (I 84 13).toNatClampNeg v2) 96 (I 84 13).toNatClampNeg v3) 97 (I 84 13).toNatClampNeg v4) 98 (I 84 13).toNatClampNeg (I 84 1)) 88 v1.toNatClampNeg ((I 88 v1.toNatClampNeg) + (1 : Int32))) 84 13 ((I 84 13) + (1 : Int32))) L) ∧ ((I 84 13) = (48 : Int32) → Q (some (.int (-1 : Int32))) S (u2 I 84 0 (0 : Int32)) L))))))))))))) : ZW G mX12_joint fX12_joint lX12_joint 0 [zo G 84, .int v1, .int v2, .int v3, .int v4] [] S I L bc bs Q := by
  refine zr_aload_n dX12_joint_0 rfl rfl ?_
  refine zr_iconst (v := 0) dX12_joint_1 (by decide) ?_
  refine zr_putI dX12_joint_2 zf_X12_188 rfl (hS.has (a := 84) rfl rfl) rfl rfl ?_
  refine zr_aload_n dX12_joint_5 rfl rfl ?_
  refine zr_iload_n dX12_joint_6 rfl rfl ?_
  refine zr_iconst (v := 0) dX12_joint_7 (by decide) ?_
  refine zr_aload_n dX12_joint_8 rfl rfl ?_
  refine zr_getIv (x := (I 84 3)) dX12_joint_9 zf_X12_191 rfl (hS.has (a := 84) rfl rfl) rfl ?_
  refine zr_iconst (v := 1) dX12_joint_12 (by decide) ?_
  refine zr_isub dX12_joint_13 ?_
  refine zr_callV (As := [.int v1, .int (0 : Int32), .int ((I 84 3) - (1 : Int32))]) (fr' := fX12_isIn) (lo' := lX12_isIn) (bc' := 0) (bs' := 0) (bcr := bc) (bsr := bs) dX12_joint_14 zs_X12_201 zi_X12_isIn zcl_12 (hS.has (a := 84) rfl rfl) rfl rfl (Nat.le_of_ble_eq_true rfl) (Nat.le_of_ble_eq_true rfl) (Nat.le_of_ble_eq_true rfl) (Nat.le_refl _) (Nat.le_refl _) ?_
  refine sp_X12_isIn hS  ?_
  show ZW G mX12_joint fX12_joint lX12_joint 17 [zo G 84, .int v1, .int v2, .int v3, .int v4] [.int (p_X12_isIn v1 (0 : Int32) ((I 84 3) - (1 : Int32)))] S (u2 I 84 0 (0 : Int32)) L bc bs Q
  refine zr_ifeq (tgt := 77) dX12_joint_17 (by decide) (fun hb => ?_) (fun hb => ?_)
  · have k := k.1 hb
    refine zr_iconst (v := -1) dX12_joint_77 (by decide) ?_
    exact zr_ireturn dX12_joint_78 rfl rfl k
  · have k := k.2 hb
    refine zr_aload_n dX12_joint_20 rfl rfl ?_
    refine zr_iload_n dX12_joint_21 rfl rfl ?_
    refine zr_iconst (v := 0) dX12_joint_22 (by decide) ?_
    refine zr_aload_n dX12_joint_23 rfl rfl ?_
    refine zr_getR dX12_joint_24 zf_X12_17 rfl (hS.has (a := 84) rfl rfl) (hS.ref (a := 86) rfl) ?_
    refine zr_iload_n dX12_joint_27 rfl rfl ?_
    obtain ⟨hi1, k⟩ := k
    refine zr_ialdv (x := (I 86 v1.toNatClampNeg)) dX12_joint_28 (hS.has (a := 86) rfl rfl) hi1 rfl ?_
    refine zr_callV (As := [.int v2, .int (0 : Int32), .int (I 86 v1.toNatClampNeg)]) (fr' := fX12_isIn) (lo' := lX12_isIn) (bc' := 0) (bs' := 0) (bcr := bc) (bsr := bs) dX12_joint_29 zs_X12_201 zi_X12_isIn zcl_12 (hS.has (a := 84) rfl rfl) rfl rfl (Nat.le_of_ble_eq_true rfl) (Nat.le_of_ble_eq_true rfl) (Nat.le_of_ble_eq_true rfl) (Nat.le_refl _) (Nat.le_refl _) ?_
    refine sp_X12_isIn hS  ?_
    show ZW G mX12_joint fX12_joint lX12_joint 32 [zo G 84, .int v1, .int v2, .int v3, .int v4] [.int (p_X12_isIn v2 (0 : Int32) (I 86 v1.toNatClampNeg))] S (u2 I 84 0 (0 : Int32)) L bc bs Q
    refine zr_ifeq (tgt := 77) dX12_joint_32 (by decide) (fun hb => ?_) (fun hb => ?_)
    · have k := k.1 hb
      refine zr_iconst (v := -1) dX12_joint_77 (by decide) ?_
      exact zr_ireturn dX12_joint_78 rfl rfl k
    · have k := k.2 hb
      refine zr_aload_n dX12_joint_35 rfl rfl ?_
      refine zr_iload_n dX12_joint_36 rfl rfl ?_
      refine zr_iconst (v := 0) dX12_joint_37 (by decide) ?_
      refine zr_iconst (v := 1) dX12_joint_38 (by decide) ?_
      refine zr_callV (As := [.int v3, .int (0 : Int32), .int (1 : Int32)]) (fr' := fX12_isIn) (lo' := lX12_isIn) (bc' := 0) (bs' := 0) (bcr := bc) (bsr := bs) dX12_joint_39 zs_X12_201 zi_X12_isIn zcl_12 (hS.has (a := 84) rfl rfl) rfl rfl (Nat.le_of_ble_eq_true rfl) (Nat.le_of_ble_eq_true rfl) (Nat.le_of_ble_eq_true rfl) (Nat.le_refl _) (Nat.le_refl _) ?_
      refine sp_X12_isIn hS  ?_
      show ZW G mX12_joint fX12_joint lX12_joint 42 [zo G 84, .int v1, .int v2, .int v3, .int v4] [.int (p_X12_isIn v3 (0 : Int32) (1 : Int32))] S (u2 I 84 0 (0 : Int32)) L bc bs Q
      refine zr_ifeq (tgt := 77) dX12_joint_42 (by decide) (fun hb => ?_) (fun hb => ?_)
      · have k := k.1 hb
        refine zr_iconst (v := -1) dX12_joint_77 (by decide) ?_
        exact zr_ireturn dX12_joint_78 rfl rfl k
      · have k := k.2 hb
        refine zr_aload_n dX12_joint_45 rfl rfl ?_
        refine zr_iload dX12_joint_46 rfl ?_
        refine zr_iconst (v := 1) dX12_joint_48 (by decide) ?_
        refine zr_bipush (v := 9) dX12_joint_49 (by decide) ?_
        refine zr_callV (As := [.int v4, .int (1 : Int32), .int (9 : Int32)]) (fr' := fX12_isIn) (lo' := lX12_isIn) (bc' := 0) (bs' := 0) (bcr := bc) (bsr := bs) dX12_joint_51 zs_X12_201 zi_X12_isIn zcl_12 (hS.has (a := 84) rfl rfl) rfl rfl (Nat.le_of_ble_eq_true rfl) (Nat.le_of_ble_eq_true rfl) (Nat.le_of_ble_eq_true rfl) (Nat.le_refl _) (Nat.le_refl _) ?_
        refine sp_X12_isIn hS  ?_
        show ZW G mX12_joint fX12_joint lX12_joint 54 [zo G 84, .int v1, .int v2, .int v3, .int v4] [.int (p_X12_isIn v4 (1 : Int32) (9 : Int32))] S (u2 I 84 0 (0 : Int32)) L bc bs Q
        refine zr_ifeq (tgt := 77) dX12_joint_54 (by decide) (fun hb => ?_) (fun hb => ?_)
        · have k := k.1 hb
          refine zr_iconst (v := -1) dX12_joint_77 (by decide) ?_
          exact zr_ireturn dX12_joint_78 rfl rfl k
        · have k := k.2 hb
          refine zr_aload_n dX12_joint_57 rfl rfl ?_
          refine zr_getR dX12_joint_58 zf_X12_23 rfl (hS.has (a := 84) rfl rfl) (hS.ref (a := 88) rfl) ?_
          refine zr_iload_n dX12_joint_61 rfl rfl ?_
          refine zr_ialdv (x := (I 88 v1.toNatClampNeg)) dX12_joint_62 (hS.has (a := 88) rfl rfl) hi1 rfl ?_
          refine zr_bipush (v := 6) dX12_joint_63 (by decide) ?_
          refine zr_iceq (tgt := 77) dX12_joint_65 (by decide) (fun hb => ?_) (fun hb => ?_)
          · have k := k.1 hb
            refine zr_iconst (v := -1) dX12_joint_77 (by decide) ?_
            exact zr_ireturn dX12_joint_78 rfl rfl k
          · have k := k.2 hb
            refine zr_aload_n dX12_joint_68 rfl rfl ?_
            refine zr_getIv (x := (I 84 13)) dX12_joint_69 zf_X12_198 rfl (hS.has (a := 84) rfl rfl) rfl ?_
            refine zr_bipush (v := 48) dX12_joint_72 (by decide) ?_
            refine zr_icne (tgt := 79) dX12_joint_74 (by decide) (fun hb => ?_) (fun hb => ?_)
            · have k := k.1 hb
              refine zr_aload_n dX12_joint_79 rfl rfl ?_
              refine zr_getR dX12_joint_80 zf_X12_42 rfl (hS.has (a := 84) rfl rfl) (hS.ref (a := 94) rfl) ?_
              refine zr_aload_n dX12_joint_83 rfl rfl ?_
              refine zr_getIv (x := (I 84 13)) dX12_joint_84 zf_X12_198 rfl (hS.has (a := 84) rfl rfl) rfl ?_
              refine zr_iload_n dX12_joint_87 rfl rfl ?_
              obtain ⟨hi2, k⟩ := k
              refine zr_iast dX12_joint_88 (hS.has (a := 94) rfl rfl) hi2 ?_
              refine zr_aload_n dX12_joint_89 rfl rfl ?_
              refine zr_getR dX12_joint_90 zf_X12_45 rfl (hS.has (a := 84) rfl rfl) (hS.ref (a := 95) rfl) ?_
              refine zr_aload_n dX12_joint_93 rfl rfl ?_
              refine zr_getIv (x := (I 84 13)) dX12_joint_94 zf_X12_198 rfl (hS.has (a := 84) rfl rfl) rfl ?_
              refine zr_iload_n dX12_joint_97 rfl rfl ?_
              refine zr_iast dX12_joint_98 (hS.has (a := 95) rfl rfl) hi2 ?_
              refine zr_aload_n dX12_joint_99 rfl rfl ?_
              refine zr_getR dX12_joint_100 zf_X12_48 rfl (hS.has (a := 84) rfl rfl) (hS.ref (a := 96) rfl) ?_
              refine zr_aload_n dX12_joint_103 rfl rfl ?_
              refine zr_getIv (x := (I 84 13)) dX12_joint_104 zf_X12_198 rfl (hS.has (a := 84) rfl rfl) rfl ?_
              refine zr_iload_n dX12_joint_107 rfl rfl ?_
              refine zr_iast dX12_joint_108 (hS.has (a := 96) rfl rfl) hi2 ?_
              refine zr_aload_n dX12_joint_109 rfl rfl ?_
              refine zr_getR dX12_joint_110 zf_X12_51 rfl (hS.has (a := 84) rfl rfl) (hS.ref (a := 97) rfl) ?_
              refine zr_aload_n dX12_joint_113 rfl rfl ?_
              refine zr_getIv (x := (I 84 13)) dX12_joint_114 zf_X12_198 rfl (hS.has (a := 84) rfl rfl) rfl ?_
              refine zr_iload dX12_joint_117 rfl ?_
              refine zr_iast dX12_joint_119 (hS.has (a := 97) rfl rfl) hi2 ?_
              refine zr_aload_n dX12_joint_120 rfl rfl ?_
              refine zr_getR dX12_joint_121 zf_X12_54 rfl (hS.has (a := 84) rfl rfl) (hS.ref (a := 98) rfl) ?_
              refine zr_aload_n dX12_joint_124 rfl rfl ?_
              refine zr_getIv (x := (I 84 13)) dX12_joint_125 zf_X12_198 rfl (hS.has (a := 84) rfl rfl) rfl ?_
              refine zr_aload_n dX12_joint_128 rfl rfl ?_
              refine zr_getIv (x := (I 84 1)) dX12_joint_129 zf_X12_205 rfl (hS.has (a := 84) rfl rfl) rfl ?_
              refine zr_iast dX12_joint_132 (hS.has (a := 98) rfl rfl) hi2 ?_
              refine zr_aload_n dX12_joint_133 rfl rfl ?_
              refine zr_getR dX12_joint_134 zf_X12_23 rfl (hS.has (a := 84) rfl rfl) (hS.ref (a := 88) rfl) ?_
              refine zr_iload_n dX12_joint_137 rfl rfl ?_
              refine zr_aload_n dX12_joint_138 rfl rfl ?_
              refine zr_getR dX12_joint_139 zf_X12_23 rfl (hS.has (a := 84) rfl rfl) (hS.ref (a := 88) rfl) ?_
              refine zr_iload_n dX12_joint_142 rfl rfl ?_
              refine zr_ialdv (x := (I 88 v1.toNatClampNeg)) dX12_joint_143 (hS.has (a := 88) rfl rfl) hi1 rfl ?_
              refine zr_iconst (v := 1) dX12_joint_144 (by decide) ?_
              refine zr_iadd dX12_joint_145 ?_
              refine zr_iast dX12_joint_146 (hS.has (a := 88) rfl rfl) hi1 ?_
              refine zr_aload_n dX12_joint_147 rfl rfl ?_
              refine zr_aload_n dX12_joint_148 rfl rfl ?_
              refine zr_getIv (x := (I 84 13)) dX12_joint_149 zf_X12_198 rfl (hS.has (a := 84) rfl rfl) rfl ?_
              refine zr_iconst (v := 1) dX12_joint_152 (by decide) ?_
              refine zr_iadd dX12_joint_153 ?_
              refine zr_putI dX12_joint_154 zf_X12_198 rfl (hS.has (a := 84) rfl rfl) rfl rfl ?_
              refine zr_aload_n dX12_joint_157 rfl rfl ?_
              refine zr_getIv (x := ((I 84 13) + (1 : Int32))) dX12_joint_158 zf_X12_198 rfl (hS.has (a := 84) rfl rfl) rfl ?_
              refine zr_iconst (v := 1) dX12_joint_161 (by decide) ?_
              refine zr_isub dX12_joint_162 ?_
              exact zr_ireturn dX12_joint_163 rfl rfl k
            · have k := k.2 hb
              refine zr_iconst (v := -1) dX12_joint_77 (by decide) ?_
              exact zr_ireturn dX12_joint_78 rfl rfl k
set_option maxHeartbeats 2000000 in
theorem vX12_puts_0 {G : Gp} {bc bs : Nat} {Q : zPost} {S : zSh} {I : zFI} {L : zFL} {v1 : Int32} (hS : zStd S)  (k : ZW G mX12_puts fX12_puts lX12_puts 3 [zo G 84, .int v1, .int (24 : Int32)] [] S I L bc bs Q) : ZW G mX12_puts fX12_puts lX12_puts 0 [zo G 84, .int v1, .null] [] S I L bc bs Q := by
  refine zr_bipush (v := 24) dX12_puts_0 (by decide) ?_
  refine zr_istore_n dX12_puts_2 rfl (Nat.le_of_ble_eq_true rfl) rfl ?_
  exact k
set_option maxHeartbeats 2000000 in
theorem vX12_puts_3 {G : Gp} {bc bs : Nat} {Q : zPost} {S : zSh} {I : zFI} {L : zFL} {v1 : Int32} {v2 : Int32} (hS : zStd S)  (k : ((v2 < 0 → Q none S I L) ∧ (¬ v2 < 0 → vp_in (I 84 26) 800 ∧ ZW G mX12_puts fX12_puts lX12_puts 3 [zo G 84, .int v1, .int (v2 + (-8))] [] S (u2 (u2 I 104 (I 84 26).toNatClampNeg ((v1 >>> (v2 &&& 31)) &&& (255 : Int32))) 84 26 ((I 84 26) + (1 : Int32))) L bc bs Q))) : ZW G mX12_puts fX12_puts lX12_puts 3 [zo G 84, .int v1, .int v2] [] S I L bc bs Q := by
  refine zr_iload_n dX12_puts_3 rfl rfl ?_
  refine zr_iflt (tgt := 39) dX12_puts_4 (by decide) (fun hb => ?_) (fun hb => ?_)
  · have k := k.1 hb
    exact zr_return_ dX12_puts_39 rfl k
  · have k := k.2 hb
    refine zr_aload_n dX12_puts_7 rfl rfl ?_
    refine zr_getR dX12_puts_8 zf_X12_72 rfl (hS.has (a := 84) rfl rfl) (hS.ref (a := 104) rfl) ?_
    refine zr_aload_n dX12_puts_11 rfl rfl ?_
    refine zr_getIv (x := (I 84 26)) dX12_puts_12 zf_X12_208 rfl (hS.has (a := 84) rfl rfl) rfl ?_
    refine zr_iload_n dX12_puts_15 rfl rfl ?_
    refine zr_iload_n dX12_puts_16 rfl rfl ?_
    refine zr_ishr dX12_puts_17 ?_
    refine zr_sipush (v := 255) dX12_puts_18 (by decide) ?_
    refine zr_iand dX12_puts_21 ?_
    obtain ⟨hi1, k⟩ := k
    refine zr_iast dX12_puts_22 (hS.has (a := 104) rfl rfl) hi1 ?_
    refine zr_aload_n dX12_puts_23 rfl rfl ?_
    refine zr_aload_n dX12_puts_24 rfl rfl ?_
    refine zr_getIv (x := (I 84 26)) dX12_puts_25 zf_X12_208 rfl (hS.has (a := 84) rfl rfl) rfl ?_
    refine zr_iconst (v := 1) dX12_puts_28 (by decide) ?_
    refine zr_iadd dX12_puts_29 ?_
    refine zr_putI dX12_puts_30 zf_X12_208 rfl (hS.has (a := 84) rfl rfl) rfl rfl ?_
    refine zr_iinc (v := (v2 + (-8))) dX12_puts_33 rfl rfl (Nat.le_of_ble_eq_true rfl) rfl ?_
    refine zr_goto (tgt := 3) dX12_puts_36 (by decide) ?_
    exact k
set_option maxHeartbeats 2000000 in
theorem vX12_feed_0 {G : Gp} {bc bs : Nat} {Q : zPost} {S : zSh} {I : zFI} {L : zFL} {v1 : Int32} {v2 : Int32} {v3 : Int32} {v4 : Int32} {v5 : Int32} (hS : zStd S)  (k : (((I 84 26) ≤ (780 : Int32) → ZC G mX12_puts fX12_puts lX12_puts [zo G 84, .int v1] S (u2 I 84 0 (0 : Int32)) L 0 0 (fun w S' I1 L1 => w = none ∧ S = S' ∧ ZC G mX12_puts fX12_puts lX12_puts [zo G 84, .int v2] S I1 L1 0 0 (fun w S' I2 L2 => w = none ∧ S = S' ∧ ZC G mX12_puts fX12_puts lX12_puts [zo G 84, .int v3] S I2 L2 0 0 (fun w S' I3 L3 => w = none ∧ S = S' ∧ ZC G mX12_puts fX12_puts lX12_puts [zo G 84, .int v4] S I3 L3 0 0 (fun w S' I4 L4 => w = none ∧ S = S' ∧ ZC G mX12_puts fX12_puts lX12_puts [zo G 84, .int v5] S I4 L4 0 0 (fun w S' I5 L5 => w = none ∧ S = S' ∧ Q (some (.int (I5 84 26))) S I5 L5)))))) ∧ (¬ (I 84 26) ≤ (780 : Int32) → Q (some (.int (-1 : Int32))) S (u2 I 84 0 (0 : Int32)) L))) : ZW G mX12_feed fX12_feed lX12_feed 0 [zo G 84, .int v1, .int v2, .int v3, .int v4, .int v5] [] S I L bc bs Q := by
  refine zr_aload_n dX12_feed_0 rfl rfl ?_
  refine zr_iconst (v := 0) dX12_feed_1 (by decide) ?_
  refine zr_putI dX12_feed_2 zf_X12_188 rfl (hS.has (a := 84) rfl rfl) rfl rfl ?_
  refine zr_aload_n dX12_feed_5 rfl rfl ?_
  refine zr_getIv (x := (I 84 26)) dX12_feed_6 zf_X12_208 rfl (hS.has (a := 84) rfl rfl) rfl ?_
  refine zr_sipush (v := 780) dX12_feed_9 (by decide) ?_
  refine zr_icle (tgt := 17) dX12_feed_12 (by decide) (fun hb => ?_) (fun hb => ?_)
  · have k := k.1 hb
    refine zr_aload_n dX12_feed_17 rfl rfl ?_
    refine zr_iload_n dX12_feed_18 rfl rfl ?_
    refine zr_callV (As := [.int v1]) (fr' := fX12_puts) (lo' := lX12_puts) (bc' := 0) (bs' := 0) (bcr := bc) (bsr := bs) dX12_feed_19 zs_X12_211 zi_X12_puts zcl_12 (hS.has (a := 84) rfl rfl) rfl rfl (Nat.le_of_ble_eq_true rfl) (Nat.le_of_ble_eq_true rfl) (Nat.le_of_ble_eq_true rfl) (Nat.le_refl _) (Nat.le_refl _) ?_
    refine ZC.mono (fun w S' I1 L1 k => ?_) k
    obtain ⟨rfl, rfl, k⟩ := k
    show ZW G mX12_feed fX12_feed lX12_feed 22 [zo G 84, .int v1, .int v2, .int v3, .int v4, .int v5] [] S I1 L1 bc bs Q
    refine zr_aload_n dX12_feed_22 rfl rfl ?_
    refine zr_iload_n dX12_feed_23 rfl rfl ?_
    refine zr_callV (As := [.int v2]) (fr' := fX12_puts) (lo' := lX12_puts) (bc' := 0) (bs' := 0) (bcr := bc) (bsr := bs) dX12_feed_24 zs_X12_211 zi_X12_puts zcl_12 (hS.has (a := 84) rfl rfl) rfl rfl (Nat.le_of_ble_eq_true rfl) (Nat.le_of_ble_eq_true rfl) (Nat.le_of_ble_eq_true rfl) (Nat.le_refl _) (Nat.le_refl _) ?_
    refine ZC.mono (fun w S' I2 L2 k => ?_) k
    obtain ⟨rfl, rfl, k⟩ := k
    show ZW G mX12_feed fX12_feed lX12_feed 27 [zo G 84, .int v1, .int v2, .int v3, .int v4, .int v5] [] S I2 L2 bc bs Q
    refine zr_aload_n dX12_feed_27 rfl rfl ?_
    refine zr_iload_n dX12_feed_28 rfl rfl ?_
    refine zr_callV (As := [.int v3]) (fr' := fX12_puts) (lo' := lX12_puts) (bc' := 0) (bs' := 0) (bcr := bc) (bsr := bs) dX12_feed_29 zs_X12_211 zi_X12_puts zcl_12 (hS.has (a := 84) rfl rfl) rfl rfl (Nat.le_of_ble_eq_true rfl) (Nat.le_of_ble_eq_true rfl) (Nat.le_of_ble_eq_true rfl) (Nat.le_refl _) (Nat.le_refl _) ?_
    refine ZC.mono (fun w S' I3 L3 k => ?_) k
    obtain ⟨rfl, rfl, k⟩ := k
    show ZW G mX12_feed fX12_feed lX12_feed 32 [zo G 84, .int v1, .int v2, .int v3, .int v4, .int v5] [] S I3 L3 bc bs Q
    refine zr_aload_n dX12_feed_32 rfl rfl ?_
    refine zr_iload dX12_feed_33 rfl ?_
    refine zr_callV (As := [.int v4]) (fr' := fX12_puts) (lo' := lX12_puts) (bc' := 0) (bs' := 0) (bcr := bc) (bsr := bs) dX12_feed_35 zs_X12_211 zi_X12_puts zcl_12 (hS.has (a := 84) rfl rfl) rfl rfl (Nat.le_of_ble_eq_true rfl) (Nat.le_of_ble_eq_true rfl) (Nat.le_of_ble_eq_true rfl) (Nat.le_refl _) (Nat.le_refl _) ?_
    refine ZC.mono (fun w S' I4 L4 k => ?_) k
    obtain ⟨rfl, rfl, k⟩ := k
    show ZW G mX12_feed fX12_feed lX12_feed 38 [zo G 84, .int v1, .int v2, .int v3, .int v4, .int v5] [] S I4 L4 bc bs Q
    refine zr_aload_n dX12_feed_38 rfl rfl ?_
    refine zr_iload dX12_feed_39 rfl ?_
    refine zr_callV (As := [.int v5]) (fr' := fX12_puts) (lo' := lX12_puts) (bc' := 0) (bs' := 0) (bcr := bc) (bsr := bs) dX12_feed_41 zs_X12_211 zi_X12_puts zcl_12 (hS.has (a := 84) rfl rfl) rfl rfl (Nat.le_of_ble_eq_true rfl) (Nat.le_of_ble_eq_true rfl) (Nat.le_of_ble_eq_true rfl) (Nat.le_refl _) (Nat.le_refl _) ?_
    refine ZC.mono (fun w S' I5 L5 k => ?_) k
    obtain ⟨rfl, rfl, k⟩ := k
    show ZW G mX12_feed fX12_feed lX12_feed 44 [zo G 84, .int v1, .int v2, .int v3, .int v4, .int v5] [] S I5 L5 bc bs Q
    refine zr_aload_n dX12_feed_44 rfl rfl ?_
    refine zr_getIv (x := (I5 84 26)) dX12_feed_45 zf_X12_208 rfl (hS.has (a := 84) rfl rfl) rfl ?_
    exact zr_ireturn dX12_feed_48 rfl rfl k
  · have k := k.2 hb
    refine zr_iconst (v := -1) dX12_feed_15 (by decide) ?_
    exact zr_ireturn dX12_feed_16 rfl rfl k
set_option maxHeartbeats 2000000 in
theorem vX12_end_0 {G : Gp} {bc bs : Nat} {Q : zPost} {S : zSh} {I : zFI} {L : zFL} {v1 : Int32} (hS : zStd S)  (k : ((¬ (p_X12_isIn v1 (0 : Int32) (I 84 26)) = 0 → Q (some (.int (1 : Int32))) S (u2 (u2 I 84 0 (0 : Int32)) 84 26 v1) L) ∧ ((p_X12_isIn v1 (0 : Int32) (I 84 26)) = 0 → Q (some (.int (0 : Int32))) S (u2 I 84 0 (0 : Int32)) L))) : ZW G mX12_end fX12_end lX12_end 0 [zo G 84, .int v1] [] S I L bc bs Q := by
  refine zr_aload_n dX12_end_0 rfl rfl ?_
  refine zr_iconst (v := 0) dX12_end_1 (by decide) ?_
  refine zr_putI dX12_end_2 zf_X12_188 rfl (hS.has (a := 84) rfl rfl) rfl rfl ?_
  refine zr_aload_n dX12_end_5 rfl rfl ?_
  refine zr_iload_n dX12_end_6 rfl rfl ?_
  refine zr_iconst (v := 0) dX12_end_7 (by decide) ?_
  refine zr_aload_n dX12_end_8 rfl rfl ?_
  refine zr_getIv (x := (I 84 26)) dX12_end_9 zf_X12_208 rfl (hS.has (a := 84) rfl rfl) rfl ?_
  refine zr_callV (As := [.int v1, .int (0 : Int32), .int (I 84 26)]) (fr' := fX12_isIn) (lo' := lX12_isIn) (bc' := 0) (bs' := 0) (bcr := bc) (bsr := bs) dX12_end_12 zs_X12_201 zi_X12_isIn zcl_12 (hS.has (a := 84) rfl rfl) rfl rfl (Nat.le_of_ble_eq_true rfl) (Nat.le_of_ble_eq_true rfl) (Nat.le_of_ble_eq_true rfl) (Nat.le_refl _) (Nat.le_refl _) ?_
  refine sp_X12_isIn hS  ?_
  show ZW G mX12_end fX12_end lX12_end 15 [zo G 84, .int v1] [.int (p_X12_isIn v1 (0 : Int32) (I 84 26))] S (u2 I 84 0 (0 : Int32)) L bc bs Q
  refine zr_ifne (tgt := 20) dX12_end_15 (by decide) (fun hb => ?_) (fun hb => ?_)
  · have k := k.1 hb
    refine zr_aload_n dX12_end_20 rfl rfl ?_
    refine zr_iload_n dX12_end_21 rfl rfl ?_
    refine zr_putI dX12_end_22 zf_X12_208 rfl (hS.has (a := 84) rfl rfl) rfl rfl ?_
    refine zr_iconst (v := 1) dX12_end_25 (by decide) ?_
    exact zr_ireturn dX12_end_26 rfl rfl k
  · have k := k.2 hb
    refine zr_iconst (v := 0) dX12_end_18 (by decide) ?_
    exact zr_ireturn dX12_end_19 rfl rfl k
set_option maxHeartbeats 2000000 in
theorem vX12_isSign_0 {G : Gp} {bc bs : Nat} {Q : zPost} {S : zSh} {I : zFI} {L : zFL} {v1 : Int32} (hS : zStd S)  (k : ((v1 = (73 : Int32) → Q (some (.int (1 : Int32))) S I L) ∧ (¬ v1 = (73 : Int32) → ((v1 = (86 : Int32) → Q (some (.int (1 : Int32))) S I L) ∧ (¬ v1 = (86 : Int32) → ((v1 = (88 : Int32) → Q (some (.int (1 : Int32))) S I L) ∧ (¬ v1 = (88 : Int32) → ((¬ v1 = (63 : Int32) → Q (some (.int (0 : Int32))) S I L) ∧ (v1 = (63 : Int32) → Q (some (.int (1 : Int32))) S I L))))))))) : ZW G mX12_isSign fX12_isSign lX12_isSign 0 [zo G 84, .int v1] [] S I L bc bs Q := by
  refine zr_iload_n dX12_isSign_0 rfl rfl ?_
  refine zr_bipush (v := 73) dX12_isSign_1 (by decide) ?_
  refine zr_iceq (tgt := 24) dX12_isSign_3 (by decide) (fun hb => ?_) (fun hb => ?_)
  · have k := k.1 hb
    refine zr_iconst (v := 1) dX12_isSign_24 (by decide) ?_
    refine zr_goto (tgt := 29) dX12_isSign_25 (by decide) ?_
    exact zr_ireturn dX12_isSign_29 rfl rfl k
  · have k := k.2 hb
    refine zr_iload_n dX12_isSign_6 rfl rfl ?_
    refine zr_bipush (v := 86) dX12_isSign_7 (by decide) ?_
    refine zr_iceq (tgt := 24) dX12_isSign_9 (by decide) (fun hb => ?_) (fun hb => ?_)
    · have k := k.1 hb
      refine zr_iconst (v := 1) dX12_isSign_24 (by decide) ?_
      refine zr_goto (tgt := 29) dX12_isSign_25 (by decide) ?_
      exact zr_ireturn dX12_isSign_29 rfl rfl k
    · have k := k.2 hb
      refine zr_iload_n dX12_isSign_12 rfl rfl ?_
      refine zr_bipush (v := 88) dX12_isSign_13 (by decide) ?_
      refine zr_iceq (tgt := 24) dX12_isSign_15 (by decide) (fun hb => ?_) (fun hb => ?_)
      · have k := k.1 hb
        refine zr_iconst (v := 1) dX12_isSign_24 (by decide) ?_
        refine zr_goto (tgt := 29) dX12_isSign_25 (by decide) ?_
        exact zr_ireturn dX12_isSign_29 rfl rfl k
      · have k := k.2 hb
        refine zr_iload_n dX12_isSign_18 rfl rfl ?_
        refine zr_bipush (v := 63) dX12_isSign_19 (by decide) ?_
        refine zr_icne (tgt := 28) dX12_isSign_21 (by decide) (fun hb => ?_) (fun hb => ?_)
        · have k := k.1 hb
          refine zr_iconst (v := 0) dX12_isSign_28 (by decide) ?_
          exact zr_ireturn dX12_isSign_29 rfl rfl k
        · have k := k.2 hb
          refine zr_iconst (v := 1) dX12_isSign_24 (by decide) ?_
          refine zr_goto (tgt := 29) dX12_isSign_25 (by decide) ?_
          exact zr_ireturn dX12_isSign_29 rfl rfl k
def p_X12_isSign  (v1 : Int32) : Int32 := (if v1 = (73 : Int32) then (1 : Int32) else (if v1 = (86 : Int32) then (1 : Int32) else (if v1 = (88 : Int32) then (1 : Int32) else (if v1 = (63 : Int32) then (1 : Int32) else (0 : Int32)))))
set_option maxHeartbeats 2000000 in
theorem sp_X12_isSign {G : Gp} {Q : zPost} {S : zSh} {I : zFI} {L : zFL} {v1 : Int32} (hS : zStd S)  (h : Q (some (.int (p_X12_isSign  v1))) S I L) : ZC G mX12_isSign fX12_isSign lX12_isSign [zo G 84, .int v1] S I L 0 0 Q := by
  refine ZC.of' (vX12_isSign_0 hS  ?_) rfl (Nat.le_of_ble_eq_true rfl) rfl
  unfold p_X12_isSign at h
  refine ⟨fun hb1 => ?_, fun hb1 => ?_⟩
  · rw [if_pos hb1] at h
    exact h
  · rw [if_neg hb1] at h
    refine ⟨fun hb2 => ?_, fun hb2 => ?_⟩
    · rw [if_pos hb2] at h
      exact h
    · rw [if_neg hb2] at h
      refine ⟨fun hb3 => ?_, fun hb3 => ?_⟩
      · rw [if_pos hb3] at h
        exact h
      · rw [if_neg hb3] at h
        refine ⟨fun hb4 => ?_, fun hb4 => ?_⟩
        · rw [if_neg hb4] at h
          exact h
        · rw [if_pos hb4] at h
          exact h
theorem pb_X12_isSign  (v1 : Int32) : p_X12_isSign  v1 = 0 ∨ p_X12_isSign  v1 = 1 := by
  unfold p_X12_isSign
  repeat' split
  all_goals first | exact Or.inl rfl | exact Or.inr rfl | assumption
set_option maxHeartbeats 2000000 in
theorem vX12_mark_0 {G : Gp} {bc bs : Nat} {Q : zPost} {S : zSh} {I : zFI} {L : zFL} {v1 : Int32} (hS : zStd S)  (k : (((I 84 26) ≤ 0 → (((p_X12_isIn v1 (0 : Int32) ((I 84 13) - (1 : Int32))) = 0 → Q (some (.int (-1 : Int32))) S (u2 (u2 I 84 0 (0 : Int32)) 84 26 (0 : Int32)) L) ∧ (¬ (p_X12_isIn v1 (0 : Int32) ((I 84 13) - (1 : Int32))) = 0 → (((6 : Int32) < ((I 84 26) - (0 : Int32)) → Q (some (.int (-1 : Int32))) S (u2 (u2 I 84 0 (0 : Int32)) 84 26 (0 : Int32)) L) ∧ (¬ (6 : Int32) < ((I 84 26) - (0 : Int32)) → ((¬ (I 84 19) = (200 : Int32) → ZW G mX12_mark fX12_mark lX12_mark 80 [zo G 84, .int v1, .int (I 84 26), .int (0 : Int32), .int ((I 84 26) - (0 : Int32)), .int (0 : Int32)] [] S (u2 (u2 I 84 0 (0 : Int32)) 84 26 (0 : Int32)) L bc bs Q) ∧ ((I 84 19) = (200 : Int32) → Q (some (.int (-1 : Int32))) S (u2 (u2 I 84 0 (0 : Int32)) 84 26 (0 : Int32)) L))))))) ∧ (¬ (I 84 26) ≤ 0 → vp_in ((I 84 26) - (1 : Int32)) 800 ∧ ((¬ (I 104 ((I 84 26) - (1 : Int32)).toNatClampNeg) = (39 : Int32) → (((p_X12_isIn v1 (0 : Int32) ((I 84 13) - (1 : Int32))) = 0 → Q (some (.int (-1 : Int32))) S (u2 (u2 I 84 0 (0 : Int32)) 84 26 (0 : Int32)) L) ∧ (¬ (p_X12_isIn v1 (0 : Int32) ((I 84 13) - (1 : Int32))) = 0 → (((6 : Int32) < ((I 84 26) - (0 : Int32)) → Q (some (.int (-1 : Int32))) S (u2 (u2 I 84 0 (0 : Int32)) 84 26 (0 : Int32)) L) ∧ (¬ (6 : Int32) < ((I 84 26) - (0 : Int32)) → ((¬ (I 84 19) = (200 : Int32) → ZW G mX12_mark fX12_mark lX12_mark 80 [zo G 84, .int v1, .int (I 84 26), .int (0 : Int32), .int ((I 84 26) - (0 : Int32)), .int (0 : Int32)] [] S (u2 (u2 I 84 0 (0 : Int32)) 84 26 (0 : Int32)) L bc bs Q) ∧ ((I 84 19) = (200 : Int32) → Q (some (.int (-1 : Int32))) S (u2 (u2 I 84 0 (0 : Int32)) 84 26 (0 : Int32)) L))))))) ∧ ((I 104 ((I 84 26) - (1 : Int32)).toNatClampNeg) = (39 : Int32) → (((p_X12_isIn v1 (0 : Int32) ((I 84 13) - (1 : Int32))) = 0 → Q (some (.int (-1 : Int32))) S (u2 (u2 I 84 0 (0 : Int32)) 84 26 (0 : Int32)) L) ∧ (¬ (p_X12_isIn v1 (0 : Int32) ((I 84 13) - (1 : Int32))) = 0 → (((6 : Int32) < ((I 84 26) - (1 : Int32)) → Q (some (.int (-1 : Int32))) S (u2 (u2 I 84 0 (0 : Int32)) 84 26 (0 : Int32)) L) ∧ (¬ (6 : Int32) < ((I 84 26) - (1 : Int32)) → ((¬ (I 84 19) = (200 : Int32) → ZW G mX12_mark fX12_mark lX12_mark 80 [zo G 84, .int v1, .int (I 84 26), .int (1 : Int32), .int ((I 84 26) - (1 : Int32)), .int (0 : Int32)] [] S (u2 (u2 I 84 0 (0 : Int32)) 84 26 (0 : Int32)) L bc bs Q) ∧ ((I 84 19) = (200 : Int32) → Q (some (.int (-1 : Int32))) S (u2 (u2 I 84 0 (0 : Int32)) 84 26 (0 : Int32)) L))))))))))) : ZW G mX12_mark fX12_mark lX12_mark 0 [zo G 84, .int v1, .null, .null, .null, .null] [] S I L bc bs Q := by
  refine zr_aload_n dX12_mark_0 rfl rfl ?_
  refine zr_iconst (v := 0) dX12_mark_1 (by decide) ?_
  refine zr_putI dX12_mark_2 zf_X12_188 rfl (hS.has (a := 84) rfl rfl) rfl rfl ?_
  refine zr_aload_n dX12_mark_5 rfl rfl ?_
  refine zr_getIv (x := (I 84 26)) dX12_mark_6 zf_X12_208 rfl (hS.has (a := 84) rfl rfl) rfl ?_
  refine zr_istore_n dX12_mark_9 rfl (Nat.le_of_ble_eq_true rfl) rfl ?_
  refine zr_aload_n dX12_mark_10 rfl rfl ?_
  refine zr_iconst (v := 0) dX12_mark_11 (by decide) ?_
  refine zr_putI dX12_mark_12 zf_X12_208 rfl (hS.has (a := 84) rfl rfl) rfl rfl ?_
  refine zr_iload_n dX12_mark_15 rfl rfl ?_
  refine zr_ifle (tgt := 36) dX12_mark_16 (by decide) (fun hb => ?_) (fun hb => ?_)
  · have k := k.1 hb
    refine zr_iconst (v := 0) dX12_mark_36 (by decide) ?_
    refine zr_istore_n dX12_mark_37 rfl (Nat.le_of_ble_eq_true rfl) rfl ?_
    refine zr_iload_n dX12_mark_38 rfl rfl ?_
    refine zr_iload_n dX12_mark_39 rfl rfl ?_
    refine zr_isub dX12_mark_40 ?_
    refine zr_istore dX12_mark_41 (Nat.le_of_ble_eq_true rfl) rfl ?_
    refine zr_aload_n dX12_mark_43 rfl rfl ?_
    refine zr_iload_n dX12_mark_44 rfl rfl ?_
    refine zr_iconst (v := 0) dX12_mark_45 (by decide) ?_
    refine zr_aload_n dX12_mark_46 rfl rfl ?_
    refine zr_getIv (x := (I 84 13)) dX12_mark_47 zf_X12_198 rfl (hS.has (a := 84) rfl rfl) rfl ?_
    refine zr_iconst (v := 1) dX12_mark_50 (by decide) ?_
    refine zr_isub dX12_mark_51 ?_
    refine zr_callV (As := [.int v1, .int (0 : Int32), .int ((I 84 13) - (1 : Int32))]) (fr' := fX12_isIn) (lo' := lX12_isIn) (bc' := 0) (bs' := 0) (bcr := bc) (bsr := bs) dX12_mark_52 zs_X12_201 zi_X12_isIn zcl_12 (hS.has (a := 84) rfl rfl) rfl rfl (Nat.le_of_ble_eq_true rfl) (Nat.le_of_ble_eq_true rfl) (Nat.le_of_ble_eq_true rfl) (Nat.le_refl _) (Nat.le_refl _) ?_
    refine sp_X12_isIn hS  ?_
    show ZW G mX12_mark fX12_mark lX12_mark 55 [zo G 84, .int v1, .int (I 84 26), .int (0 : Int32), .int ((I 84 26) - (0 : Int32)), .null] [.int (p_X12_isIn v1 (0 : Int32) ((I 84 13) - (1 : Int32)))] S (u2 (u2 I 84 0 (0 : Int32)) 84 26 (0 : Int32)) L bc bs Q
    refine zr_ifeq (tgt := 75) dX12_mark_55 (by decide) (fun hb => ?_) (fun hb => ?_)
    · have k := k.1 hb
      refine zr_iconst (v := -1) dX12_mark_75 (by decide) ?_
      exact zr_ireturn dX12_mark_76 rfl rfl k
    · have k := k.2 hb
      refine zr_iload dX12_mark_58 rfl ?_
      refine zr_bipush (v := 6) dX12_mark_60 (by decide) ?_
      refine zr_icgt (tgt := 75) dX12_mark_62 (by decide) (fun hb => ?_) (fun hb => ?_)
      · have k := k.1 hb
        refine zr_iconst (v := -1) dX12_mark_75 (by decide) ?_
        exact zr_ireturn dX12_mark_76 rfl rfl k
      · have k := k.2 hb
        refine zr_aload_n dX12_mark_65 rfl rfl ?_
        refine zr_getIv (x := (I 84 19)) dX12_mark_66 zf_X12_215 rfl (hS.has (a := 84) rfl rfl) rfl ?_
        refine zr_sipush (v := 200) dX12_mark_69 (by decide) ?_
        refine zr_icne (tgt := 77) dX12_mark_72 (by decide) (fun hb => ?_) (fun hb => ?_)
        · have k := k.1 hb
          refine zr_iconst (v := 0) dX12_mark_77 (by decide) ?_
          refine zr_istore dX12_mark_78 (Nat.le_of_ble_eq_true rfl) rfl ?_
          exact k
        · have k := k.2 hb
          refine zr_iconst (v := -1) dX12_mark_75 (by decide) ?_
          exact zr_ireturn dX12_mark_76 rfl rfl k
  · have k := k.2 hb
    refine zr_aload_n dX12_mark_19 rfl rfl ?_
    refine zr_getR dX12_mark_20 zf_X12_72 rfl (hS.has (a := 84) rfl rfl) (hS.ref (a := 104) rfl) ?_
    refine zr_iload_n dX12_mark_23 rfl rfl ?_
    refine zr_iconst (v := 1) dX12_mark_24 (by decide) ?_
    refine zr_isub dX12_mark_25 ?_
    obtain ⟨hi1, k⟩ := k
    refine zr_ialdv (x := (I 104 ((I 84 26) - (1 : Int32)).toNatClampNeg)) dX12_mark_26 (hS.has (a := 104) rfl rfl) hi1 rfl ?_
    refine zr_bipush (v := 39) dX12_mark_27 (by decide) ?_
    refine zr_icne (tgt := 36) dX12_mark_29 (by decide) (fun hb => ?_) (fun hb => ?_)
    · have k := k.1 hb
      refine zr_iconst (v := 0) dX12_mark_36 (by decide) ?_
      refine zr_istore_n dX12_mark_37 rfl (Nat.le_of_ble_eq_true rfl) rfl ?_
      refine zr_iload_n dX12_mark_38 rfl rfl ?_
      refine zr_iload_n dX12_mark_39 rfl rfl ?_
      refine zr_isub dX12_mark_40 ?_
      refine zr_istore dX12_mark_41 (Nat.le_of_ble_eq_true rfl) rfl ?_
      refine zr_aload_n dX12_mark_43 rfl rfl ?_
      refine zr_iload_n dX12_mark_44 rfl rfl ?_
      refine zr_iconst (v := 0) dX12_mark_45 (by decide) ?_
      refine zr_aload_n dX12_mark_46 rfl rfl ?_
      refine zr_getIv (x := (I 84 13)) dX12_mark_47 zf_X12_198 rfl (hS.has (a := 84) rfl rfl) rfl ?_
      refine zr_iconst (v := 1) dX12_mark_50 (by decide) ?_
      refine zr_isub dX12_mark_51 ?_
      refine zr_callV (As := [.int v1, .int (0 : Int32), .int ((I 84 13) - (1 : Int32))]) (fr' := fX12_isIn) (lo' := lX12_isIn) (bc' := 0) (bs' := 0) (bcr := bc) (bsr := bs) dX12_mark_52 zs_X12_201 zi_X12_isIn zcl_12 (hS.has (a := 84) rfl rfl) rfl rfl (Nat.le_of_ble_eq_true rfl) (Nat.le_of_ble_eq_true rfl) (Nat.le_of_ble_eq_true rfl) (Nat.le_refl _) (Nat.le_refl _) ?_
      refine sp_X12_isIn hS  ?_
      show ZW G mX12_mark fX12_mark lX12_mark 55 [zo G 84, .int v1, .int (I 84 26), .int (0 : Int32), .int ((I 84 26) - (0 : Int32)), .null] [.int (p_X12_isIn v1 (0 : Int32) ((I 84 13) - (1 : Int32)))] S (u2 (u2 I 84 0 (0 : Int32)) 84 26 (0 : Int32)) L bc bs Q
      refine zr_ifeq (tgt := 75) dX12_mark_55 (by decide) (fun hb => ?_) (fun hb => ?_)
      · have k := k.1 hb
        refine zr_iconst (v := -1) dX12_mark_75 (by decide) ?_
        exact zr_ireturn dX12_mark_76 rfl rfl k
      · have k := k.2 hb
        refine zr_iload dX12_mark_58 rfl ?_
        refine zr_bipush (v := 6) dX12_mark_60 (by decide) ?_
        refine zr_icgt (tgt := 75) dX12_mark_62 (by decide) (fun hb => ?_) (fun hb => ?_)
        · have k := k.1 hb
          refine zr_iconst (v := -1) dX12_mark_75 (by decide) ?_
          exact zr_ireturn dX12_mark_76 rfl rfl k
        · have k := k.2 hb
          refine zr_aload_n dX12_mark_65 rfl rfl ?_
          refine zr_getIv (x := (I 84 19)) dX12_mark_66 zf_X12_215 rfl (hS.has (a := 84) rfl rfl) rfl ?_
          refine zr_sipush (v := 200) dX12_mark_69 (by decide) ?_
          refine zr_icne (tgt := 77) dX12_mark_72 (by decide) (fun hb => ?_) (fun hb => ?_)
          · have k := k.1 hb
            refine zr_iconst (v := 0) dX12_mark_77 (by decide) ?_
            refine zr_istore dX12_mark_78 (Nat.le_of_ble_eq_true rfl) rfl ?_
            exact k
          · have k := k.2 hb
            refine zr_iconst (v := -1) dX12_mark_75 (by decide) ?_
            exact zr_ireturn dX12_mark_76 rfl rfl k
    · have k := k.2 hb
      refine zr_iconst (v := 1) dX12_mark_32 (by decide) ?_
      refine zr_goto (tgt := 37) dX12_mark_33 (by decide) ?_
      refine zr_istore_n dX12_mark_37 rfl (Nat.le_of_ble_eq_true rfl) rfl ?_
      refine zr_iload_n dX12_mark_38 rfl rfl ?_
      refine zr_iload_n dX12_mark_39 rfl rfl ?_
      refine zr_isub dX12_mark_40 ?_
      refine zr_istore dX12_mark_41 (Nat.le_of_ble_eq_true rfl) rfl ?_
      refine zr_aload_n dX12_mark_43 rfl rfl ?_
      refine zr_iload_n dX12_mark_44 rfl rfl ?_
      refine zr_iconst (v := 0) dX12_mark_45 (by decide) ?_
      refine zr_aload_n dX12_mark_46 rfl rfl ?_
      refine zr_getIv (x := (I 84 13)) dX12_mark_47 zf_X12_198 rfl (hS.has (a := 84) rfl rfl) rfl ?_
      refine zr_iconst (v := 1) dX12_mark_50 (by decide) ?_
      refine zr_isub dX12_mark_51 ?_
      refine zr_callV (As := [.int v1, .int (0 : Int32), .int ((I 84 13) - (1 : Int32))]) (fr' := fX12_isIn) (lo' := lX12_isIn) (bc' := 0) (bs' := 0) (bcr := bc) (bsr := bs) dX12_mark_52 zs_X12_201 zi_X12_isIn zcl_12 (hS.has (a := 84) rfl rfl) rfl rfl (Nat.le_of_ble_eq_true rfl) (Nat.le_of_ble_eq_true rfl) (Nat.le_of_ble_eq_true rfl) (Nat.le_refl _) (Nat.le_refl _) ?_
      refine sp_X12_isIn hS  ?_
      show ZW G mX12_mark fX12_mark lX12_mark 55 [zo G 84, .int v1, .int (I 84 26), .int (1 : Int32), .int ((I 84 26) - (1 : Int32)), .null] [.int (p_X12_isIn v1 (0 : Int32) ((I 84 13) - (1 : Int32)))] S (u2 (u2 I 84 0 (0 : Int32)) 84 26 (0 : Int32)) L bc bs Q
      refine zr_ifeq (tgt := 75) dX12_mark_55 (by decide) (fun hb => ?_) (fun hb => ?_)
      · have k := k.1 hb
        refine zr_iconst (v := -1) dX12_mark_75 (by decide) ?_
        exact zr_ireturn dX12_mark_76 rfl rfl k
      · have k := k.2 hb
        refine zr_iload dX12_mark_58 rfl ?_
        refine zr_bipush (v := 6) dX12_mark_60 (by decide) ?_
        refine zr_icgt (tgt := 75) dX12_mark_62 (by decide) (fun hb => ?_) (fun hb => ?_)
        · have k := k.1 hb
          refine zr_iconst (v := -1) dX12_mark_75 (by decide) ?_
          exact zr_ireturn dX12_mark_76 rfl rfl k
        · have k := k.2 hb
          refine zr_aload_n dX12_mark_65 rfl rfl ?_
          refine zr_getIv (x := (I 84 19)) dX12_mark_66 zf_X12_215 rfl (hS.has (a := 84) rfl rfl) rfl ?_
          refine zr_sipush (v := 200) dX12_mark_69 (by decide) ?_
          refine zr_icne (tgt := 77) dX12_mark_72 (by decide) (fun hb => ?_) (fun hb => ?_)
          · have k := k.1 hb
            refine zr_iconst (v := 0) dX12_mark_77 (by decide) ?_
            refine zr_istore dX12_mark_78 (Nat.le_of_ble_eq_true rfl) rfl ?_
            exact k
          · have k := k.2 hb
            refine zr_iconst (v := -1) dX12_mark_75 (by decide) ?_
            exact zr_ireturn dX12_mark_76 rfl rfl k
set_option maxHeartbeats 2000000 in
theorem vX12_mark_80 {G : Gp} {bc bs : Nat} {Q : zPost} {S : zSh} {I : zFI} {L : zFL} {v1 : Int32} {v2 : Int32} {v3 : Int32} {v4 : Int32} {v5 : Int32} (hS : zStd S)  (k : ((v4 ≤ v5 → vp_in (I 84 19) 200 ∧ ZW G mX12_mark fX12_mark lX12_mark 156 [zo G 84, .int v1, .int v2, .int v3, .int v4, .int (0 : Int32)] [] S (u2 (u2 (u2 (u2 I 99 (I 84 19).toNatClampNeg v1) 100 (I 84 19).toNatClampNeg (I 84 1)) 101 (I 84 19).toNatClampNeg v4) 102 (I 84 19).toNatClampNeg v3) L bc bs Q) ∧ (¬ v4 ≤ v5 → vp_in v5 800 ∧ ((¬ (p_X12_isSign (I 104 v5.toNatClampNeg)) = 0 → ZW G mX12_mark fX12_mark lX12_mark 80 [zo G 84, .int v1, .int v2, .int v3, .int v4, .int (v5 + 1)] [] S I L bc bs Q) ∧ ((p_X12_isSign (I 104 v5.toNatClampNeg)) = 0 → Q (some (.int (-1 : Int32))) S I L))))) : ZW G mX12_mark fX12_mark lX12_mark 80 [zo G 84, .int v1, .int v2, .int v3, .int v4, .int v5] [] S I L bc bs Q := by
  refine zr_iload dX12_mark_80 rfl ?_
  refine zr_iload dX12_mark_82 rfl ?_
  refine zr_icge (tgt := 109) dX12_mark_84 (by decide) (fun hb => ?_) (fun hb => ?_)
  · have k := k.1 hb
    refine zr_aload_n dX12_mark_109 rfl rfl ?_
    refine zr_getR dX12_mark_110 zf_X12_57 rfl (hS.has (a := 84) rfl rfl) (hS.ref (a := 99) rfl) ?_
    refine zr_aload_n dX12_mark_113 rfl rfl ?_
    refine zr_getIv (x := (I 84 19)) dX12_mark_114 zf_X12_215 rfl (hS.has (a := 84) rfl rfl) rfl ?_
    refine zr_iload_n dX12_mark_117 rfl rfl ?_
    obtain ⟨hi2, k⟩ := k
    refine zr_iast dX12_mark_118 (hS.has (a := 99) rfl rfl) hi2 ?_
    refine zr_aload_n dX12_mark_119 rfl rfl ?_
    refine zr_getR dX12_mark_120 zf_X12_60 rfl (hS.has (a := 84) rfl rfl) (hS.ref (a := 100) rfl) ?_
    refine zr_aload_n dX12_mark_123 rfl rfl ?_
    refine zr_getIv (x := (I 84 19)) dX12_mark_124 zf_X12_215 rfl (hS.has (a := 84) rfl rfl) rfl ?_
    refine zr_aload_n dX12_mark_127 rfl rfl ?_
    refine zr_getIv (x := (I 84 1)) dX12_mark_128 zf_X12_205 rfl (hS.has (a := 84) rfl rfl) rfl ?_
    refine zr_iast dX12_mark_131 (hS.has (a := 100) rfl rfl) hi2 ?_
    refine zr_aload_n dX12_mark_132 rfl rfl ?_
    refine zr_getR dX12_mark_133 zf_X12_63 rfl (hS.has (a := 84) rfl rfl) (hS.ref (a := 101) rfl) ?_
    refine zr_aload_n dX12_mark_136 rfl rfl ?_
    refine zr_getIv (x := (I 84 19)) dX12_mark_137 zf_X12_215 rfl (hS.has (a := 84) rfl rfl) rfl ?_
    refine zr_iload dX12_mark_140 rfl ?_
    refine zr_iast dX12_mark_142 (hS.has (a := 101) rfl rfl) hi2 ?_
    refine zr_aload_n dX12_mark_143 rfl rfl ?_
    refine zr_getR dX12_mark_144 zf_X12_66 rfl (hS.has (a := 84) rfl rfl) (hS.ref (a := 102) rfl) ?_
    refine zr_aload_n dX12_mark_147 rfl rfl ?_
    refine zr_getIv (x := (I 84 19)) dX12_mark_148 zf_X12_215 rfl (hS.has (a := 84) rfl rfl) rfl ?_
    refine zr_iload_n dX12_mark_151 rfl rfl ?_
    refine zr_iast dX12_mark_152 (hS.has (a := 102) rfl rfl) hi2 ?_
    refine zr_iconst (v := 0) dX12_mark_153 (by decide) ?_
    refine zr_istore dX12_mark_154 (Nat.le_of_ble_eq_true rfl) rfl ?_
    exact k
  · have k := k.2 hb
    refine zr_aload_n dX12_mark_87 rfl rfl ?_
    refine zr_aload_n dX12_mark_88 rfl rfl ?_
    refine zr_getR dX12_mark_89 zf_X12_72 rfl (hS.has (a := 84) rfl rfl) (hS.ref (a := 104) rfl) ?_
    refine zr_iload dX12_mark_92 rfl ?_
    obtain ⟨hi3, k⟩ := k
    refine zr_ialdv (x := (I 104 v5.toNatClampNeg)) dX12_mark_94 (hS.has (a := 104) rfl rfl) hi3 rfl ?_
    refine zr_callV (As := [.int (I 104 v5.toNatClampNeg)]) (fr' := fX12_isSign) (lo' := lX12_isSign) (bc' := 0) (bs' := 0) (bcr := bc) (bsr := bs) dX12_mark_95 zs_X12_218 zi_X12_isSign zcl_12 (hS.has (a := 84) rfl rfl) rfl rfl (Nat.le_of_ble_eq_true rfl) (Nat.le_of_ble_eq_true rfl) (Nat.le_of_ble_eq_true rfl) (Nat.le_refl _) (Nat.le_refl _) ?_
    refine sp_X12_isSign hS  ?_
    show ZW G mX12_mark fX12_mark lX12_mark 98 [zo G 84, .int v1, .int v2, .int v3, .int v4, .int v5] [.int (p_X12_isSign (I 104 v5.toNatClampNeg))] S I L bc bs Q
    refine zr_ifne (tgt := 103) dX12_mark_98 (by decide) (fun hb => ?_) (fun hb => ?_)
    · have k := k.1 hb
      refine zr_iinc (v := (v5 + 1)) dX12_mark_103 rfl rfl (Nat.le_of_ble_eq_true rfl) rfl ?_
      refine zr_goto (tgt := 80) dX12_mark_106 (by decide) ?_
      exact k
    · have k := k.2 hb
      refine zr_iconst (v := -1) dX12_mark_101 (by decide) ?_
      exact zr_ireturn dX12_mark_102 rfl rfl k
set_option maxHeartbeats 2000000 in
theorem vX12_mark_156 {G : Gp} {bc bs : Nat} {Q : zPost} {S : zSh} {I : zFI} {L : zFL} {v1 : Int32} {v2 : Int32} {v3 : Int32} {v4 : Int32} {v5 : Int32} (hS : zStd S)  (k : ((v4 ≤ v5 → Q (some (.int v4)) S (u2 I 84 19 ((I 84 19) + (1 : Int32))) L) ∧ (¬ v4 ≤ v5 → vp_in v5 800 ∧ vp_in (((6 : Int32) * (I 84 19)) + v5) 1200 ∧ ZW G mX12_mark fX12_mark lX12_mark 156 [zo G 84, .int v1, .int v2, .int v3, .int v4, .int (v5 + 1)] [] S (u2 I 103 (((6 : Int32) * (I 84 19)) + v5).toNatClampNeg (I 104 v5.toNatClampNeg)) L bc bs Q))) : ZW G mX12_mark fX12_mark lX12_mark 156 [zo G 84, .int v1, .int v2, .int v3, .int v4, .int v5] [] S I L bc bs Q := by
  refine zr_iload dX12_mark_156 rfl ?_
  refine zr_iload dX12_mark_158 rfl ?_
  refine zr_icge (tgt := 191) dX12_mark_160 (by decide) (fun hb => ?_) (fun hb => ?_)
  · have k := k.1 hb
    refine zr_aload_n dX12_mark_191 rfl rfl ?_
    refine zr_aload_n dX12_mark_192 rfl rfl ?_
    refine zr_getIv (x := (I 84 19)) dX12_mark_193 zf_X12_215 rfl (hS.has (a := 84) rfl rfl) rfl ?_
    refine zr_iconst (v := 1) dX12_mark_196 (by decide) ?_
    refine zr_iadd dX12_mark_197 ?_
    refine zr_putI dX12_mark_198 zf_X12_215 rfl (hS.has (a := 84) rfl rfl) rfl rfl ?_
    refine zr_iload dX12_mark_201 rfl ?_
    exact zr_ireturn dX12_mark_203 rfl rfl k
  · have k := k.2 hb
    refine zr_aload_n dX12_mark_163 rfl rfl ?_
    refine zr_getR dX12_mark_164 zf_X12_69 rfl (hS.has (a := 84) rfl rfl) (hS.ref (a := 103) rfl) ?_
    refine zr_bipush (v := 6) dX12_mark_167 (by decide) ?_
    refine zr_aload_n dX12_mark_169 rfl rfl ?_
    refine zr_getIv (x := (I 84 19)) dX12_mark_170 zf_X12_215 rfl (hS.has (a := 84) rfl rfl) rfl ?_
    refine zr_imul dX12_mark_173 ?_
    refine zr_iload dX12_mark_174 rfl ?_
    refine zr_iadd dX12_mark_176 ?_
    refine zr_aload_n dX12_mark_177 rfl rfl ?_
    refine zr_getR dX12_mark_178 zf_X12_72 rfl (hS.has (a := 84) rfl rfl) (hS.ref (a := 104) rfl) ?_
    refine zr_iload dX12_mark_181 rfl ?_
    obtain ⟨hi4, k⟩ := k
    refine zr_ialdv (x := (I 104 v5.toNatClampNeg)) dX12_mark_183 (hS.has (a := 104) rfl rfl) hi4 rfl ?_
    obtain ⟨hi5, k⟩ := k
    refine zr_iast dX12_mark_184 (hS.has (a := 103) rfl rfl) hi5 ?_
    refine zr_iinc (v := (v5 + 1)) dX12_mark_185 rfl rfl (Nat.le_of_ble_eq_true rfl) rfl ?_
    refine zr_goto (tgt := 156) dX12_mark_188 (by decide) ?_
    exact k
set_option maxHeartbeats 2000000 in
theorem vX12_markOf_0 {G : Gp} {bc bs : Nat} {Q : zPost} {S : zSh} {I : zFI} {L : zFL} {v1 : Int32} (hS : zStd S)  (k : ZW G mX12_markOf fX12_markOf lX12_markOf 7 [zo G 84, .int v1, .int ((I 84 19) - (1 : Int32))] [] S I L bc bs Q) : ZW G mX12_markOf fX12_markOf lX12_markOf 0 [zo G 84, .int v1, .null] [] S I L bc bs Q := by
  refine zr_aload_n dX12_markOf_0 rfl rfl ?_
  refine zr_getIv (x := (I 84 19)) dX12_markOf_1 zf_X12_215 rfl (hS.has (a := 84) rfl rfl) rfl ?_
  refine zr_iconst (v := 1) dX12_markOf_4 (by decide) ?_
  refine zr_isub dX12_markOf_5 ?_
  refine zr_istore_n dX12_markOf_6 rfl (Nat.le_of_ble_eq_true rfl) rfl ?_
  exact k
set_option maxHeartbeats 2000000 in
theorem vX12_markOf_7 {G : Gp} {bc bs : Nat} {Q : zPost} {S : zSh} {I : zFI} {L : zFL} {v1 : Int32} {v2 : Int32} (hS : zStd S)  (k : ((v2 < 0 → Q (some (.int (-1 : Int32))) S I L) ∧ (¬ v2 < 0 → vp_in v2 200 ∧ ((¬ (I 99 v2.toNatClampNeg) = v1 → ZW G mX12_markOf fX12_markOf lX12_markOf 7 [zo G 84, .int v1, .int (v2 + (-1))] [] S I L bc bs Q) ∧ ((I 99 v2.toNatClampNeg) = v1 → (((p_X12_isSeen I (I 100 v2.toNatClampNeg)) = 0 → ZW G mX12_markOf fX12_markOf lX12_markOf 7 [zo G 84, .int v1, .int (v2 + (-1))] [] S I L bc bs Q) ∧ (¬ (p_X12_isSeen I (I 100 v2.toNatClampNeg)) = 0 → Q (some (.int v2)) S I L))))))) : ZW G mX12_markOf fX12_markOf lX12_markOf 7 [zo G 84, .int v1, .int v2] [] S I L bc bs Q := by
  refine zr_iload_n dX12_markOf_7 rfl rfl ?_
  refine zr_iflt (tgt := 42) dX12_markOf_8 (by decide) (fun hb => ?_) (fun hb => ?_)
  · have k := k.1 hb
    refine zr_iconst (v := -1) dX12_markOf_42 (by decide) ?_
    exact zr_ireturn dX12_markOf_43 rfl rfl k
  · have k := k.2 hb
    refine zr_aload_n dX12_markOf_11 rfl rfl ?_
    refine zr_getR dX12_markOf_12 zf_X12_57 rfl (hS.has (a := 84) rfl rfl) (hS.ref (a := 99) rfl) ?_
    refine zr_iload_n dX12_markOf_15 rfl rfl ?_
    obtain ⟨hi1, k⟩ := k
    refine zr_ialdv (x := (I 99 v2.toNatClampNeg)) dX12_markOf_16 (hS.has (a := 99) rfl rfl) hi1 rfl ?_
    refine zr_iload_n dX12_markOf_17 rfl rfl ?_
    refine zr_icne (tgt := 36) dX12_markOf_18 (by decide) (fun hb => ?_) (fun hb => ?_)
    · have k := k.1 hb
      refine zr_iinc (v := (v2 + (-1))) dX12_markOf_36 rfl rfl (Nat.le_of_ble_eq_true rfl) rfl ?_
      refine zr_goto (tgt := 7) dX12_markOf_39 (by decide) ?_
      exact k
    · have k := k.2 hb
      refine zr_aload_n dX12_markOf_21 rfl rfl ?_
      refine zr_aload_n dX12_markOf_22 rfl rfl ?_
      refine zr_getR dX12_markOf_23 zf_X12_60 rfl (hS.has (a := 84) rfl rfl) (hS.ref (a := 100) rfl) ?_
      refine zr_iload_n dX12_markOf_26 rfl rfl ?_
      refine zr_ialdv (x := (I 100 v2.toNatClampNeg)) dX12_markOf_27 (hS.has (a := 100) rfl rfl) hi1 rfl ?_
      refine zr_callV (As := [.int (I 100 v2.toNatClampNeg)]) (fr' := fX12_isSeen) (lo' := lX12_isSeen) (bc' := 0) (bs' := 0) (bcr := bc) (bsr := bs) dX12_markOf_28 zs_X12_194 zi_X12_isSeen zcl_12 (hS.has (a := 84) rfl rfl) rfl rfl (Nat.le_of_ble_eq_true rfl) (Nat.le_of_ble_eq_true rfl) (Nat.le_of_ble_eq_true rfl) (Nat.le_refl _) (Nat.le_refl _) ?_
      refine sp_X12_isSeen hS  ?_
      show ZW G mX12_markOf fX12_markOf lX12_markOf 31 [zo G 84, .int v1, .int v2] [.int (p_X12_isSeen I (I 100 v2.toNatClampNeg))] S I L bc bs Q
      refine zr_ifeq (tgt := 36) dX12_markOf_31 (by decide) (fun hb => ?_) (fun hb => ?_)
      · have k := k.1 hb
        refine zr_iinc (v := (v2 + (-1))) dX12_markOf_36 rfl rfl (Nat.le_of_ble_eq_true rfl) rfl ?_
        refine zr_goto (tgt := 7) dX12_markOf_39 (by decide) ?_
        exact k
      · have k := k.2 hb
        refine zr_iload_n dX12_markOf_34 rfl rfl ?_
        exact zr_ireturn dX12_markOf_35 rfl rfl k
set_option maxHeartbeats 2000000 in
theorem vX12_signsOf_0 {G : Gp} {bc bs : Nat} {Q : zPost} {S : zSh} {I : zFI} {L : zFL} {v1 : Int32} (hS : zStd S)  (k : ZC G mX12_markOf fX12_markOf lX12_markOf [zo G 84, .int v1] S I L 0 0 (fun w S' I1 L1 => ∃ r1 : Int32, w = some (.int r1) ∧ S = S' ∧ ((¬ r1 = (-1 : Int32) → vp_in r1 200 ∧ Q (some (.int (I1 101 r1.toNatClampNeg))) S I1 L1) ∧ (r1 = (-1 : Int32) → Q (some (.int (0 : Int32))) S I1 L1)))) : ZW G mX12_signsOf fX12_signsOf lX12_signsOf 0 [zo G 84, .int v1, .null] [] S I L bc bs Q := by
  refine zr_aload_n dX12_signsOf_0 rfl rfl ?_
  refine zr_iload_n dX12_signsOf_1 rfl rfl ?_
  refine zr_callV (As := [.int v1]) (fr' := fX12_markOf) (lo' := lX12_markOf) (bc' := 0) (bs' := 0) (bcr := bc) (bsr := bs) dX12_signsOf_2 zs_X12_221 zi_X12_markOf zcl_12 (hS.has (a := 84) rfl rfl) rfl rfl (Nat.le_of_ble_eq_true rfl) (Nat.le_of_ble_eq_true rfl) (Nat.le_of_ble_eq_true rfl) (Nat.le_refl _) (Nat.le_refl _) ?_
  refine ZC.mono (fun w S' I1 L1 k => ?_) k
  obtain ⟨r1, rfl, rfl, k⟩ := k
  show ZW G mX12_signsOf fX12_signsOf lX12_signsOf 5 [zo G 84, .int v1, .null] [.int r1] S I1 L1 bc bs Q
  refine zr_istore_n dX12_signsOf_5 rfl (Nat.le_of_ble_eq_true rfl) rfl ?_
  refine zr_iload_n dX12_signsOf_6 rfl rfl ?_
  refine zr_iconst (v := -1) dX12_signsOf_7 (by decide) ?_
  refine zr_icne (tgt := 15) dX12_signsOf_8 (by decide) (fun hb => ?_) (fun hb => ?_)
  · have k := k.1 hb
    refine zr_aload_n dX12_signsOf_15 rfl rfl ?_
    refine zr_getR dX12_signsOf_16 zf_X12_63 rfl (hS.has (a := 84) rfl rfl) (hS.ref (a := 101) rfl) ?_
    refine zr_iload_n dX12_signsOf_19 rfl rfl ?_
    obtain ⟨hi1, k⟩ := k
    refine zr_ialdv (x := (I1 101 r1.toNatClampNeg)) dX12_signsOf_20 (hS.has (a := 101) rfl rfl) hi1 rfl ?_
    exact zr_ireturn dX12_signsOf_21 rfl rfl k
  · have k := k.2 hb
    refine zr_iconst (v := 0) dX12_signsOf_11 (by decide) ?_
    refine zr_goto (tgt := 21) dX12_signsOf_12 (by decide) ?_
    exact zr_ireturn dX12_signsOf_21 rfl rfl k
set_option maxHeartbeats 2000000 in
theorem vX12_sideOf_0 {G : Gp} {bc bs : Nat} {Q : zPost} {S : zSh} {I : zFI} {L : zFL} {v1 : Int32} (hS : zStd S)  (k : ZC G mX12_markOf fX12_markOf lX12_markOf [zo G 84, .int v1] S I L 0 0 (fun w S' I1 L1 => ∃ r1 : Int32, w = some (.int r1) ∧ S = S' ∧ ((¬ r1 = (-1 : Int32) → vp_in r1 200 ∧ Q (some (.int (I1 102 r1.toNatClampNeg))) S I1 L1) ∧ (r1 = (-1 : Int32) → Q (some (.int (0 : Int32))) S I1 L1)))) : ZW G mX12_sideOf fX12_sideOf lX12_sideOf 0 [zo G 84, .int v1, .null] [] S I L bc bs Q := by
  refine zr_aload_n dX12_sideOf_0 rfl rfl ?_
  refine zr_iload_n dX12_sideOf_1 rfl rfl ?_
  refine zr_callV (As := [.int v1]) (fr' := fX12_markOf) (lo' := lX12_markOf) (bc' := 0) (bs' := 0) (bcr := bc) (bsr := bs) dX12_sideOf_2 zs_X12_221 zi_X12_markOf zcl_12 (hS.has (a := 84) rfl rfl) rfl rfl (Nat.le_of_ble_eq_true rfl) (Nat.le_of_ble_eq_true rfl) (Nat.le_of_ble_eq_true rfl) (Nat.le_refl _) (Nat.le_refl _) ?_
  refine ZC.mono (fun w S' I1 L1 k => ?_) k
  obtain ⟨r1, rfl, rfl, k⟩ := k
  show ZW G mX12_sideOf fX12_sideOf lX12_sideOf 5 [zo G 84, .int v1, .null] [.int r1] S I1 L1 bc bs Q
  refine zr_istore_n dX12_sideOf_5 rfl (Nat.le_of_ble_eq_true rfl) rfl ?_
  refine zr_iload_n dX12_sideOf_6 rfl rfl ?_
  refine zr_iconst (v := -1) dX12_sideOf_7 (by decide) ?_
  refine zr_icne (tgt := 15) dX12_sideOf_8 (by decide) (fun hb => ?_) (fun hb => ?_)
  · have k := k.1 hb
    refine zr_aload_n dX12_sideOf_15 rfl rfl ?_
    refine zr_getR dX12_sideOf_16 zf_X12_66 rfl (hS.has (a := 84) rfl rfl) (hS.ref (a := 102) rfl) ?_
    refine zr_iload_n dX12_sideOf_19 rfl rfl ?_
    obtain ⟨hi1, k⟩ := k
    refine zr_ialdv (x := (I1 102 r1.toNatClampNeg)) dX12_sideOf_20 (hS.has (a := 102) rfl rfl) hi1 rfl ?_
    exact zr_ireturn dX12_sideOf_21 rfl rfl k
  · have k := k.2 hb
    refine zr_iconst (v := 0) dX12_sideOf_11 (by decide) ?_
    refine zr_goto (tgt := 21) dX12_sideOf_12 (by decide) ?_
    exact zr_ireturn dX12_sideOf_21 rfl rfl k
set_option maxHeartbeats 2000000 in
theorem vX12_isLetter_0 {G : Gp} {bc bs : Nat} {Q : zPost} {S : zSh} {I : zFI} {L : zFL} {v1 : Int32} (hS : zStd S)  (k : ((¬ (p_X12_isIn v1 (97 : Int32) (122 : Int32)) = 0 → Q (some (.int (1 : Int32))) S I L) ∧ ((p_X12_isIn v1 (97 : Int32) (122 : Int32)) = 0 → (((p_X12_isIn v1 (65 : Int32) (90 : Int32)) = 0 → Q (some (.int (0 : Int32))) S I L) ∧ (¬ (p_X12_isIn v1 (65 : Int32) (90 : Int32)) = 0 → Q (some (.int (1 : Int32))) S I L))))) : ZW G mX12_isLetter fX12_isLetter lX12_isLetter 0 [zo G 84, .int v1] [] S I L bc bs Q := by
  refine zr_aload_n dX12_isLetter_0 rfl rfl ?_
  refine zr_iload_n dX12_isLetter_1 rfl rfl ?_
  refine zr_bipush (v := 97) dX12_isLetter_2 (by decide) ?_
  refine zr_bipush (v := 122) dX12_isLetter_4 (by decide) ?_
  refine zr_callV (As := [.int v1, .int (97 : Int32), .int (122 : Int32)]) (fr' := fX12_isIn) (lo' := lX12_isIn) (bc' := 0) (bs' := 0) (bcr := bc) (bsr := bs) dX12_isLetter_6 zs_X12_201 zi_X12_isIn zcl_12 (hS.has (a := 84) rfl rfl) rfl rfl (Nat.le_of_ble_eq_true rfl) (Nat.le_of_ble_eq_true rfl) (Nat.le_of_ble_eq_true rfl) (Nat.le_refl _) (Nat.le_refl _) ?_
  refine sp_X12_isIn hS  ?_
  show ZW G mX12_isLetter fX12_isLetter lX12_isLetter 9 [zo G 84, .int v1] [.int (p_X12_isIn v1 (97 : Int32) (122 : Int32))] S I L bc bs Q
  refine zr_ifne (tgt := 24) dX12_isLetter_9 (by decide) (fun hb => ?_) (fun hb => ?_)
  · have k := k.1 hb
    refine zr_iconst (v := 1) dX12_isLetter_24 (by decide) ?_
    refine zr_goto (tgt := 29) dX12_isLetter_25 (by decide) ?_
    exact zr_ireturn dX12_isLetter_29 rfl rfl k
  · have k := k.2 hb
    refine zr_aload_n dX12_isLetter_12 rfl rfl ?_
    refine zr_iload_n dX12_isLetter_13 rfl rfl ?_
    refine zr_bipush (v := 65) dX12_isLetter_14 (by decide) ?_
    refine zr_bipush (v := 90) dX12_isLetter_16 (by decide) ?_
    refine zr_callV (As := [.int v1, .int (65 : Int32), .int (90 : Int32)]) (fr' := fX12_isIn) (lo' := lX12_isIn) (bc' := 0) (bs' := 0) (bcr := bc) (bsr := bs) dX12_isLetter_18 zs_X12_201 zi_X12_isIn zcl_12 (hS.has (a := 84) rfl rfl) rfl rfl (Nat.le_of_ble_eq_true rfl) (Nat.le_of_ble_eq_true rfl) (Nat.le_of_ble_eq_true rfl) (Nat.le_refl _) (Nat.le_refl _) ?_
    refine sp_X12_isIn hS  ?_
    show ZW G mX12_isLetter fX12_isLetter lX12_isLetter 21 [zo G 84, .int v1] [.int (p_X12_isIn v1 (65 : Int32) (90 : Int32))] S I L bc bs Q
    refine zr_ifeq (tgt := 28) dX12_isLetter_21 (by decide) (fun hb => ?_) (fun hb => ?_)
    · have k := k.1 hb
      refine zr_iconst (v := 0) dX12_isLetter_28 (by decide) ?_
      exact zr_ireturn dX12_isLetter_29 rfl rfl k
    · have k := k.2 hb
      refine zr_iconst (v := 1) dX12_isLetter_24 (by decide) ?_
      refine zr_goto (tgt := 29) dX12_isLetter_25 (by decide) ?_
      exact zr_ireturn dX12_isLetter_29 rfl rfl k
def p_X12_isLetter  (v1 : Int32) : Int32 := (if (p_X12_isIn v1 (97 : Int32) (122 : Int32)) = 0 then (if (p_X12_isIn v1 (65 : Int32) (90 : Int32)) = 0 then (0 : Int32) else (1 : Int32)) else (1 : Int32))
set_option maxHeartbeats 2000000 in
theorem sp_X12_isLetter {G : Gp} {Q : zPost} {S : zSh} {I : zFI} {L : zFL} {v1 : Int32} (hS : zStd S)  (h : Q (some (.int (p_X12_isLetter  v1))) S I L) : ZC G mX12_isLetter fX12_isLetter lX12_isLetter [zo G 84, .int v1] S I L 0 0 Q := by
  refine ZC.of' (vX12_isLetter_0 hS  ?_) rfl (Nat.le_of_ble_eq_true rfl) rfl
  unfold p_X12_isLetter at h
  refine ⟨fun hb1 => ?_, fun hb1 => ?_⟩
  · rw [if_neg hb1] at h
    exact h
  · rw [if_pos hb1] at h
    refine ⟨fun hb2 => ?_, fun hb2 => ?_⟩
    · rw [if_pos hb2] at h
      exact h
    · rw [if_neg hb2] at h
      exact h
theorem pb_X12_isLetter  (v1 : Int32) : p_X12_isLetter  v1 = 0 ∨ p_X12_isLetter  v1 = 1 := by
  unfold p_X12_isLetter
  repeat' split
  all_goals first | exact Or.inl rfl | exact Or.inr rfl | exact pb_X12_isIn _ _ _ | exact pb_X12_isIn _ _ _
set_option maxHeartbeats 2000000 in
theorem vX12_isDigit_0 {G : Gp} {bc bs : Nat} {Q : zPost} {S : zSh} {I : zFI} {L : zFL} {v1 : Int32} (hS : zStd S)  (k : Q (some (.int (p_X12_isIn v1 (48 : Int32) (57 : Int32)))) S I L) : ZW G mX12_isDigit fX12_isDigit lX12_isDigit 0 [zo G 84, .int v1] [] S I L bc bs Q := by
  refine zr_aload_n dX12_isDigit_0 rfl rfl ?_
  refine zr_iload_n dX12_isDigit_1 rfl rfl ?_
  refine zr_bipush (v := 48) dX12_isDigit_2 (by decide) ?_
  refine zr_bipush (v := 57) dX12_isDigit_4 (by decide) ?_
  refine zr_callV (As := [.int v1, .int (48 : Int32), .int (57 : Int32)]) (fr' := fX12_isIn) (lo' := lX12_isIn) (bc' := 0) (bs' := 0) (bcr := bc) (bsr := bs) dX12_isDigit_6 zs_X12_201 zi_X12_isIn zcl_12 (hS.has (a := 84) rfl rfl) rfl rfl (Nat.le_of_ble_eq_true rfl) (Nat.le_of_ble_eq_true rfl) (Nat.le_of_ble_eq_true rfl) (Nat.le_refl _) (Nat.le_refl _) ?_
  refine sp_X12_isIn hS  ?_
  show ZW G mX12_isDigit fX12_isDigit lX12_isDigit 9 [zo G 84, .int v1] [.int (p_X12_isIn v1 (48 : Int32) (57 : Int32))] S I L bc bs Q
  exact zr_ireturn dX12_isDigit_9 rfl (zb01n (pb_X12_isIn _ _ _)) k
def p_X12_isDigit  (v1 : Int32) : Int32 := (p_X12_isIn v1 (48 : Int32) (57 : Int32))
set_option maxHeartbeats 2000000 in
theorem sp_X12_isDigit {G : Gp} {Q : zPost} {S : zSh} {I : zFI} {L : zFL} {v1 : Int32} (hS : zStd S)  (h : Q (some (.int (p_X12_isDigit  v1))) S I L) : ZC G mX12_isDigit fX12_isDigit lX12_isDigit [zo G 84, .int v1] S I L 0 0 Q := by
  refine ZC.of' (vX12_isDigit_0 hS  ?_) rfl (Nat.le_of_ble_eq_true rfl) rfl
  unfold p_X12_isDigit at h
  exact h
theorem pb_X12_isDigit  (v1 : Int32) : p_X12_isDigit  v1 = 0 ∨ p_X12_isDigit  v1 = 1 := by
  unfold p_X12_isDigit
  repeat' split
  all_goals first | exact Or.inl rfl | exact Or.inr rfl | exact pb_X12_isIn _ _ _
set_option maxHeartbeats 2000000 in
theorem vX12_raw_0 {G : Gp} {bc bs : Nat} {Q : zPost} {S : zSh} {I : zFI} {L : zFL} {v1 : Int32} (hS : zStd S)  (k : (((I 84 26) ≤ v1 → Q (some (.int (-1 : Int32))) S I L) ∧ (¬ (I 84 26) ≤ v1 → vp_in v1 800 ∧ Q (some (.int (I 104 v1.toNatClampNeg))) S I L))) : ZW G mX12_raw fX12_raw lX12_raw 0 [zo G 84, .int v1] [] S I L bc bs Q := by
  refine zr_iload_n dX12_raw_0 rfl rfl ?_
  refine zr_aload_n dX12_raw_1 rfl rfl ?_
  refine zr_getIv (x := (I 84 26)) dX12_raw_2 zf_X12_208 rfl (hS.has (a := 84) rfl rfl) rfl ?_
  refine zr_icge (tgt := 17) dX12_raw_5 (by decide) (fun hb => ?_) (fun hb => ?_)
  · have k := k.1 hb
    refine zr_iconst (v := -1) dX12_raw_17 (by decide) ?_
    exact zr_ireturn dX12_raw_18 rfl rfl k
  · have k := k.2 hb
    refine zr_aload_n dX12_raw_8 rfl rfl ?_
    refine zr_getR dX12_raw_9 zf_X12_72 rfl (hS.has (a := 84) rfl rfl) (hS.ref (a := 104) rfl) ?_
    refine zr_iload_n dX12_raw_12 rfl rfl ?_
    obtain ⟨hi1, k⟩ := k
    refine zr_ialdv (x := (I 104 v1.toNatClampNeg)) dX12_raw_13 (hS.has (a := 104) rfl rfl) hi1 rfl ?_
    refine zr_goto (tgt := 18) dX12_raw_14 (by decide) ?_
    exact zr_ireturn dX12_raw_18 rfl rfl k
def p_X12_raw (I : zFI) (v1 : Int32) : Int32 := (if (I 84 26) ≤ v1 then (-1 : Int32) else (I 104 v1.toNatClampNeg))
set_option maxHeartbeats 2000000 in
theorem sp_X12_raw {G : Gp} {Q : zPost} {S : zSh} {I : zFI} {L : zFL} {v1 : Int32} (hS : zStd S)  (hv0 : ¬ (I 84 26) ≤ v1 → vp_in v1 800) (h : Q (some (.int (p_X12_raw I v1))) S I L) : ZC G mX12_raw fX12_raw lX12_raw [zo G 84, .int v1] S I L 0 0 Q := by
  refine ZC.of' (vX12_raw_0 hS  ?_) rfl (Nat.le_of_ble_eq_true rfl) rfl
  unfold p_X12_raw at h
  refine ⟨fun hb1 => ?_, fun hb1 => ?_⟩
  · rw [if_pos hb1] at h
    exact h
  · rw [if_neg hb1] at h
    refine ⟨hv0 hb1, ?_⟩
    exact h
set_option maxHeartbeats 2000000 in
theorem vX12_wordAt_0 {G : Gp} {bc bs : Nat} {Q : zPost} {S : zSh} {I : zFI} {L : zFL} {v1 : Int32} {v2 : Int32} (hS : zStd S)  (k : ZW G mX12_wordAt fX12_wordAt lX12_wordAt 5 [zo G 84, .int v1, .int v2, .int (-1 : Int32), .int (0 : Int32), .null] [] S I L bc bs Q) : ZW G mX12_wordAt fX12_wordAt lX12_wordAt 0 [zo G 84, .int v1, .int v2, .null, .null, .null] [] S I L bc bs Q := by
  refine zr_iconst (v := -1) dX12_wordAt_0 (by decide) ?_
  refine zr_istore_n dX12_wordAt_1 rfl (Nat.le_of_ble_eq_true rfl) rfl ?_
  refine zr_iconst (v := 0) dX12_wordAt_2 (by decide) ?_
  refine zr_istore dX12_wordAt_3 (Nat.le_of_ble_eq_true rfl) rfl ?_
  exact k
set_option maxHeartbeats 2000000 in
theorem vX12_wordAt_5 {G : Gp} {bc bs : Nat} {Q : zPost} {S : zSh} {I : zFI} {L : zFL} {v1 : Int32} {v2 : Int32} {v3 : Int32} {v4 : Int32} (hS : zStd S)  (k : (((95 : Int32) ≤ v4 → Q (some (.int (-1 : Int32))) S I L) ∧ (¬ (95 : Int32) ≤ v4 → ZW G mX12_wordAt fX12_wordAt lX12_wordAt 19 [zo G 84, .int v1, .int v2, .int (v3 + (1 : Int32)), .int v4, .int (0 : Int32)] [] S I L bc bs Q))) : ZW G mX12_wordAt fX12_wordAt lX12_wordAt 5 [zo G 84, .int v1, .int v2, .int v3, .int v4, .null] [] S I L bc bs Q := by
  refine zr_iload dX12_wordAt_5 rfl ?_
  refine zr_bipush (v := 95) dX12_wordAt_7 (by decide) ?_
  refine zr_icge (tgt := 117) dX12_wordAt_9 (by decide) (fun hb => ?_) (fun hb => ?_)
  · have k := k.1 hb
    refine zr_iconst (v := -1) dX12_wordAt_117 (by decide) ?_
    exact zr_ireturn dX12_wordAt_118 rfl rfl k
  · have k := k.2 hb
    refine zr_iconst (v := 0) dX12_wordAt_12 (by decide) ?_
    refine zr_istore dX12_wordAt_13 (Nat.le_of_ble_eq_true rfl) rfl ?_
    refine zr_iload_n dX12_wordAt_15 rfl rfl ?_
    refine zr_iconst (v := 1) dX12_wordAt_16 (by decide) ?_
    refine zr_iadd dX12_wordAt_17 ?_
    refine zr_istore_n dX12_wordAt_18 rfl (Nat.le_of_ble_eq_true rfl) rfl ?_
    exact k
set_option maxHeartbeats 2000000 in
theorem vX12_wordAt_19 {G : Gp} {bc bs : Nat} {Q : zPost} {S : zSh} {I : zFI} {L : zFL} {v1 : Int32} {v2 : Int32} {v3 : Int32} {v4 : Int32} {v5 : Int32} (hS : zStd S)  (k : ((v2 ≤ (v1 + v5) → ((¬ (v1 + v5) = v2 → ZW G mX12_wordAt fX12_wordAt lX12_wordAt 93 [zo G 84, .int v1, .int v2, .int v3, .int (v4 + (1 : Int32)), .int v5] [] S I L bc bs Q) ∧ ((v1 + v5) = v2 → vp_in ((v4 + (1 : Int32)) + v5) 96 ∧ ((¬ (I 106 ((v4 + (1 : Int32)) + v5).toNatClampNeg) = (32 : Int32) → ZW G mX12_wordAt fX12_wordAt lX12_wordAt 93 [zo G 84, .int v1, .int v2, .int v3, .int (v4 + (1 : Int32)), .int v5] [] S I L bc bs Q) ∧ ((I 106 ((v4 + (1 : Int32)) + v5).toNatClampNeg) = (32 : Int32) → Q (some (.int v3)) S I L))))) ∧ (¬ v2 ≤ (v1 + v5) → vp_in ((v4 + (1 : Int32)) + v5) 96 ∧ vp_in (v1 + v5) 800 ∧ ((¬ (I 106 ((v4 + (1 : Int32)) + v5).toNatClampNeg) = (I 104 (v1 + v5).toNatClampNeg) → ((¬ (v1 + v5) = v2 → ZW G mX12_wordAt fX12_wordAt lX12_wordAt 93 [zo G 84, .int v1, .int v2, .int v3, .int (v4 + (1 : Int32)), .int v5] [] S I L bc bs Q) ∧ ((v1 + v5) = v2 → ((¬ (I 106 ((v4 + (1 : Int32)) + v5).toNatClampNeg) = (32 : Int32) → ZW G mX12_wordAt fX12_wordAt lX12_wordAt 93 [zo G 84, .int v1, .int v2, .int v3, .int (v4 + (1 : Int32)), .int v5] [] S I L bc bs Q) ∧ ((I 106 ((v4 + (1 : Int32)) + v5).toNatClampNeg) = (32 : Int32) → Q (some (.int v3)) S I L))))) ∧ ((I 106 ((v4 + (1 : Int32)) + v5).toNatClampNeg) = (I 104 (v1 + v5).toNatClampNeg) → ZW G mX12_wordAt fX12_wordAt lX12_wordAt 19 [zo G 84, .int v1, .int v2, .int v3, .int v4, .int (v5 + (1 : Int32))] [] S I L bc bs Q))))) : ZW G mX12_wordAt fX12_wordAt lX12_wordAt 19 [zo G 84, .int v1, .int v2, .int v3, .int v4, .int v5] [] S I L bc bs Q := by
  refine zr_iload_n dX12_wordAt_19 rfl rfl ?_
  refine zr_iload dX12_wordAt_20 rfl ?_
  refine zr_iadd dX12_wordAt_22 ?_
  refine zr_iload_n dX12_wordAt_23 rfl rfl ?_
  refine zr_icge (tgt := 60) dX12_wordAt_24 (by decide) (fun hb => ?_) (fun hb => ?_)
  · have k := k.1 hb
    refine zr_iload_n dX12_wordAt_60 rfl rfl ?_
    refine zr_iload dX12_wordAt_61 rfl ?_
    refine zr_iadd dX12_wordAt_63 ?_
    refine zr_iload_n dX12_wordAt_64 rfl rfl ?_
    refine zr_icne (tgt := 87) dX12_wordAt_65 (by decide) (fun hb => ?_) (fun hb => ?_)
    · have k := k.1 hb
      refine zr_iload dX12_wordAt_87 rfl ?_
      refine zr_iconst (v := 1) dX12_wordAt_89 (by decide) ?_
      refine zr_iadd dX12_wordAt_90 ?_
      refine zr_istore dX12_wordAt_91 (Nat.le_of_ble_eq_true rfl) rfl ?_
      exact k
    · have k := k.2 hb
      refine zr_aload_n dX12_wordAt_68 rfl rfl ?_
      refine zr_getR dX12_wordAt_69 zf_X12_78 rfl (hS.has (a := 84) rfl rfl) (hS.ref (a := 106) rfl) ?_
      refine zr_iload dX12_wordAt_72 rfl ?_
      refine zr_iconst (v := 1) dX12_wordAt_74 (by decide) ?_
      refine zr_iadd dX12_wordAt_75 ?_
      refine zr_iload dX12_wordAt_76 rfl ?_
      refine zr_iadd dX12_wordAt_78 ?_
      obtain ⟨hi1, k⟩ := k
      refine zr_ialdv (x := (I 106 ((v4 + (1 : Int32)) + v5).toNatClampNeg)) dX12_wordAt_79 (hS.has (a := 106) rfl rfl) hi1 rfl ?_
      refine zr_bipush (v := 32) dX12_wordAt_80 (by decide) ?_
      refine zr_icne (tgt := 87) dX12_wordAt_82 (by decide) (fun hb => ?_) (fun hb => ?_)
      · have k := k.1 hb
        refine zr_iload dX12_wordAt_87 rfl ?_
        refine zr_iconst (v := 1) dX12_wordAt_89 (by decide) ?_
        refine zr_iadd dX12_wordAt_90 ?_
        refine zr_istore dX12_wordAt_91 (Nat.le_of_ble_eq_true rfl) rfl ?_
        exact k
      · have k := k.2 hb
        refine zr_iload_n dX12_wordAt_85 rfl rfl ?_
        exact zr_ireturn dX12_wordAt_86 rfl rfl k
  · have k := k.2 hb
    refine zr_aload_n dX12_wordAt_27 rfl rfl ?_
    refine zr_getR dX12_wordAt_28 zf_X12_78 rfl (hS.has (a := 84) rfl rfl) (hS.ref (a := 106) rfl) ?_
    refine zr_iload dX12_wordAt_31 rfl ?_
    refine zr_iconst (v := 1) dX12_wordAt_33 (by decide) ?_
    refine zr_iadd dX12_wordAt_34 ?_
    refine zr_iload dX12_wordAt_35 rfl ?_
    refine zr_iadd dX12_wordAt_37 ?_
    obtain ⟨hi2, k⟩ := k
    refine zr_ialdv (x := (I 106 ((v4 + (1 : Int32)) + v5).toNatClampNeg)) dX12_wordAt_38 (hS.has (a := 106) rfl rfl) hi2 rfl ?_
    refine zr_aload_n dX12_wordAt_39 rfl rfl ?_
    refine zr_getR dX12_wordAt_40 zf_X12_72 rfl (hS.has (a := 84) rfl rfl) (hS.ref (a := 104) rfl) ?_
    refine zr_iload_n dX12_wordAt_43 rfl rfl ?_
    refine zr_iload dX12_wordAt_44 rfl ?_
    refine zr_iadd dX12_wordAt_46 ?_
    obtain ⟨hi3, k⟩ := k
    refine zr_ialdv (x := (I 104 (v1 + v5).toNatClampNeg)) dX12_wordAt_47 (hS.has (a := 104) rfl rfl) hi3 rfl ?_
    refine zr_icne (tgt := 60) dX12_wordAt_48 (by decide) (fun hb => ?_) (fun hb => ?_)
    · have k := k.1 hb
      refine zr_iload_n dX12_wordAt_60 rfl rfl ?_
      refine zr_iload dX12_wordAt_61 rfl ?_
      refine zr_iadd dX12_wordAt_63 ?_
      refine zr_iload_n dX12_wordAt_64 rfl rfl ?_
      refine zr_icne (tgt := 87) dX12_wordAt_65 (by decide) (fun hb => ?_) (fun hb => ?_)
      · have k := k.1 hb
        refine zr_iload dX12_wordAt_87 rfl ?_
        refine zr_iconst (v := 1) dX12_wordAt_89 (by decide) ?_
        refine zr_iadd dX12_wordAt_90 ?_
        refine zr_istore dX12_wordAt_91 (Nat.le_of_ble_eq_true rfl) rfl ?_
        exact k
      · have k := k.2 hb
        refine zr_aload_n dX12_wordAt_68 rfl rfl ?_
        refine zr_getR dX12_wordAt_69 zf_X12_78 rfl (hS.has (a := 84) rfl rfl) (hS.ref (a := 106) rfl) ?_
        refine zr_iload dX12_wordAt_72 rfl ?_
        refine zr_iconst (v := 1) dX12_wordAt_74 (by decide) ?_
        refine zr_iadd dX12_wordAt_75 ?_
        refine zr_iload dX12_wordAt_76 rfl ?_
        refine zr_iadd dX12_wordAt_78 ?_
        refine zr_ialdv (x := (I 106 ((v4 + (1 : Int32)) + v5).toNatClampNeg)) dX12_wordAt_79 (hS.has (a := 106) rfl rfl) hi2 rfl ?_
        refine zr_bipush (v := 32) dX12_wordAt_80 (by decide) ?_
        refine zr_icne (tgt := 87) dX12_wordAt_82 (by decide) (fun hb => ?_) (fun hb => ?_)
        · have k := k.1 hb
          refine zr_iload dX12_wordAt_87 rfl ?_
          refine zr_iconst (v := 1) dX12_wordAt_89 (by decide) ?_
          refine zr_iadd dX12_wordAt_90 ?_
          refine zr_istore dX12_wordAt_91 (Nat.le_of_ble_eq_true rfl) rfl ?_
          exact k
        · have k := k.2 hb
          refine zr_iload_n dX12_wordAt_85 rfl rfl ?_
          exact zr_ireturn dX12_wordAt_86 rfl rfl k
    · have k := k.2 hb
      refine zr_iload dX12_wordAt_51 rfl ?_
      refine zr_iconst (v := 1) dX12_wordAt_53 (by decide) ?_
      refine zr_iadd dX12_wordAt_54 ?_
      refine zr_istore dX12_wordAt_55 (Nat.le_of_ble_eq_true rfl) rfl ?_
      refine zr_goto (tgt := 19) dX12_wordAt_57 (by decide) ?_
      exact k
set_option maxHeartbeats 2000000 in
theorem vX12_wordAt_93 {G : Gp} {bc bs : Nat} {Q : zPost} {S : zSh} {I : zFI} {L : zFL} {v1 : Int32} {v2 : Int32} {v3 : Int32} {v4 : Int32} {v5 : Int32} (hS : zStd S)  (k : vp_in v4 96 ∧ (((I 106 v4.toNatClampNeg) = (32 : Int32) → ZW G mX12_wordAt fX12_wordAt lX12_wordAt 5 [zo G 84, .int v1, .int v2, .int v3, .int v4, .null] [] S I L bc bs Q) ∧ (¬ (I 106 v4.toNatClampNeg) = (32 : Int32) → ZW G mX12_wordAt fX12_wordAt lX12_wordAt 93 [zo G 84, .int v1, .int v2, .int v3, .int (v4 + (1 : Int32)), .int v5] [] S I L bc bs Q))) : ZW G mX12_wordAt fX12_wordAt lX12_wordAt 93 [zo G 84, .int v1, .int v2, .int v3, .int v4, .int v5] [] S I L bc bs Q := by
  refine zr_aload_n dX12_wordAt_93 rfl rfl ?_
  refine zr_getR dX12_wordAt_94 zf_X12_78 rfl (hS.has (a := 84) rfl rfl) (hS.ref (a := 106) rfl) ?_
  refine zr_iload dX12_wordAt_97 rfl ?_
  obtain ⟨hi4, k⟩ := k
  refine zr_ialdv (x := (I 106 v4.toNatClampNeg)) dX12_wordAt_99 (hS.has (a := 106) rfl rfl) hi4 rfl ?_
  refine zr_bipush (v := 32) dX12_wordAt_100 (by decide) ?_
  refine zr_iceq (tgt := 114) dX12_wordAt_102 (by decide) (fun hb => ?_) (fun hb => ?_)
  · have k := k.1 hb
    refine zr_goto (tgt := 5) dX12_wordAt_114 (by decide) ?_
    exact zr_mask [true, true, true, true, true, false] rfl k
  · have k := k.2 hb
    refine zr_iload dX12_wordAt_105 rfl ?_
    refine zr_iconst (v := 1) dX12_wordAt_107 (by decide) ?_
    refine zr_iadd dX12_wordAt_108 ?_
    refine zr_istore dX12_wordAt_109 (Nat.le_of_ble_eq_true rfl) rfl ?_
    refine zr_goto (tgt := 93) dX12_wordAt_111 (by decide) ?_
    exact k
set_option maxHeartbeats 2000000 in
theorem vX12_next_0 {G : Gp} {bc bs : Nat} {Q : zPost} {S : zSh} {I : zFI} {L : zFL}  (hS : zStd S)  (k : (¬ (I 84 26) ≤ (I 84 29) → vp_in (I 84 29) 800) ∧ (((p_X12_raw I (I 84 29)) = (32 : Int32) → ZW G mX12_next fX12_next lX12_next 0 [zo G 84, .null] [] S (u2 I 84 29 ((I 84 29) + (1 : Int32))) L bc bs Q) ∧ (¬ (p_X12_raw I (I 84 29)) = (32 : Int32) → (¬ (I 84 26) ≤ (I 84 29) → vp_in (I 84 29) 800) ∧ ((¬ (p_X12_raw I (I 84 29)) = (10 : Int32) → (¬ ((u2 (u2 I 84 30 (I 84 29)) 84 31 (1 : Int32)) 84 26) ≤ (I 84 29) → vp_in (I 84 29) 800) ∧ ((¬ (p_X12_raw (u2 (u2 I 84 30 (I 84 29)) 84 31 (1 : Int32)) (I 84 29)) = (-1 : Int32) → (((p_X12_isLetter (p_X12_raw (u2 (u2 I 84 30 (I 84 29)) 84 31 (1 : Int32)) (I 84 29))) = 0 → (((p_X12_isDigit (p_X12_raw (u2 (u2 I 84 30 (I 84 29)) 84 31 (1 : Int32)) (I 84 29))) = 0 → ((¬ (p_X12_raw (u2 (u2 I 84 30 (I 84 29)) 84 31 (1 : Int32)) (I 84 29)) = (59 : Int32) → Q none S (u2 (u2 (u2 I 84 30 (I 84 29)) 84 31 (1 : Int32)) 84 29 ((I 84 29) + (1 : Int32))) L) ∧ ((p_X12_raw (u2 (u2 I 84 30 (I 84 29)) 84 31 (1 : Int32)) (I 84 29)) = (59 : Int32) → Q none S (u2 (u2 (u2 (u2 I 84 30 (I 84 29)) 84 31 (1 : Int32)) 84 29 ((I 84 29) + (1 : Int32))) 84 31 (4 : Int32)) L))) ∧ (¬ (p_X12_isDigit (p_X12_raw (u2 (u2 I 84 30 (I 84 29)) 84 31 (1 : Int32)) (I 84 29))) = 0 → ZW G mX12_next fX12_next lX12_next 166 [zo G 84, .int (p_X12_raw (u2 (u2 I 84 30 (I 84 29)) 84 31 (1 : Int32)) (I 84 29))] [] S (u2 (u2 (u2 (u2 I 84 30 (I 84 29)) 84 31 (1 : Int32)) 84 29 ((I 84 29) + (1 : Int32))) 84 32 ((p_X12_raw (u2 (u2 I 84 30 (I 84 29)) 84 31 (1 : Int32)) (I 84 29)) - (48 : Int32))) L bc bs Q))) ∧ (¬ (p_X12_isLetter (p_X12_raw (u2 (u2 I 84 30 (I 84 29)) 84 31 (1 : Int32)) (I 84 29))) = 0 → ZW G mX12_next fX12_next lX12_next 90 [zo G 84, .int (p_X12_raw (u2 (u2 I 84 30 (I 84 29)) 84 31 (1 : Int32)) (I 84 29))] [] S (u2 (u2 (u2 I 84 30 (I 84 29)) 84 31 (1 : Int32)) 84 29 ((I 84 29) + (1 : Int32))) L bc bs Q))) ∧ ((p_X12_raw (u2 (u2 I 84 30 (I 84 29)) 84 31 (1 : Int32)) (I 84 29)) = (-1 : Int32) → Q none S (u2 (u2 (u2 I 84 30 (I 84 29)) 84 31 (1 : Int32)) 84 31 (0 : Int32)) L))) ∧ ((p_X12_raw I (I 84 29)) = (10 : Int32) → ZW G mX12_next fX12_next lX12_next 0 [zo G 84, .null] [] S (u2 I 84 29 ((I 84 29) + (1 : Int32))) L bc bs Q))))) : ZW G mX12_next fX12_next lX12_next 0 [zo G 84, .null] [] S I L bc bs Q := by
  refine zr_aload_n dX12_next_0 rfl rfl ?_
  refine zr_aload_n dX12_next_1 rfl rfl ?_
  refine zr_getIv (x := (I 84 29)) dX12_next_2 zf_X12_225 rfl (hS.has (a := 84) rfl rfl) rfl ?_
  refine zr_callV (As := [.int (I 84 29)]) (fr' := fX12_raw) (lo' := lX12_raw) (bc' := 0) (bs' := 0) (bcr := bc) (bsr := bs) dX12_next_5 zs_X12_228 zi_X12_raw zcl_12 (hS.has (a := 84) rfl rfl) rfl rfl (Nat.le_of_ble_eq_true rfl) (Nat.le_of_ble_eq_true rfl) (Nat.le_of_ble_eq_true rfl) (Nat.le_refl _) (Nat.le_refl _) ?_
  obtain ⟨hq0, k⟩ := k
  refine sp_X12_raw hS hq0 ?_
  show ZW G mX12_next fX12_next lX12_next 8 [zo G 84, .null] [.int (p_X12_raw I (I 84 29))] S I L bc bs Q
  refine zr_bipush (v := 32) dX12_next_8 (by decide) ?_
  refine zr_iceq (tgt := 26) dX12_next_10 (by decide) (fun hb => ?_) (fun hb => ?_)
  · have k := k.1 hb
    refine zr_aload_n dX12_next_26 rfl rfl ?_
    refine zr_aload_n dX12_next_27 rfl rfl ?_
    refine zr_getIv (x := (I 84 29)) dX12_next_28 zf_X12_225 rfl (hS.has (a := 84) rfl rfl) rfl ?_
    refine zr_iconst (v := 1) dX12_next_31 (by decide) ?_
    refine zr_iadd dX12_next_32 ?_
    refine zr_putI dX12_next_33 zf_X12_225 rfl (hS.has (a := 84) rfl rfl) rfl rfl ?_
    refine zr_goto (tgt := 0) dX12_next_36 (by decide) ?_
    exact k
  · have k := k.2 hb
    refine zr_aload_n dX12_next_13 rfl rfl ?_
    refine zr_aload_n dX12_next_14 rfl rfl ?_
    refine zr_getIv (x := (I 84 29)) dX12_next_15 zf_X12_225 rfl (hS.has (a := 84) rfl rfl) rfl ?_
    refine zr_callV (As := [.int (I 84 29)]) (fr' := fX12_raw) (lo' := lX12_raw) (bc' := 0) (bs' := 0) (bcr := bc) (bsr := bs) dX12_next_18 zs_X12_228 zi_X12_raw zcl_12 (hS.has (a := 84) rfl rfl) rfl rfl (Nat.le_of_ble_eq_true rfl) (Nat.le_of_ble_eq_true rfl) (Nat.le_of_ble_eq_true rfl) (Nat.le_refl _) (Nat.le_refl _) ?_
    obtain ⟨hq0, k⟩ := k
    refine sp_X12_raw hS hq0 ?_
    show ZW G mX12_next fX12_next lX12_next 21 [zo G 84, .null] [.int (p_X12_raw I (I 84 29))] S I L bc bs Q
    refine zr_bipush (v := 10) dX12_next_21 (by decide) ?_
    refine zr_icne (tgt := 39) dX12_next_23 (by decide) (fun hb => ?_) (fun hb => ?_)
    · have k := k.1 hb
      refine zr_aload_n dX12_next_39 rfl rfl ?_
      refine zr_aload_n dX12_next_40 rfl rfl ?_
      refine zr_getIv (x := (I 84 29)) dX12_next_41 zf_X12_225 rfl (hS.has (a := 84) rfl rfl) rfl ?_
      refine zr_putI dX12_next_44 zf_X12_231 rfl (hS.has (a := 84) rfl rfl) rfl rfl ?_
      refine zr_aload_n dX12_next_47 rfl rfl ?_
      refine zr_iconst (v := 1) dX12_next_48 (by decide) ?_
      refine zr_putI dX12_next_49 zf_X12_234 rfl (hS.has (a := 84) rfl rfl) rfl rfl ?_
      refine zr_aload_n dX12_next_52 rfl rfl ?_
      refine zr_aload_n dX12_next_53 rfl rfl ?_
      refine zr_getIv (x := (I 84 29)) dX12_next_54 zf_X12_225 rfl (hS.has (a := 84) rfl rfl) rfl ?_
      refine zr_callV (As := [.int (I 84 29)]) (fr' := fX12_raw) (lo' := lX12_raw) (bc' := 0) (bs' := 0) (bcr := bc) (bsr := bs) dX12_next_57 zs_X12_228 zi_X12_raw zcl_12 (hS.has (a := 84) rfl rfl) rfl rfl (Nat.le_of_ble_eq_true rfl) (Nat.le_of_ble_eq_true rfl) (Nat.le_of_ble_eq_true rfl) (Nat.le_refl _) (Nat.le_refl _) ?_
      obtain ⟨hq0, k⟩ := k
      refine sp_X12_raw hS hq0 ?_
      show ZW G mX12_next fX12_next lX12_next 60 [zo G 84, .null] [.int (p_X12_raw (u2 (u2 I 84 30 (I 84 29)) 84 31 (1 : Int32)) (I 84 29))] S (u2 (u2 I 84 30 (I 84 29)) 84 31 (1 : Int32)) L bc bs Q
      refine zr_istore_n dX12_next_60 rfl (Nat.le_of_ble_eq_true rfl) rfl ?_
      refine zr_iload_n dX12_next_61 rfl rfl ?_
      refine zr_iconst (v := -1) dX12_next_62 (by decide) ?_
      refine zr_icne (tgt := 72) dX12_next_63 (by decide) (fun hb => ?_) (fun hb => ?_)
      · have k := k.1 hb
        refine zr_aload_n dX12_next_72 rfl rfl ?_
        refine zr_aload_n dX12_next_73 rfl rfl ?_
        refine zr_getIv (x := (I 84 29)) dX12_next_74 zf_X12_225 rfl (hS.has (a := 84) rfl rfl) rfl ?_
        refine zr_iconst (v := 1) dX12_next_77 (by decide) ?_
        refine zr_iadd dX12_next_78 ?_
        refine zr_putI dX12_next_79 zf_X12_225 rfl (hS.has (a := 84) rfl rfl) rfl rfl ?_
        refine zr_aload_n dX12_next_82 rfl rfl ?_
        refine zr_iload_n dX12_next_83 rfl rfl ?_
        refine zr_callV (As := [.int (p_X12_raw (u2 (u2 I 84 30 (I 84 29)) 84 31 (1 : Int32)) (I 84 29))]) (fr' := fX12_isLetter) (lo' := lX12_isLetter) (bc' := 0) (bs' := 0) (bcr := bc) (bsr := bs) dX12_next_84 zs_X12_237 zi_X12_isLetter zcl_12 (hS.has (a := 84) rfl rfl) rfl rfl (Nat.le_of_ble_eq_true rfl) (Nat.le_of_ble_eq_true rfl) (Nat.le_of_ble_eq_true rfl) (Nat.le_refl _) (Nat.le_refl _) ?_
        refine sp_X12_isLetter hS  ?_
        show ZW G mX12_next fX12_next lX12_next 87 [zo G 84, .int (p_X12_raw (u2 (u2 I 84 30 (I 84 29)) 84 31 (1 : Int32)) (I 84 29))] [.int (p_X12_isLetter (p_X12_raw (u2 (u2 I 84 30 (I 84 29)) 84 31 (1 : Int32)) (I 84 29)))] S (u2 (u2 (u2 I 84 30 (I 84 29)) 84 31 (1 : Int32)) 84 29 ((I 84 29) + (1 : Int32))) L bc bs Q
        refine zr_ifeq (tgt := 150) dX12_next_87 (by decide) (fun hb => ?_) (fun hb => ?_)
        · have k := k.1 hb
          refine zr_aload_n dX12_next_150 rfl rfl ?_
          refine zr_iload_n dX12_next_151 rfl rfl ?_
          refine zr_callV (As := [.int (p_X12_raw (u2 (u2 I 84 30 (I 84 29)) 84 31 (1 : Int32)) (I 84 29))]) (fr' := fX12_isDigit) (lo' := lX12_isDigit) (bc' := 0) (bs' := 0) (bcr := bc) (bsr := bs) dX12_next_152 zs_X12_247 zi_X12_isDigit zcl_12 (hS.has (a := 84) rfl rfl) rfl rfl (Nat.le_of_ble_eq_true rfl) (Nat.le_of_ble_eq_true rfl) (Nat.le_of_ble_eq_true rfl) (Nat.le_refl _) (Nat.le_refl _) ?_
          refine sp_X12_isDigit hS  ?_
          show ZW G mX12_next fX12_next lX12_next 155 [zo G 84, .int (p_X12_raw (u2 (u2 I 84 30 (I 84 29)) 84 31 (1 : Int32)) (I 84 29))] [.int (p_X12_isDigit (p_X12_raw (u2 (u2 I 84 30 (I 84 29)) 84 31 (1 : Int32)) (I 84 29)))] S (u2 (u2 (u2 I 84 30 (I 84 29)) 84 31 (1 : Int32)) 84 29 ((I 84 29) + (1 : Int32))) L bc bs Q
          refine zr_ifeq (tgt := 254) dX12_next_155 (by decide) (fun hb => ?_) (fun hb => ?_)
          · have k := k.1 hb
            refine zr_iload_n dX12_next_254 rfl rfl ?_
            refine zr_bipush (v := 59) dX12_next_255 (by decide) ?_
            refine zr_icne (tgt := 265) dX12_next_257 (by decide) (fun hb => ?_) (fun hb => ?_)
            · have k := k.1 hb
              exact zr_return_ dX12_next_265 rfl k
            · have k := k.2 hb
              refine zr_aload_n dX12_next_260 rfl rfl ?_
              refine zr_iconst (v := 4) dX12_next_261 (by decide) ?_
              refine zr_putI dX12_next_262 zf_X12_234 rfl (hS.has (a := 84) rfl rfl) rfl rfl ?_
              exact zr_return_ dX12_next_265 rfl k
          · have k := k.2 hb
            refine zr_aload_n dX12_next_158 rfl rfl ?_
            refine zr_iload_n dX12_next_159 rfl rfl ?_
            refine zr_bipush (v := 48) dX12_next_160 (by decide) ?_
            refine zr_isub dX12_next_162 ?_
            refine zr_putI dX12_next_163 zf_X12_244 rfl (hS.has (a := 84) rfl rfl) rfl rfl ?_
            exact k
        · have k := k.2 hb
          exact k
      · have k := k.2 hb
        refine zr_aload_n dX12_next_66 rfl rfl ?_
        refine zr_iconst (v := 0) dX12_next_67 (by decide) ?_
        refine zr_putI dX12_next_68 zf_X12_234 rfl (hS.has (a := 84) rfl rfl) rfl rfl ?_
        exact zr_return_ dX12_next_71 rfl k
    · have k := k.2 hb
      refine zr_aload_n dX12_next_26 rfl rfl ?_
      refine zr_aload_n dX12_next_27 rfl rfl ?_
      refine zr_getIv (x := (I 84 29)) dX12_next_28 zf_X12_225 rfl (hS.has (a := 84) rfl rfl) rfl ?_
      refine zr_iconst (v := 1) dX12_next_31 (by decide) ?_
      refine zr_iadd dX12_next_32 ?_
      refine zr_putI dX12_next_33 zf_X12_225 rfl (hS.has (a := 84) rfl rfl) rfl rfl ?_
      refine zr_goto (tgt := 0) dX12_next_36 (by decide) ?_
      exact k
set_option maxHeartbeats 2000000 in
theorem vX12_next_90 {G : Gp} {bc bs : Nat} {Q : zPost} {S : zSh} {I : zFI} {L : zFL} {v1 : Int32} (hS : zStd S)  (k : (¬ (I 84 26) ≤ (I 84 29) → vp_in (I 84 29) 800) ∧ (((p_X12_isLetter (p_X12_raw I (I 84 29))) = 0 → ZC G mX12_wordAt fX12_wordAt lX12_wordAt [zo G 84, .int (I 84 30), .int (I 84 29)] S I L 0 0 (fun w S' I1 L1 => ∃ r1 : Int32, w = some (.int r1) ∧ S = S' ∧ ((r1 = (-1 : Int32) → Q none S (u2 I1 84 32 r1) L1) ∧ (¬ r1 = (-1 : Int32) → Q none S (u2 (u2 I1 84 32 r1) 84 31 (2 : Int32)) L1)))) ∧ (¬ (p_X12_isLetter (p_X12_raw I (I 84 29))) = 0 → ZW G mX12_next fX12_next lX12_next 90 [zo G 84, .int v1] [] S (u2 I 84 29 ((I 84 29) + (1 : Int32))) L bc bs Q))) : ZW G mX12_next fX12_next lX12_next 90 [zo G 84, .int v1] [] S I L bc bs Q := by
  refine zr_aload_n dX12_next_90 rfl rfl ?_
  refine zr_aload_n dX12_next_91 rfl rfl ?_
  refine zr_aload_n dX12_next_92 rfl rfl ?_
  refine zr_getIv (x := (I 84 29)) dX12_next_93 zf_X12_225 rfl (hS.has (a := 84) rfl rfl) rfl ?_
  refine zr_callV (As := [.int (I 84 29)]) (fr' := fX12_raw) (lo' := lX12_raw) (bc' := 0) (bs' := 0) (bcr := bc) (bsr := bs) dX12_next_96 zs_X12_228 zi_X12_raw zcl_12 (hS.has (a := 84) rfl rfl) rfl rfl (Nat.le_of_ble_eq_true rfl) (Nat.le_of_ble_eq_true rfl) (Nat.le_of_ble_eq_true rfl) (Nat.le_refl _) (Nat.le_refl _) ?_
  obtain ⟨hq0, k⟩ := k
  refine sp_X12_raw hS hq0 ?_
  show ZW G mX12_next fX12_next lX12_next 99 [zo G 84, .int v1] [.int (p_X12_raw I (I 84 29)), zo G 84] S I L bc bs Q
  refine zr_callV (As := [.int (p_X12_raw I (I 84 29))]) (fr' := fX12_isLetter) (lo' := lX12_isLetter) (bc' := 0) (bs' := 0) (bcr := bc) (bsr := bs) dX12_next_99 zs_X12_237 zi_X12_isLetter zcl_12 (hS.has (a := 84) rfl rfl) rfl rfl (Nat.le_of_ble_eq_true rfl) (Nat.le_of_ble_eq_true rfl) (Nat.le_of_ble_eq_true rfl) (Nat.le_refl _) (Nat.le_refl _) ?_
  refine sp_X12_isLetter hS  ?_
  show ZW G mX12_next fX12_next lX12_next 102 [zo G 84, .int v1] [.int (p_X12_isLetter (p_X12_raw I (I 84 29)))] S I L bc bs Q
  refine zr_ifeq (tgt := 118) dX12_next_102 (by decide) (fun hb => ?_) (fun hb => ?_)
  · have k := k.1 hb
    refine zr_aload_n dX12_next_118 rfl rfl ?_
    refine zr_aload_n dX12_next_119 rfl rfl ?_
    refine zr_aload_n dX12_next_120 rfl rfl ?_
    refine zr_getIv (x := (I 84 30)) dX12_next_121 zf_X12_231 rfl (hS.has (a := 84) rfl rfl) rfl ?_
    refine zr_aload_n dX12_next_124 rfl rfl ?_
    refine zr_getIv (x := (I 84 29)) dX12_next_125 zf_X12_225 rfl (hS.has (a := 84) rfl rfl) rfl ?_
    refine zr_callV (As := [.int (I 84 30), .int (I 84 29)]) (fr' := fX12_wordAt) (lo' := lX12_wordAt) (bc' := 0) (bs' := 0) (bcr := bc) (bsr := bs) dX12_next_128 zs_X12_240 zi_X12_wordAt zcl_12 (hS.has (a := 84) rfl rfl) rfl rfl (Nat.le_of_ble_eq_true rfl) (Nat.le_of_ble_eq_true rfl) (Nat.le_of_ble_eq_true rfl) (Nat.le_refl _) (Nat.le_refl _) ?_
    refine ZC.mono (fun w S' I1 L1 k => ?_) k
    obtain ⟨r1, rfl, rfl, k⟩ := k
    show ZW G mX12_next fX12_next lX12_next 131 [zo G 84, .int v1] [.int r1, zo G 84] S I1 L1 bc bs Q
    refine zr_putI dX12_next_131 zf_X12_244 rfl (hS.has (a := 84) rfl rfl) rfl rfl ?_
    refine zr_aload_n dX12_next_134 rfl rfl ?_
    refine zr_getIv (x := r1) dX12_next_135 zf_X12_244 rfl (hS.has (a := 84) rfl rfl) rfl ?_
    refine zr_iconst (v := -1) dX12_next_138 (by decide) ?_
    refine zr_iceq (tgt := 265) dX12_next_139 (by decide) (fun hb => ?_) (fun hb => ?_)
    · have k := k.1 hb
      exact zr_return_ dX12_next_265 rfl k
    · have k := k.2 hb
      refine zr_aload_n dX12_next_142 rfl rfl ?_
      refine zr_iconst (v := 2) dX12_next_143 (by decide) ?_
      refine zr_putI dX12_next_144 zf_X12_234 rfl (hS.has (a := 84) rfl rfl) rfl rfl ?_
      refine zr_goto (tgt := 265) dX12_next_147 (by decide) ?_
      exact zr_return_ dX12_next_265 rfl k
  · have k := k.2 hb
    refine zr_aload_n dX12_next_105 rfl rfl ?_
    refine zr_aload_n dX12_next_106 rfl rfl ?_
    refine zr_getIv (x := (I 84 29)) dX12_next_107 zf_X12_225 rfl (hS.has (a := 84) rfl rfl) rfl ?_
    refine zr_iconst (v := 1) dX12_next_110 (by decide) ?_
    refine zr_iadd dX12_next_111 ?_
    refine zr_putI dX12_next_112 zf_X12_225 rfl (hS.has (a := 84) rfl rfl) rfl rfl ?_
    refine zr_goto (tgt := 90) dX12_next_115 (by decide) ?_
    exact k
set_option maxHeartbeats 2000000 in
theorem vX12_next_166 {G : Gp} {bc bs : Nat} {Q : zPost} {S : zSh} {I : zFI} {L : zFL} {v1 : Int32} (hS : zStd S)  (k : (¬ (I 84 26) ≤ (I 84 29) → vp_in (I 84 29) 800) ∧ (((p_X12_isDigit (p_X12_raw I (I 84 29))) = 0 → (((3 : Int32) ≤ ((I 84 29) - (I 84 30)) → Q none S I L) ∧ (¬ (3 : Int32) ≤ ((I 84 29) - (I 84 30)) → Q none S (u2 I 84 31 (3 : Int32)) L))) ∧ (¬ (p_X12_isDigit (p_X12_raw I (I 84 29))) = 0 → (((100 : Int32) ≤ (I 84 32) → ZW G mX12_next fX12_next lX12_next 166 [zo G 84, .int v1] [] S (u2 (u2 I 84 32 (I 84 32)) 84 29 ((I 84 29) + (1 : Int32))) L bc bs Q) ∧ (¬ (100 : Int32) ≤ (I 84 32) → (¬ (I 84 26) ≤ (I 84 29) → vp_in (I 84 29) 800) ∧ ZW G mX12_next fX12_next lX12_next 166 [zo G 84, .int v1] [] S (u2 (u2 I 84 32 ((((10 : Int32) * (I 84 32)) + (p_X12_raw I (I 84 29))) - (48 : Int32))) 84 29 ((I 84 29) + (1 : Int32))) L bc bs Q))))) : ZW G mX12_next fX12_next lX12_next 166 [zo G 84, .int v1] [] S I L bc bs Q := by
  refine zr_aload_n dX12_next_166 rfl rfl ?_
  refine zr_aload_n dX12_next_167 rfl rfl ?_
  refine zr_aload_n dX12_next_168 rfl rfl ?_
  refine zr_getIv (x := (I 84 29)) dX12_next_169 zf_X12_225 rfl (hS.has (a := 84) rfl rfl) rfl ?_
  refine zr_callV (As := [.int (I 84 29)]) (fr' := fX12_raw) (lo' := lX12_raw) (bc' := 0) (bs' := 0) (bcr := bc) (bsr := bs) dX12_next_172 zs_X12_228 zi_X12_raw zcl_12 (hS.has (a := 84) rfl rfl) rfl rfl (Nat.le_of_ble_eq_true rfl) (Nat.le_of_ble_eq_true rfl) (Nat.le_of_ble_eq_true rfl) (Nat.le_refl _) (Nat.le_refl _) ?_
  obtain ⟨hq0, k⟩ := k
  refine sp_X12_raw hS hq0 ?_
  show ZW G mX12_next fX12_next lX12_next 175 [zo G 84, .int v1] [.int (p_X12_raw I (I 84 29)), zo G 84] S I L bc bs Q
  refine zr_callV (As := [.int (p_X12_raw I (I 84 29))]) (fr' := fX12_isDigit) (lo' := lX12_isDigit) (bc' := 0) (bs' := 0) (bcr := bc) (bsr := bs) dX12_next_175 zs_X12_247 zi_X12_isDigit zcl_12 (hS.has (a := 84) rfl rfl) rfl rfl (Nat.le_of_ble_eq_true rfl) (Nat.le_of_ble_eq_true rfl) (Nat.le_of_ble_eq_true rfl) (Nat.le_refl _) (Nat.le_refl _) ?_
  refine sp_X12_isDigit hS  ?_
  show ZW G mX12_next fX12_next lX12_next 178 [zo G 84, .int v1] [.int (p_X12_isDigit (p_X12_raw I (I 84 29)))] S I L bc bs Q
  refine zr_ifeq (tgt := 233) dX12_next_178 (by decide) (fun hb => ?_) (fun hb => ?_)
  · have k := k.1 hb
    refine zr_aload_n dX12_next_233 rfl rfl ?_
    refine zr_getIv (x := (I 84 29)) dX12_next_234 zf_X12_225 rfl (hS.has (a := 84) rfl rfl) rfl ?_
    refine zr_aload_n dX12_next_237 rfl rfl ?_
    refine zr_getIv (x := (I 84 30)) dX12_next_238 zf_X12_231 rfl (hS.has (a := 84) rfl rfl) rfl ?_
    refine zr_isub dX12_next_241 ?_
    refine zr_iconst (v := 3) dX12_next_242 (by decide) ?_
    refine zr_icge (tgt := 265) dX12_next_243 (by decide) (fun hb => ?_) (fun hb => ?_)
    · have k := k.1 hb
      exact zr_return_ dX12_next_265 rfl k
    · have k := k.2 hb
      refine zr_aload_n dX12_next_246 rfl rfl ?_
      refine zr_iconst (v := 3) dX12_next_247 (by decide) ?_
      refine zr_putI dX12_next_248 zf_X12_234 rfl (hS.has (a := 84) rfl rfl) rfl rfl ?_
      refine zr_goto (tgt := 265) dX12_next_251 (by decide) ?_
      exact zr_return_ dX12_next_265 rfl k
  · have k := k.2 hb
    refine zr_aload_n dX12_next_181 rfl rfl ?_
    refine zr_aload_n dX12_next_182 rfl rfl ?_
    refine zr_getIv (x := (I 84 32)) dX12_next_183 zf_X12_244 rfl (hS.has (a := 84) rfl rfl) rfl ?_
    refine zr_bipush (v := 100) dX12_next_186 (by decide) ?_
    refine zr_icge (tgt := 213) dX12_next_188 (by decide) (fun hb => ?_) (fun hb => ?_)
    · have k := k.1 hb
      refine zr_aload_n dX12_next_213 rfl rfl ?_
      refine zr_getIv (x := (I 84 32)) dX12_next_214 zf_X12_244 rfl (hS.has (a := 84) rfl rfl) rfl ?_
      refine zr_putI dX12_next_217 zf_X12_244 rfl (hS.has (a := 84) rfl rfl) rfl rfl ?_
      refine zr_aload_n dX12_next_220 rfl rfl ?_
      refine zr_aload_n dX12_next_221 rfl rfl ?_
      refine zr_getIv (x := (I 84 29)) dX12_next_222 zf_X12_225 rfl (hS.has (a := 84) rfl rfl) rfl ?_
      refine zr_iconst (v := 1) dX12_next_225 (by decide) ?_
      refine zr_iadd dX12_next_226 ?_
      refine zr_putI dX12_next_227 zf_X12_225 rfl (hS.has (a := 84) rfl rfl) rfl rfl ?_
      refine zr_goto (tgt := 166) dX12_next_230 (by decide) ?_
      exact k
    · have k := k.2 hb
      refine zr_bipush (v := 10) dX12_next_191 (by decide) ?_
      refine zr_aload_n dX12_next_193 rfl rfl ?_
      refine zr_getIv (x := (I 84 32)) dX12_next_194 zf_X12_244 rfl (hS.has (a := 84) rfl rfl) rfl ?_
      refine zr_imul dX12_next_197 ?_
      refine zr_aload_n dX12_next_198 rfl rfl ?_
      refine zr_aload_n dX12_next_199 rfl rfl ?_
      refine zr_getIv (x := (I 84 29)) dX12_next_200 zf_X12_225 rfl (hS.has (a := 84) rfl rfl) rfl ?_
      refine zr_callV (As := [.int (I 84 29)]) (fr' := fX12_raw) (lo' := lX12_raw) (bc' := 0) (bs' := 0) (bcr := bc) (bsr := bs) dX12_next_203 zs_X12_228 zi_X12_raw zcl_12 (hS.has (a := 84) rfl rfl) rfl rfl (Nat.le_of_ble_eq_true rfl) (Nat.le_of_ble_eq_true rfl) (Nat.le_of_ble_eq_true rfl) (Nat.le_refl _) (Nat.le_refl _) ?_
      obtain ⟨hq0, k⟩ := k
      refine sp_X12_raw hS hq0 ?_
      show ZW G mX12_next fX12_next lX12_next 206 [zo G 84, .int v1] [.int (p_X12_raw I (I 84 29)), .int ((10 : Int32) * (I 84 32)), zo G 84] S I L bc bs Q
      refine zr_iadd dX12_next_206 ?_
      refine zr_bipush (v := 48) dX12_next_207 (by decide) ?_
      refine zr_isub dX12_next_209 ?_
      refine zr_goto (tgt := 217) dX12_next_210 (by decide) ?_
      refine zr_putI dX12_next_217 zf_X12_244 rfl (hS.has (a := 84) rfl rfl) rfl rfl ?_
      refine zr_aload_n dX12_next_220 rfl rfl ?_
      refine zr_aload_n dX12_next_221 rfl rfl ?_
      refine zr_getIv (x := (I 84 29)) dX12_next_222 zf_X12_225 rfl (hS.has (a := 84) rfl rfl) rfl ?_
      refine zr_iconst (v := 1) dX12_next_225 (by decide) ?_
      refine zr_iadd dX12_next_226 ?_
      refine zr_putI dX12_next_227 zf_X12_225 rfl (hS.has (a := 84) rfl rfl) rfl rfl ?_
      refine zr_goto (tgt := 166) dX12_next_230 (by decide) ?_
      exact k
set_option maxHeartbeats 2000000 in
theorem vX12_fails_0 {G : Gp} {bc bs : Nat} {Q : zPost} {S : zSh} {I : zFI} {L : zFL} {v1 : Int32} (hS : zStd S)  (k : Q (some (.int (-1 : Int32))) S (u2 (u2 I 84 34 v1) 84 35 (I 84 30)) L) : ZW G mX12_fails fX12_fails lX12_fails 0 [zo G 84, .int v1] [] S I L bc bs Q := by
  refine zr_aload_n dX12_fails_0 rfl rfl ?_
  refine zr_iload_n dX12_fails_1 rfl rfl ?_
  refine zr_putI dX12_fails_2 zf_X12_250 rfl (hS.has (a := 84) rfl rfl) rfl rfl ?_
  refine zr_aload_n dX12_fails_5 rfl rfl ?_
  refine zr_aload_n dX12_fails_6 rfl rfl ?_
  refine zr_getIv (x := (I 84 30)) dX12_fails_7 zf_X12_231 rfl (hS.has (a := 84) rfl rfl) rfl ?_
  refine zr_putI dX12_fails_10 zf_X12_253 rfl (hS.has (a := 84) rfl rfl) rfl rfl ?_
  refine zr_iconst (v := -1) dX12_fails_13 (by decide) ?_
  exact zr_ireturn dX12_fails_14 rfl rfl k
set_option maxHeartbeats 2000000 in
theorem vX12_isWord_0 {G : Gp} {bc bs : Nat} {Q : zPost} {S : zSh} {I : zFI} {L : zFL} {v1 : Int32} {v2 : Int32} (hS : zStd S)  (k : ((¬ (I 84 31) = (2 : Int32) → Q (some (.int (0 : Int32))) S I L) ∧ ((I 84 31) = (2 : Int32) → (((p_X12_isIn (I 84 32) v1 v2) = 0 → Q (some (.int (0 : Int32))) S I L) ∧ (¬ (p_X12_isIn (I 84 32) v1 v2) = 0 → Q (some (.int (1 : Int32))) S I L))))) : ZW G mX12_isWord fX12_isWord lX12_isWord 0 [zo G 84, .int v1, .int v2] [] S I L bc bs Q := by
  refine zr_aload_n dX12_isWord_0 rfl rfl ?_
  refine zr_getIv (x := (I 84 31)) dX12_isWord_1 zf_X12_234 rfl (hS.has (a := 84) rfl rfl) rfl ?_
  refine zr_iconst (v := 2) dX12_isWord_4 (by decide) ?_
  refine zr_icne (tgt := 25) dX12_isWord_5 (by decide) (fun hb => ?_) (fun hb => ?_)
  · have k := k.1 hb
    refine zr_iconst (v := 0) dX12_isWord_25 (by decide) ?_
    exact zr_ireturn dX12_isWord_26 rfl rfl k
  · have k := k.2 hb
    refine zr_aload_n dX12_isWord_8 rfl rfl ?_
    refine zr_aload_n dX12_isWord_9 rfl rfl ?_
    refine zr_getIv (x := (I 84 32)) dX12_isWord_10 zf_X12_244 rfl (hS.has (a := 84) rfl rfl) rfl ?_
    refine zr_iload_n dX12_isWord_13 rfl rfl ?_
    refine zr_iload_n dX12_isWord_14 rfl rfl ?_
    refine zr_callV (As := [.int (I 84 32), .int v1, .int v2]) (fr' := fX12_isIn) (lo' := lX12_isIn) (bc' := 0) (bs' := 0) (bcr := bc) (bsr := bs) dX12_isWord_15 zs_X12_201 zi_X12_isIn zcl_12 (hS.has (a := 84) rfl rfl) rfl rfl (Nat.le_of_ble_eq_true rfl) (Nat.le_of_ble_eq_true rfl) (Nat.le_of_ble_eq_true rfl) (Nat.le_refl _) (Nat.le_refl _) ?_
    refine sp_X12_isIn hS  ?_
    show ZW G mX12_isWord fX12_isWord lX12_isWord 18 [zo G 84, .int v1, .int v2] [.int (p_X12_isIn (I 84 32) v1 v2)] S I L bc bs Q
    refine zr_ifeq (tgt := 25) dX12_isWord_18 (by decide) (fun hb => ?_) (fun hb => ?_)
    · have k := k.1 hb
      refine zr_iconst (v := 0) dX12_isWord_25 (by decide) ?_
      exact zr_ireturn dX12_isWord_26 rfl rfl k
    · have k := k.2 hb
      refine zr_iconst (v := 1) dX12_isWord_21 (by decide) ?_
      refine zr_goto (tgt := 26) dX12_isWord_22 (by decide) ?_
      exact zr_ireturn dX12_isWord_26 rfl rfl k
def p_X12_isWord (I : zFI) (v1 : Int32) (v2 : Int32) : Int32 := (if (I 84 31) = (2 : Int32) then (if (p_X12_isIn (I 84 32) v1 v2) = 0 then (0 : Int32) else (1 : Int32)) else (0 : Int32))
set_option maxHeartbeats 2000000 in
theorem sp_X12_isWord {G : Gp} {Q : zPost} {S : zSh} {I : zFI} {L : zFL} {v1 : Int32} {v2 : Int32} (hS : zStd S)  (h : Q (some (.int (p_X12_isWord I v1 v2))) S I L) : ZC G mX12_isWord fX12_isWord lX12_isWord [zo G 84, .int v1, .int v2] S I L 0 0 Q := by
  refine ZC.of' (vX12_isWord_0 hS  ?_) rfl (Nat.le_of_ble_eq_true rfl) rfl
  unfold p_X12_isWord at h
  refine ⟨fun hb1 => ?_, fun hb1 => ?_⟩
  · rw [if_neg hb1] at h
    exact h
  · rw [if_pos hb1] at h
    refine ⟨fun hb2 => ?_, fun hb2 => ?_⟩
    · rw [if_pos hb2] at h
      exact h
    · rw [if_neg hb2] at h
      exact h
theorem pb_X12_isWord (I : zFI) (v1 : Int32) (v2 : Int32) : p_X12_isWord I v1 v2 = 0 ∨ p_X12_isWord I v1 v2 = 1 := by
  unfold p_X12_isWord
  repeat' split
  all_goals first | exact Or.inl rfl | exact Or.inr rfl | exact pb_X12_isIn _ _ _
set_option maxHeartbeats 2000000 in
theorem vX12_number_0 {G : Gp} {bc bs : Nat} {Q : zPost} {S : zSh} {I : zFI} {L : zFL} {v1 : Int32} {v2 : Int32} {v3 : Int32} (hS : zStd S)  (k : (((I 84 31) = (3 : Int32) → ((¬ (p_X12_isIn (I 84 32) v1 v2) = 0 → vp_in v3 150 ∧ ZC G mX12_next fX12_next lX12_next [zo G 84] S (u2 I 105 v3.toNatClampNeg (I 84 32)) L 0 0 (fun w S' I1 L1 => w = none ∧ S = S' ∧ Q (some (.int (0 : Int32))) S I1 L1)) ∧ ((p_X12_isIn (I 84 32) v1 v2) = 0 → ZC G mX12_fails fX12_fails lX12_fails [zo G 84, .int (2 : Int32)] S I L 0 0 (fun w S' I2 L2 => ∃ r2 : Int32, w = some (.int r2) ∧ S = S' ∧ Q (some (.int r2)) S I2 L2)))) ∧ (¬ (I 84 31) = (3 : Int32) → ZC G mX12_fails fX12_fails lX12_fails [zo G 84, .int (1 : Int32)] S I L 0 0 (fun w S' I3 L3 => ∃ r3 : Int32, w = some (.int r3) ∧ S = S' ∧ Q (some (.int r3)) S I3 L3)))) : ZW G mX12_number fX12_number lX12_number 0 [zo G 84, .int v1, .int v2, .int v3] [] S I L bc bs Q := by
  refine zr_aload_n dX12_number_0 rfl rfl ?_
  refine zr_getIv (x := (I 84 31)) dX12_number_1 zf_X12_234 rfl (hS.has (a := 84) rfl rfl) rfl ?_
  refine zr_iconst (v := 3) dX12_number_4 (by decide) ?_
  refine zr_iceq (tgt := 14) dX12_number_5 (by decide) (fun hb => ?_) (fun hb => ?_)
  · have k := k.1 hb
    refine zr_aload_n dX12_number_14 rfl rfl ?_
    refine zr_aload_n dX12_number_15 rfl rfl ?_
    refine zr_getIv (x := (I 84 32)) dX12_number_16 zf_X12_244 rfl (hS.has (a := 84) rfl rfl) rfl ?_
    refine zr_iload_n dX12_number_19 rfl rfl ?_
    refine zr_iload_n dX12_number_20 rfl rfl ?_
    refine zr_callV (As := [.int (I 84 32), .int v1, .int v2]) (fr' := fX12_isIn) (lo' := lX12_isIn) (bc' := 0) (bs' := 0) (bcr := bc) (bsr := bs) dX12_number_21 zs_X12_201 zi_X12_isIn zcl_12 (hS.has (a := 84) rfl rfl) rfl rfl (Nat.le_of_ble_eq_true rfl) (Nat.le_of_ble_eq_true rfl) (Nat.le_of_ble_eq_true rfl) (Nat.le_refl _) (Nat.le_refl _) ?_
    refine sp_X12_isIn hS  ?_
    show ZW G mX12_number fX12_number lX12_number 24 [zo G 84, .int v1, .int v2, .int v3] [.int (p_X12_isIn (I 84 32) v1 v2)] S I L bc bs Q
    refine zr_ifne (tgt := 33) dX12_number_24 (by decide) (fun hb => ?_) (fun hb => ?_)
    · have k := k.1 hb
      refine zr_aload_n dX12_number_33 rfl rfl ?_
      refine zr_getR dX12_number_34 zf_X12_75 rfl (hS.has (a := 84) rfl rfl) (hS.ref (a := 105) rfl) ?_
      refine zr_iload_n dX12_number_37 rfl rfl ?_
      refine zr_aload_n dX12_number_38 rfl rfl ?_
      refine zr_getIv (x := (I 84 32)) dX12_number_39 zf_X12_244 rfl (hS.has (a := 84) rfl rfl) rfl ?_
      obtain ⟨hi1, k⟩ := k
      refine zr_iast dX12_number_42 (hS.has (a := 105) rfl rfl) hi1 ?_
      refine zr_aload_n dX12_number_43 rfl rfl ?_
      refine zr_callV (As := []) (fr' := fX12_next) (lo' := lX12_next) (bc' := 0) (bs' := 0) (bcr := bc) (bsr := bs) dX12_number_44 zs_X12_259 zi_X12_next zcl_12 (hS.has (a := 84) rfl rfl) rfl rfl (Nat.le_of_ble_eq_true rfl) (Nat.le_of_ble_eq_true rfl) (Nat.le_of_ble_eq_true rfl) (Nat.le_refl _) (Nat.le_refl _) ?_
      refine ZC.mono (fun w S' I1 L1 k => ?_) k
      obtain ⟨rfl, rfl, k⟩ := k
      show ZW G mX12_number fX12_number lX12_number 47 [zo G 84, .int v1, .int v2, .int v3] [] S I1 L1 bc bs Q
      refine zr_iconst (v := 0) dX12_number_47 (by decide) ?_
      exact zr_ireturn dX12_number_48 rfl rfl k
    · have k := k.2 hb
      refine zr_aload_n dX12_number_27 rfl rfl ?_
      refine zr_iconst (v := 2) dX12_number_28 (by decide) ?_
      refine zr_callV (As := [.int (2 : Int32)]) (fr' := fX12_fails) (lo' := lX12_fails) (bc' := 0) (bs' := 0) (bcr := bc) (bsr := bs) dX12_number_29 zs_X12_256 zi_X12_fails zcl_12 (hS.has (a := 84) rfl rfl) rfl rfl (Nat.le_of_ble_eq_true rfl) (Nat.le_of_ble_eq_true rfl) (Nat.le_of_ble_eq_true rfl) (Nat.le_refl _) (Nat.le_refl _) ?_
      refine ZC.mono (fun w S' I2 L2 k => ?_) k
      obtain ⟨r2, rfl, rfl, k⟩ := k
      show ZW G mX12_number fX12_number lX12_number 32 [zo G 84, .int v1, .int v2, .int v3] [.int r2] S I2 L2 bc bs Q
      exact zr_ireturn dX12_number_32 rfl rfl k
  · have k := k.2 hb
    refine zr_aload_n dX12_number_8 rfl rfl ?_
    refine zr_iconst (v := 1) dX12_number_9 (by decide) ?_
    refine zr_callV (As := [.int (1 : Int32)]) (fr' := fX12_fails) (lo' := lX12_fails) (bc' := 0) (bs' := 0) (bcr := bc) (bsr := bs) dX12_number_10 zs_X12_256 zi_X12_fails zcl_12 (hS.has (a := 84) rfl rfl) rfl rfl (Nat.le_of_ble_eq_true rfl) (Nat.le_of_ble_eq_true rfl) (Nat.le_of_ble_eq_true rfl) (Nat.le_refl _) (Nat.le_refl _) ?_
    refine ZC.mono (fun w S' I3 L3 k => ?_) k
    obtain ⟨r3, rfl, rfl, k⟩ := k
    show ZW G mX12_number fX12_number lX12_number 13 [zo G 84, .int v1, .int v2, .int v3] [.int r3] S I3 L3 bc bs Q
    exact zr_ireturn dX12_number_13 rfl rfl k
set_option maxHeartbeats 2000000 in
theorem vX12_lineComes_0 {G : Gp} {bc bs : Nat} {Q : zPost} {S : zSh} {I : zFI} {L : zFL}  (hS : zStd S)  (k : ZC G mX12_next fX12_next lX12_next [zo G 84] S I L 0 0 (fun w S' I1 L1 => w = none ∧ S = S' ∧ ((¬ (I 84 32) = (4 : Int32) → ((¬ (I 84 32) = (5 : Int32) → ((¬ (I 84 32) = (6 : Int32) → ((¬ (I 84 32) = (7 : Int32) → ((¬ (I 84 32) = (8 : Int32) → ((¬ (I 84 32) = (9 : Int32) → ((¬ (I 84 32) = (11 : Int32) → ((¬ (I 84 32) = (10 : Int32) → ((¬ (p_X12_isWord I1 (15 : Int32) (16 : Int32)) = 0 → ((¬ (I1 84 32) = (15 : Int32) → ZC G mX12_next fX12_next lX12_next [zo G 84] S I1 L1 0 0 (fun w S' I2 L2 => w = none ∧ S = S' ∧ ((¬ (p_X12_isWord I2 (0 : Int32) (3 : Int32)) = 0 → vp_in ((((100 : Int32) + (30 : Int32)) + ((4 : Int32) * (I 84 32))) + (I2 84 32)) 150 ∧ ZC G mX12_next fX12_next lX12_next [zo G 84] S (u2 I2 105 ((((100 : Int32) + (30 : Int32)) + ((4 : Int32) * (I 84 32))) + (I2 84 32)).toNatClampNeg (1 : Int32)) L2 0 0 (fun w S' I3 L3 => w = none ∧ S = S' ∧ Q (some (.int (0 : Int32))) S I3 L3)) ∧ ((p_X12_isWord I2 (0 : Int32) (3 : Int32)) = 0 → ZC G mX12_fails fX12_fails lX12_fails [zo G 84, .int (1 : Int32)] S I2 L2 0 0 (fun w S' I4 L4 => ∃ r4 : Int32, w = some (.int r4) ∧ S = S' ∧ Q (some (.int r4)) S I4 L4))))) ∧ ((I1 84 32) = (15 : Int32) → ZC G mX12_next fX12_next lX12_next [zo G 84] S I1 L1 0 0 (fun w S' I5 L5 => w = none ∧ S = S' ∧ ((¬ (p_X12_isWord I5 (0 : Int32) (3 : Int32)) = 0 → vp_in ((((100 : Int32) + (10 : Int32)) + ((4 : Int32) * (I 84 32))) + (I5 84 32)) 150 ∧ ZC G mX12_next fX12_next lX12_next [zo G 84] S (u2 I5 105 ((((100 : Int32) + (10 : Int32)) + ((4 : Int32) * (I 84 32))) + (I5 84 32)).toNatClampNeg (1 : Int32)) L5 0 0 (fun w S' I6 L6 => w = none ∧ S = S' ∧ Q (some (.int (0 : Int32))) S I6 L6)) ∧ ((p_X12_isWord I5 (0 : Int32) (3 : Int32)) = 0 → ZC G mX12_fails fX12_fails lX12_fails [zo G 84, .int (1 : Int32)] S I5 L5 0 0 (fun w S' I7 L7 => ∃ r7 : Int32, w = some (.int r7) ∧ S = S' ∧ Q (some (.int r7)) S I7 L7))))))) ∧ ((p_X12_isWord I1 (15 : Int32) (16 : Int32)) = 0 → ZC G mX12_fails fX12_fails lX12_fails [zo G 84, .int (1 : Int32)] S I1 L1 0 0 (fun w S' I8 L8 => ∃ r8 : Int32, w = some (.int r8) ∧ S = S' ∧ Q (some (.int r8)) S I8 L8)))) ∧ ((I 84 32) = (10 : Int32) → ZC G mX12_number fX12_number lX12_number [zo G 84, .int (0 : Int32), .int (99 : Int32), .int (106 : Int32)] S I1 L1 0 0 (fun w S' I9 L9 => ∃ r9 : Int32, w = some (.int r9) ∧ S = S' ∧ ((¬ r9 = (-1 : Int32) → ((¬ (p_X12_isWord I9 (17 : Int32) (17 : Int32)) = 0 → ZC G mX12_next fX12_next lX12_next [zo G 84] S I9 L9 0 0 (fun w S' I10 L10 => w = none ∧ S = S' ∧ ZC G mX12_number fX12_number lX12_number [zo G 84, .int (I10 105 (106 : Int32).toNatClampNeg), .int (99 : Int32), .int (107 : Int32)] S I10 L10 0 0 (fun w S' I11 L11 => ∃ r11 : Int32, w = some (.int r11) ∧ S = S' ∧ Q (some (.int r11)) S I11 L11))) ∧ ((p_X12_isWord I9 (17 : Int32) (17 : Int32)) = 0 → ZC G mX12_fails fX12_fails lX12_fails [zo G 84, .int (1 : Int32)] S I9 L9 0 0 (fun w S' I12 L12 => ∃ r12 : Int32, w = some (.int r12) ∧ S = S' ∧ Q (some (.int r12)) S I12 L12)))) ∧ (r9 = (-1 : Int32) → Q (some (.int (-1 : Int32))) S I9 L9)))))) ∧ ((I 84 32) = (11 : Int32) → ZC G mX12_number fX12_number lX12_number [zo G 84, .int (0 : Int32), .int (99 : Int32), .int (108 : Int32)] S I1 L1 0 0 (fun w S' I13 L13 => ∃ r13 : Int32, w = some (.int r13) ∧ S = S' ∧ Q (some (.int r13)) S I13 L13)))) ∧ ((I 84 32) = (9 : Int32) → ZC G mX12_number fX12_number lX12_number [zo G 84, .int (0 : Int32), .int (9 : Int32), .int (105 : Int32)] S I1 L1 0 0 (fun w S' I14 L14 => ∃ r14 : Int32, w = some (.int r14) ∧ S = S' ∧ Q (some (.int r14)) S I14 L14)))) ∧ ((I 84 32) = (8 : Int32) → ZC G mX12_number fX12_number lX12_number [zo G 84, .int (0 : Int32), .int (99 : Int32), .int (104 : Int32)] S I1 L1 0 0 (fun w S' I15 L15 => ∃ r15 : Int32, w = some (.int r15) ∧ S = S' ∧ Q (some (.int r15)) S I15 L15)))) ∧ ((I 84 32) = (7 : Int32) → ZC G mX12_number fX12_number lX12_number [zo G 84, .int (0 : Int32), .int (5 : Int32), .int (103 : Int32)] S I1 L1 0 0 (fun w S' I16 L16 => ∃ r16 : Int32, w = some (.int r16) ∧ S = S' ∧ Q (some (.int r16)) S I16 L16)))) ∧ ((I 84 32) = (6 : Int32) → ZC G mX12_number fX12_number lX12_number [zo G 84, .int (0 : Int32), .int (3 : Int32), .int (102 : Int32)] S I1 L1 0 0 (fun w S' I17 L17 => ∃ r17 : Int32, w = some (.int r17) ∧ S = S' ∧ Q (some (.int r17)) S I17 L17)))) ∧ ((I 84 32) = (5 : Int32) → Q (some (.int (0 : Int32))) S (u2 I1 105 (101 : Int32).toNatClampNeg (1 : Int32)) L1))) ∧ ((I 84 32) = (4 : Int32) → ((¬ (p_X12_isWord I1 (12 : Int32) (14 : Int32)) = 0 → ZC G mX12_next fX12_next lX12_next [zo G 84] S (u2 I1 105 (100 : Int32).toNatClampNeg (((I1 84 32) - (12 : Int32)) + (1 : Int32))) L1 0 0 (fun w S' I18 L18 => w = none ∧ S = S' ∧ Q (some (.int (0 : Int32))) S I18 L18)) ∧ ((p_X12_isWord I1 (12 : Int32) (14 : Int32)) = 0 → ZC G mX12_fails fX12_fails lX12_fails [zo G 84, .int (1 : Int32)] S I1 L1 0 0 (fun w S' I19 L19 => ∃ r19 : Int32, w = some (.int r19) ∧ S = S' ∧ Q (some (.int r19)) S I19 L19))))))) : ZW G mX12_lineComes fX12_lineComes lX12_lineComes 0 [zo G 84, .null, .null] [] S I L bc bs Q := by
  refine zr_aload_n dX12_lineComes_0 rfl rfl ?_
  refine zr_getIv (x := (I 84 32)) dX12_lineComes_1 zf_X12_244 rfl (hS.has (a := 84) rfl rfl) rfl ?_
  refine zr_istore_n dX12_lineComes_4 rfl (Nat.le_of_ble_eq_true rfl) rfl ?_
  refine zr_aload_n dX12_lineComes_5 rfl rfl ?_
  refine zr_callV (As := []) (fr' := fX12_next) (lo' := lX12_next) (bc' := 0) (bs' := 0) (bcr := bc) (bsr := bs) dX12_lineComes_6 zs_X12_259 zi_X12_next zcl_12 (hS.has (a := 84) rfl rfl) rfl rfl (Nat.le_of_ble_eq_true rfl) (Nat.le_of_ble_eq_true rfl) (Nat.le_of_ble_eq_true rfl) (Nat.le_refl _) (Nat.le_refl _) ?_
  refine ZC.mono (fun w S' I1 L1 k => ?_) k
  obtain ⟨rfl, rfl, k⟩ := k
  show ZW G mX12_lineComes fX12_lineComes lX12_lineComes 9 [zo G 84, .int (I 84 32), .null] [] S I1 L1 bc bs Q
  refine zr_iload_n dX12_lineComes_9 rfl rfl ?_
  refine zr_iconst (v := 4) dX12_lineComes_10 (by decide) ?_
  refine zr_icne (tgt := 53) dX12_lineComes_11 (by decide) (fun hb => ?_) (fun hb => ?_)
  · have k := k.1 hb
    refine zr_iload_n dX12_lineComes_53 rfl rfl ?_
    refine zr_iconst (v := 5) dX12_lineComes_54 (by decide) ?_
    refine zr_icne (tgt := 68) dX12_lineComes_55 (by decide) (fun hb => ?_) (fun hb => ?_)
    · have k := k.1 hb
      refine zr_iload_n dX12_lineComes_68 rfl rfl ?_
      refine zr_bipush (v := 6) dX12_lineComes_69 (by decide) ?_
      refine zr_icne (tgt := 83) dX12_lineComes_71 (by decide) (fun hb => ?_) (fun hb => ?_)
      · have k := k.1 hb
        refine zr_iload_n dX12_lineComes_83 rfl rfl ?_
        refine zr_bipush (v := 7) dX12_lineComes_84 (by decide) ?_
        refine zr_icne (tgt := 98) dX12_lineComes_86 (by decide) (fun hb => ?_) (fun hb => ?_)
        · have k := k.1 hb
          refine zr_iload_n dX12_lineComes_98 rfl rfl ?_
          refine zr_bipush (v := 8) dX12_lineComes_99 (by decide) ?_
          refine zr_icne (tgt := 114) dX12_lineComes_101 (by decide) (fun hb => ?_) (fun hb => ?_)
          · have k := k.1 hb
            refine zr_iload_n dX12_lineComes_114 rfl rfl ?_
            refine zr_bipush (v := 9) dX12_lineComes_115 (by decide) ?_
            refine zr_icne (tgt := 130) dX12_lineComes_117 (by decide) (fun hb => ?_) (fun hb => ?_)
            · have k := k.1 hb
              refine zr_iload_n dX12_lineComes_130 rfl rfl ?_
              refine zr_bipush (v := 11) dX12_lineComes_131 (by decide) ?_
              refine zr_icne (tgt := 146) dX12_lineComes_133 (by decide) (fun hb => ?_) (fun hb => ?_)
              · have k := k.1 hb
                refine zr_iload_n dX12_lineComes_146 rfl rfl ?_
                refine zr_bipush (v := 10) dX12_lineComes_147 (by decide) ?_
                refine zr_icne (tgt := 204) dX12_lineComes_149 (by decide) (fun hb => ?_) (fun hb => ?_)
                · have k := k.1 hb
                  refine zr_aload_n dX12_lineComes_204 rfl rfl ?_
                  refine zr_bipush (v := 15) dX12_lineComes_205 (by decide) ?_
                  refine zr_bipush (v := 16) dX12_lineComes_207 (by decide) ?_
                  refine zr_callV (As := [.int (15 : Int32), .int (16 : Int32)]) (fr' := fX12_isWord) (lo' := lX12_isWord) (bc' := 0) (bs' := 0) (bcr := bc) (bsr := bs) dX12_lineComes_209 zs_X12_262 zi_X12_isWord zcl_12 (hS.has (a := 84) rfl rfl) rfl rfl (Nat.le_of_ble_eq_true rfl) (Nat.le_of_ble_eq_true rfl) (Nat.le_of_ble_eq_true rfl) (Nat.le_refl _) (Nat.le_refl _) ?_
                  refine sp_X12_isWord hS  ?_
                  show ZW G mX12_lineComes fX12_lineComes lX12_lineComes 212 [zo G 84, .int (I 84 32), .null] [.int (p_X12_isWord I1 (15 : Int32) (16 : Int32))] S I1 L1 bc bs Q
                  refine zr_ifne (tgt := 221) dX12_lineComes_212 (by decide) (fun hb => ?_) (fun hb => ?_)
                  · have k := k.1 hb
                    refine zr_bipush (v := 100) dX12_lineComes_221 (by decide) ?_
                    refine zr_aload_n dX12_lineComes_223 rfl rfl ?_
                    refine zr_getIv (x := (I1 84 32)) dX12_lineComes_224 zf_X12_244 rfl (hS.has (a := 84) rfl rfl) rfl ?_
                    refine zr_bipush (v := 15) dX12_lineComes_227 (by decide) ?_
                    refine zr_icne (tgt := 237) dX12_lineComes_229 (by decide) (fun hb => ?_) (fun hb => ?_)
                    · have k := k.1 hb
                      refine zr_bipush (v := 30) dX12_lineComes_237 (by decide) ?_
                      refine zr_iadd dX12_lineComes_239 ?_
                      refine zr_iconst (v := 4) dX12_lineComes_240 (by decide) ?_
                      refine zr_iload_n dX12_lineComes_241 rfl rfl ?_
                      refine zr_imul dX12_lineComes_242 ?_
                      refine zr_iadd dX12_lineComes_243 ?_
                      refine zr_istore_n dX12_lineComes_244 rfl (Nat.le_of_ble_eq_true rfl) rfl ?_
                      refine zr_aload_n dX12_lineComes_245 rfl rfl ?_
                      refine zr_callV (As := []) (fr' := fX12_next) (lo' := lX12_next) (bc' := 0) (bs' := 0) (bcr := bc) (bsr := bs) dX12_lineComes_246 zs_X12_259 zi_X12_next zcl_12 (hS.has (a := 84) rfl rfl) rfl rfl (Nat.le_of_ble_eq_true rfl) (Nat.le_of_ble_eq_true rfl) (Nat.le_of_ble_eq_true rfl) (Nat.le_refl _) (Nat.le_refl _) ?_
                      refine ZC.mono (fun w S' I2 L2 k => ?_) k
                      obtain ⟨rfl, rfl, k⟩ := k
                      show ZW G mX12_lineComes fX12_lineComes lX12_lineComes 249 [zo G 84, .int (I 84 32), .int (((100 : Int32) + (30 : Int32)) + ((4 : Int32) * (I 84 32)))] [] S I2 L2 bc bs Q
                      refine zr_aload_n dX12_lineComes_249 rfl rfl ?_
                      refine zr_iconst (v := 0) dX12_lineComes_250 (by decide) ?_
                      refine zr_iconst (v := 3) dX12_lineComes_251 (by decide) ?_
                      refine zr_callV (As := [.int (0 : Int32), .int (3 : Int32)]) (fr' := fX12_isWord) (lo' := lX12_isWord) (bc' := 0) (bs' := 0) (bcr := bc) (bsr := bs) dX12_lineComes_252 zs_X12_262 zi_X12_isWord zcl_12 (hS.has (a := 84) rfl rfl) rfl rfl (Nat.le_of_ble_eq_true rfl) (Nat.le_of_ble_eq_true rfl) (Nat.le_of_ble_eq_true rfl) (Nat.le_refl _) (Nat.le_refl _) ?_
                      refine sp_X12_isWord hS  ?_
                      show ZW G mX12_lineComes fX12_lineComes lX12_lineComes 255 [zo G 84, .int (I 84 32), .int (((100 : Int32) + (30 : Int32)) + ((4 : Int32) * (I 84 32)))] [.int (p_X12_isWord I2 (0 : Int32) (3 : Int32))] S I2 L2 bc bs Q
                      refine zr_ifne (tgt := 264) dX12_lineComes_255 (by decide) (fun hb => ?_) (fun hb => ?_)
                      · have k := k.1 hb
                        refine zr_aload_n dX12_lineComes_264 rfl rfl ?_
                        refine zr_getR dX12_lineComes_265 zf_X12_75 rfl (hS.has (a := 84) rfl rfl) (hS.ref (a := 105) rfl) ?_
                        refine zr_iload_n dX12_lineComes_268 rfl rfl ?_
                        refine zr_aload_n dX12_lineComes_269 rfl rfl ?_
                        refine zr_getIv (x := (I2 84 32)) dX12_lineComes_270 zf_X12_244 rfl (hS.has (a := 84) rfl rfl) rfl ?_
                        refine zr_iadd dX12_lineComes_273 ?_
                        refine zr_iconst (v := 1) dX12_lineComes_274 (by decide) ?_
                        obtain ⟨hi1, k⟩ := k
                        refine zr_iast dX12_lineComes_275 (hS.has (a := 105) rfl rfl) hi1 ?_
                        refine zr_aload_n dX12_lineComes_276 rfl rfl ?_
                        refine zr_callV (As := []) (fr' := fX12_next) (lo' := lX12_next) (bc' := 0) (bs' := 0) (bcr := bc) (bsr := bs) dX12_lineComes_277 zs_X12_259 zi_X12_next zcl_12 (hS.has (a := 84) rfl rfl) rfl rfl (Nat.le_of_ble_eq_true rfl) (Nat.le_of_ble_eq_true rfl) (Nat.le_of_ble_eq_true rfl) (Nat.le_refl _) (Nat.le_refl _) ?_
                        refine ZC.mono (fun w S' I3 L3 k => ?_) k
                        obtain ⟨rfl, rfl, k⟩ := k
                        show ZW G mX12_lineComes fX12_lineComes lX12_lineComes 280 [zo G 84, .int (I 84 32), .int (((100 : Int32) + (30 : Int32)) + ((4 : Int32) * (I 84 32)))] [] S I3 L3 bc bs Q
                        refine zr_iconst (v := 0) dX12_lineComes_280 (by decide) ?_
                        exact zr_ireturn dX12_lineComes_281 rfl rfl k
                      · have k := k.2 hb
                        refine zr_aload_n dX12_lineComes_258 rfl rfl ?_
                        refine zr_iconst (v := 1) dX12_lineComes_259 (by decide) ?_
                        refine zr_callV (As := [.int (1 : Int32)]) (fr' := fX12_fails) (lo' := lX12_fails) (bc' := 0) (bs' := 0) (bcr := bc) (bsr := bs) dX12_lineComes_260 zs_X12_256 zi_X12_fails zcl_12 (hS.has (a := 84) rfl rfl) rfl rfl (Nat.le_of_ble_eq_true rfl) (Nat.le_of_ble_eq_true rfl) (Nat.le_of_ble_eq_true rfl) (Nat.le_refl _) (Nat.le_refl _) ?_
                        refine ZC.mono (fun w S' I4 L4 k => ?_) k
                        obtain ⟨r4, rfl, rfl, k⟩ := k
                        show ZW G mX12_lineComes fX12_lineComes lX12_lineComes 263 [zo G 84, .int (I 84 32), .int (((100 : Int32) + (30 : Int32)) + ((4 : Int32) * (I 84 32)))] [.int r4] S I4 L4 bc bs Q
                        exact zr_ireturn dX12_lineComes_263 rfl rfl k
                    · have k := k.2 hb
                      refine zr_bipush (v := 10) dX12_lineComes_232 (by decide) ?_
                      refine zr_goto (tgt := 239) dX12_lineComes_234 (by decide) ?_
                      refine zr_iadd dX12_lineComes_239 ?_
                      refine zr_iconst (v := 4) dX12_lineComes_240 (by decide) ?_
                      refine zr_iload_n dX12_lineComes_241 rfl rfl ?_
                      refine zr_imul dX12_lineComes_242 ?_
                      refine zr_iadd dX12_lineComes_243 ?_
                      refine zr_istore_n dX12_lineComes_244 rfl (Nat.le_of_ble_eq_true rfl) rfl ?_
                      refine zr_aload_n dX12_lineComes_245 rfl rfl ?_
                      refine zr_callV (As := []) (fr' := fX12_next) (lo' := lX12_next) (bc' := 0) (bs' := 0) (bcr := bc) (bsr := bs) dX12_lineComes_246 zs_X12_259 zi_X12_next zcl_12 (hS.has (a := 84) rfl rfl) rfl rfl (Nat.le_of_ble_eq_true rfl) (Nat.le_of_ble_eq_true rfl) (Nat.le_of_ble_eq_true rfl) (Nat.le_refl _) (Nat.le_refl _) ?_
                      refine ZC.mono (fun w S' I5 L5 k => ?_) k
                      obtain ⟨rfl, rfl, k⟩ := k
                      show ZW G mX12_lineComes fX12_lineComes lX12_lineComes 249 [zo G 84, .int (I 84 32), .int (((100 : Int32) + (10 : Int32)) + ((4 : Int32) * (I 84 32)))] [] S I5 L5 bc bs Q
                      refine zr_aload_n dX12_lineComes_249 rfl rfl ?_
                      refine zr_iconst (v := 0) dX12_lineComes_250 (by decide) ?_
                      refine zr_iconst (v := 3) dX12_lineComes_251 (by decide) ?_
                      refine zr_callV (As := [.int (0 : Int32), .int (3 : Int32)]) (fr' := fX12_isWord) (lo' := lX12_isWord) (bc' := 0) (bs' := 0) (bcr := bc) (bsr := bs) dX12_lineComes_252 zs_X12_262 zi_X12_isWord zcl_12 (hS.has (a := 84) rfl rfl) rfl rfl (Nat.le_of_ble_eq_true rfl) (Nat.le_of_ble_eq_true rfl) (Nat.le_of_ble_eq_true rfl) (Nat.le_refl _) (Nat.le_refl _) ?_
                      refine sp_X12_isWord hS  ?_
                      show ZW G mX12_lineComes fX12_lineComes lX12_lineComes 255 [zo G 84, .int (I 84 32), .int (((100 : Int32) + (10 : Int32)) + ((4 : Int32) * (I 84 32)))] [.int (p_X12_isWord I5 (0 : Int32) (3 : Int32))] S I5 L5 bc bs Q
                      refine zr_ifne (tgt := 264) dX12_lineComes_255 (by decide) (fun hb => ?_) (fun hb => ?_)
                      · have k := k.1 hb
                        refine zr_aload_n dX12_lineComes_264 rfl rfl ?_
                        refine zr_getR dX12_lineComes_265 zf_X12_75 rfl (hS.has (a := 84) rfl rfl) (hS.ref (a := 105) rfl) ?_
                        refine zr_iload_n dX12_lineComes_268 rfl rfl ?_
                        refine zr_aload_n dX12_lineComes_269 rfl rfl ?_
                        refine zr_getIv (x := (I5 84 32)) dX12_lineComes_270 zf_X12_244 rfl (hS.has (a := 84) rfl rfl) rfl ?_
                        refine zr_iadd dX12_lineComes_273 ?_
                        refine zr_iconst (v := 1) dX12_lineComes_274 (by decide) ?_
                        obtain ⟨hi2, k⟩ := k
                        refine zr_iast dX12_lineComes_275 (hS.has (a := 105) rfl rfl) hi2 ?_
                        refine zr_aload_n dX12_lineComes_276 rfl rfl ?_
                        refine zr_callV (As := []) (fr' := fX12_next) (lo' := lX12_next) (bc' := 0) (bs' := 0) (bcr := bc) (bsr := bs) dX12_lineComes_277 zs_X12_259 zi_X12_next zcl_12 (hS.has (a := 84) rfl rfl) rfl rfl (Nat.le_of_ble_eq_true rfl) (Nat.le_of_ble_eq_true rfl) (Nat.le_of_ble_eq_true rfl) (Nat.le_refl _) (Nat.le_refl _) ?_
                        refine ZC.mono (fun w S' I6 L6 k => ?_) k
                        obtain ⟨rfl, rfl, k⟩ := k
                        show ZW G mX12_lineComes fX12_lineComes lX12_lineComes 280 [zo G 84, .int (I 84 32), .int (((100 : Int32) + (10 : Int32)) + ((4 : Int32) * (I 84 32)))] [] S I6 L6 bc bs Q
                        refine zr_iconst (v := 0) dX12_lineComes_280 (by decide) ?_
                        exact zr_ireturn dX12_lineComes_281 rfl rfl k
                      · have k := k.2 hb
                        refine zr_aload_n dX12_lineComes_258 rfl rfl ?_
                        refine zr_iconst (v := 1) dX12_lineComes_259 (by decide) ?_
                        refine zr_callV (As := [.int (1 : Int32)]) (fr' := fX12_fails) (lo' := lX12_fails) (bc' := 0) (bs' := 0) (bcr := bc) (bsr := bs) dX12_lineComes_260 zs_X12_256 zi_X12_fails zcl_12 (hS.has (a := 84) rfl rfl) rfl rfl (Nat.le_of_ble_eq_true rfl) (Nat.le_of_ble_eq_true rfl) (Nat.le_of_ble_eq_true rfl) (Nat.le_refl _) (Nat.le_refl _) ?_
                        refine ZC.mono (fun w S' I7 L7 k => ?_) k
                        obtain ⟨r7, rfl, rfl, k⟩ := k
                        show ZW G mX12_lineComes fX12_lineComes lX12_lineComes 263 [zo G 84, .int (I 84 32), .int (((100 : Int32) + (10 : Int32)) + ((4 : Int32) * (I 84 32)))] [.int r7] S I7 L7 bc bs Q
                        exact zr_ireturn dX12_lineComes_263 rfl rfl k
                  · have k := k.2 hb
                    refine zr_aload_n dX12_lineComes_215 rfl rfl ?_
                    refine zr_iconst (v := 1) dX12_lineComes_216 (by decide) ?_
                    refine zr_callV (As := [.int (1 : Int32)]) (fr' := fX12_fails) (lo' := lX12_fails) (bc' := 0) (bs' := 0) (bcr := bc) (bsr := bs) dX12_lineComes_217 zs_X12_256 zi_X12_fails zcl_12 (hS.has (a := 84) rfl rfl) rfl rfl (Nat.le_of_ble_eq_true rfl) (Nat.le_of_ble_eq_true rfl) (Nat.le_of_ble_eq_true rfl) (Nat.le_refl _) (Nat.le_refl _) ?_
                    refine ZC.mono (fun w S' I8 L8 k => ?_) k
                    obtain ⟨r8, rfl, rfl, k⟩ := k
                    show ZW G mX12_lineComes fX12_lineComes lX12_lineComes 220 [zo G 84, .int (I 84 32), .null] [.int r8] S I8 L8 bc bs Q
                    exact zr_ireturn dX12_lineComes_220 rfl rfl k
                · have k := k.2 hb
                  refine zr_aload_n dX12_lineComes_152 rfl rfl ?_
                  refine zr_iconst (v := 0) dX12_lineComes_153 (by decide) ?_
                  refine zr_bipush (v := 99) dX12_lineComes_154 (by decide) ?_
                  refine zr_bipush (v := 106) dX12_lineComes_156 (by decide) ?_
                  refine zr_callV (As := [.int (0 : Int32), .int (99 : Int32), .int (106 : Int32)]) (fr' := fX12_number) (lo' := lX12_number) (bc' := 0) (bs' := 0) (bcr := bc) (bsr := bs) dX12_lineComes_158 zs_X12_266 zi_X12_number zcl_12 (hS.has (a := 84) rfl rfl) rfl rfl (Nat.le_of_ble_eq_true rfl) (Nat.le_of_ble_eq_true rfl) (Nat.le_of_ble_eq_true rfl) (Nat.le_refl _) (Nat.le_refl _) ?_
                  refine ZC.mono (fun w S' I9 L9 k => ?_) k
                  obtain ⟨r9, rfl, rfl, k⟩ := k
                  show ZW G mX12_lineComes fX12_lineComes lX12_lineComes 161 [zo G 84, .int (I 84 32), .null] [.int r9] S I9 L9 bc bs Q
                  refine zr_iconst (v := -1) dX12_lineComes_161 (by decide) ?_
                  refine zr_icne (tgt := 167) dX12_lineComes_162 (by decide) (fun hb => ?_) (fun hb => ?_)
                  · have k := k.1 hb
                    refine zr_aload_n dX12_lineComes_167 rfl rfl ?_
                    refine zr_bipush (v := 17) dX12_lineComes_168 (by decide) ?_
                    refine zr_bipush (v := 17) dX12_lineComes_170 (by decide) ?_
                    refine zr_callV (As := [.int (17 : Int32), .int (17 : Int32)]) (fr' := fX12_isWord) (lo' := lX12_isWord) (bc' := 0) (bs' := 0) (bcr := bc) (bsr := bs) dX12_lineComes_172 zs_X12_262 zi_X12_isWord zcl_12 (hS.has (a := 84) rfl rfl) rfl rfl (Nat.le_of_ble_eq_true rfl) (Nat.le_of_ble_eq_true rfl) (Nat.le_of_ble_eq_true rfl) (Nat.le_refl _) (Nat.le_refl _) ?_
                    refine sp_X12_isWord hS  ?_
                    show ZW G mX12_lineComes fX12_lineComes lX12_lineComes 175 [zo G 84, .int (I 84 32), .null] [.int (p_X12_isWord I9 (17 : Int32) (17 : Int32))] S I9 L9 bc bs Q
                    refine zr_ifne (tgt := 184) dX12_lineComes_175 (by decide) (fun hb => ?_) (fun hb => ?_)
                    · have k := k.1 hb
                      refine zr_aload_n dX12_lineComes_184 rfl rfl ?_
                      refine zr_callV (As := []) (fr' := fX12_next) (lo' := lX12_next) (bc' := 0) (bs' := 0) (bcr := bc) (bsr := bs) dX12_lineComes_185 zs_X12_259 zi_X12_next zcl_12 (hS.has (a := 84) rfl rfl) rfl rfl (Nat.le_of_ble_eq_true rfl) (Nat.le_of_ble_eq_true rfl) (Nat.le_of_ble_eq_true rfl) (Nat.le_refl _) (Nat.le_refl _) ?_
                      refine ZC.mono (fun w S' I10 L10 k => ?_) k
                      obtain ⟨rfl, rfl, k⟩ := k
                      show ZW G mX12_lineComes fX12_lineComes lX12_lineComes 188 [zo G 84, .int (I 84 32), .null] [] S I10 L10 bc bs Q
                      refine zr_aload_n dX12_lineComes_188 rfl rfl ?_
                      refine zr_aload_n dX12_lineComes_189 rfl rfl ?_
                      refine zr_getR dX12_lineComes_190 zf_X12_75 rfl (hS.has (a := 84) rfl rfl) (hS.ref (a := 105) rfl) ?_
                      refine zr_bipush (v := 106) dX12_lineComes_193 (by decide) ?_
                      refine zr_ialdv (x := (I10 105 (106 : Int32).toNatClampNeg)) dX12_lineComes_195 (hS.has (a := 105) rfl rfl) (zvl (by decide)) rfl ?_
                      refine zr_bipush (v := 99) dX12_lineComes_196 (by decide) ?_
                      refine zr_bipush (v := 107) dX12_lineComes_198 (by decide) ?_
                      refine zr_callV (As := [.int (I10 105 (106 : Int32).toNatClampNeg), .int (99 : Int32), .int (107 : Int32)]) (fr' := fX12_number) (lo' := lX12_number) (bc' := 0) (bs' := 0) (bcr := bc) (bsr := bs) dX12_lineComes_200 zs_X12_266 zi_X12_number zcl_12 (hS.has (a := 84) rfl rfl) rfl rfl (Nat.le_of_ble_eq_true rfl) (Nat.le_of_ble_eq_true rfl) (Nat.le_of_ble_eq_true rfl) (Nat.le_refl _) (Nat.le_refl _) ?_
                      refine ZC.mono (fun w S' I11 L11 k => ?_) k
                      obtain ⟨r11, rfl, rfl, k⟩ := k
                      show ZW G mX12_lineComes fX12_lineComes lX12_lineComes 203 [zo G 84, .int (I 84 32), .null] [.int r11] S I11 L11 bc bs Q
                      exact zr_ireturn dX12_lineComes_203 rfl rfl k
                    · have k := k.2 hb
                      refine zr_aload_n dX12_lineComes_178 rfl rfl ?_
                      refine zr_iconst (v := 1) dX12_lineComes_179 (by decide) ?_
                      refine zr_callV (As := [.int (1 : Int32)]) (fr' := fX12_fails) (lo' := lX12_fails) (bc' := 0) (bs' := 0) (bcr := bc) (bsr := bs) dX12_lineComes_180 zs_X12_256 zi_X12_fails zcl_12 (hS.has (a := 84) rfl rfl) rfl rfl (Nat.le_of_ble_eq_true rfl) (Nat.le_of_ble_eq_true rfl) (Nat.le_of_ble_eq_true rfl) (Nat.le_refl _) (Nat.le_refl _) ?_
                      refine ZC.mono (fun w S' I12 L12 k => ?_) k
                      obtain ⟨r12, rfl, rfl, k⟩ := k
                      show ZW G mX12_lineComes fX12_lineComes lX12_lineComes 183 [zo G 84, .int (I 84 32), .null] [.int r12] S I12 L12 bc bs Q
                      exact zr_ireturn dX12_lineComes_183 rfl rfl k
                  · have k := k.2 hb
                    refine zr_iconst (v := -1) dX12_lineComes_165 (by decide) ?_
                    exact zr_ireturn dX12_lineComes_166 rfl rfl k
              · have k := k.2 hb
                refine zr_aload_n dX12_lineComes_136 rfl rfl ?_
                refine zr_iconst (v := 0) dX12_lineComes_137 (by decide) ?_
                refine zr_bipush (v := 99) dX12_lineComes_138 (by decide) ?_
                refine zr_bipush (v := 108) dX12_lineComes_140 (by decide) ?_
                refine zr_callV (As := [.int (0 : Int32), .int (99 : Int32), .int (108 : Int32)]) (fr' := fX12_number) (lo' := lX12_number) (bc' := 0) (bs' := 0) (bcr := bc) (bsr := bs) dX12_lineComes_142 zs_X12_266 zi_X12_number zcl_12 (hS.has (a := 84) rfl rfl) rfl rfl (Nat.le_of_ble_eq_true rfl) (Nat.le_of_ble_eq_true rfl) (Nat.le_of_ble_eq_true rfl) (Nat.le_refl _) (Nat.le_refl _) ?_
                refine ZC.mono (fun w S' I13 L13 k => ?_) k
                obtain ⟨r13, rfl, rfl, k⟩ := k
                show ZW G mX12_lineComes fX12_lineComes lX12_lineComes 145 [zo G 84, .int (I 84 32), .null] [.int r13] S I13 L13 bc bs Q
                exact zr_ireturn dX12_lineComes_145 rfl rfl k
            · have k := k.2 hb
              refine zr_aload_n dX12_lineComes_120 rfl rfl ?_
              refine zr_iconst (v := 0) dX12_lineComes_121 (by decide) ?_
              refine zr_bipush (v := 9) dX12_lineComes_122 (by decide) ?_
              refine zr_bipush (v := 105) dX12_lineComes_124 (by decide) ?_
              refine zr_callV (As := [.int (0 : Int32), .int (9 : Int32), .int (105 : Int32)]) (fr' := fX12_number) (lo' := lX12_number) (bc' := 0) (bs' := 0) (bcr := bc) (bsr := bs) dX12_lineComes_126 zs_X12_266 zi_X12_number zcl_12 (hS.has (a := 84) rfl rfl) rfl rfl (Nat.le_of_ble_eq_true rfl) (Nat.le_of_ble_eq_true rfl) (Nat.le_of_ble_eq_true rfl) (Nat.le_refl _) (Nat.le_refl _) ?_
              refine ZC.mono (fun w S' I14 L14 k => ?_) k
              obtain ⟨r14, rfl, rfl, k⟩ := k
              show ZW G mX12_lineComes fX12_lineComes lX12_lineComes 129 [zo G 84, .int (I 84 32), .null] [.int r14] S I14 L14 bc bs Q
              exact zr_ireturn dX12_lineComes_129 rfl rfl k
          · have k := k.2 hb
            refine zr_aload_n dX12_lineComes_104 rfl rfl ?_
            refine zr_iconst (v := 0) dX12_lineComes_105 (by decide) ?_
            refine zr_bipush (v := 99) dX12_lineComes_106 (by decide) ?_
            refine zr_bipush (v := 104) dX12_lineComes_108 (by decide) ?_
            refine zr_callV (As := [.int (0 : Int32), .int (99 : Int32), .int (104 : Int32)]) (fr' := fX12_number) (lo' := lX12_number) (bc' := 0) (bs' := 0) (bcr := bc) (bsr := bs) dX12_lineComes_110 zs_X12_266 zi_X12_number zcl_12 (hS.has (a := 84) rfl rfl) rfl rfl (Nat.le_of_ble_eq_true rfl) (Nat.le_of_ble_eq_true rfl) (Nat.le_of_ble_eq_true rfl) (Nat.le_refl _) (Nat.le_refl _) ?_
            refine ZC.mono (fun w S' I15 L15 k => ?_) k
            obtain ⟨r15, rfl, rfl, k⟩ := k
            show ZW G mX12_lineComes fX12_lineComes lX12_lineComes 113 [zo G 84, .int (I 84 32), .null] [.int r15] S I15 L15 bc bs Q
            exact zr_ireturn dX12_lineComes_113 rfl rfl k
        · have k := k.2 hb
          refine zr_aload_n dX12_lineComes_89 rfl rfl ?_
          refine zr_iconst (v := 0) dX12_lineComes_90 (by decide) ?_
          refine zr_iconst (v := 5) dX12_lineComes_91 (by decide) ?_
          refine zr_bipush (v := 103) dX12_lineComes_92 (by decide) ?_
          refine zr_callV (As := [.int (0 : Int32), .int (5 : Int32), .int (103 : Int32)]) (fr' := fX12_number) (lo' := lX12_number) (bc' := 0) (bs' := 0) (bcr := bc) (bsr := bs) dX12_lineComes_94 zs_X12_266 zi_X12_number zcl_12 (hS.has (a := 84) rfl rfl) rfl rfl (Nat.le_of_ble_eq_true rfl) (Nat.le_of_ble_eq_true rfl) (Nat.le_of_ble_eq_true rfl) (Nat.le_refl _) (Nat.le_refl _) ?_
          refine ZC.mono (fun w S' I16 L16 k => ?_) k
          obtain ⟨r16, rfl, rfl, k⟩ := k
          show ZW G mX12_lineComes fX12_lineComes lX12_lineComes 97 [zo G 84, .int (I 84 32), .null] [.int r16] S I16 L16 bc bs Q
          exact zr_ireturn dX12_lineComes_97 rfl rfl k
      · have k := k.2 hb
        refine zr_aload_n dX12_lineComes_74 rfl rfl ?_
        refine zr_iconst (v := 0) dX12_lineComes_75 (by decide) ?_
        refine zr_iconst (v := 3) dX12_lineComes_76 (by decide) ?_
        refine zr_bipush (v := 102) dX12_lineComes_77 (by decide) ?_
        refine zr_callV (As := [.int (0 : Int32), .int (3 : Int32), .int (102 : Int32)]) (fr' := fX12_number) (lo' := lX12_number) (bc' := 0) (bs' := 0) (bcr := bc) (bsr := bs) dX12_lineComes_79 zs_X12_266 zi_X12_number zcl_12 (hS.has (a := 84) rfl rfl) rfl rfl (Nat.le_of_ble_eq_true rfl) (Nat.le_of_ble_eq_true rfl) (Nat.le_of_ble_eq_true rfl) (Nat.le_refl _) (Nat.le_refl _) ?_
        refine ZC.mono (fun w S' I17 L17 k => ?_) k
        obtain ⟨r17, rfl, rfl, k⟩ := k
        show ZW G mX12_lineComes fX12_lineComes lX12_lineComes 82 [zo G 84, .int (I 84 32), .null] [.int r17] S I17 L17 bc bs Q
        exact zr_ireturn dX12_lineComes_82 rfl rfl k
    · have k := k.2 hb
      refine zr_aload_n dX12_lineComes_58 rfl rfl ?_
      refine zr_getR dX12_lineComes_59 zf_X12_75 rfl (hS.has (a := 84) rfl rfl) (hS.ref (a := 105) rfl) ?_
      refine zr_bipush (v := 101) dX12_lineComes_62 (by decide) ?_
      refine zr_iconst (v := 1) dX12_lineComes_64 (by decide) ?_
      refine zr_iast dX12_lineComes_65 (hS.has (a := 105) rfl rfl) (zvl (by decide)) ?_
      refine zr_iconst (v := 0) dX12_lineComes_66 (by decide) ?_
      exact zr_ireturn dX12_lineComes_67 rfl rfl k
  · have k := k.2 hb
    refine zr_aload_n dX12_lineComes_14 rfl rfl ?_
    refine zr_bipush (v := 12) dX12_lineComes_15 (by decide) ?_
    refine zr_bipush (v := 14) dX12_lineComes_17 (by decide) ?_
    refine zr_callV (As := [.int (12 : Int32), .int (14 : Int32)]) (fr' := fX12_isWord) (lo' := lX12_isWord) (bc' := 0) (bs' := 0) (bcr := bc) (bsr := bs) dX12_lineComes_19 zs_X12_262 zi_X12_isWord zcl_12 (hS.has (a := 84) rfl rfl) rfl rfl (Nat.le_of_ble_eq_true rfl) (Nat.le_of_ble_eq_true rfl) (Nat.le_of_ble_eq_true rfl) (Nat.le_refl _) (Nat.le_refl _) ?_
    refine sp_X12_isWord hS  ?_
    show ZW G mX12_lineComes fX12_lineComes lX12_lineComes 22 [zo G 84, .int (I 84 32), .null] [.int (p_X12_isWord I1 (12 : Int32) (14 : Int32))] S I1 L1 bc bs Q
    refine zr_ifne (tgt := 31) dX12_lineComes_22 (by decide) (fun hb => ?_) (fun hb => ?_)
    · have k := k.1 hb
      refine zr_aload_n dX12_lineComes_31 rfl rfl ?_
      refine zr_getR dX12_lineComes_32 zf_X12_75 rfl (hS.has (a := 84) rfl rfl) (hS.ref (a := 105) rfl) ?_
      refine zr_bipush (v := 100) dX12_lineComes_35 (by decide) ?_
      refine zr_aload_n dX12_lineComes_37 rfl rfl ?_
      refine zr_getIv (x := (I1 84 32)) dX12_lineComes_38 zf_X12_244 rfl (hS.has (a := 84) rfl rfl) rfl ?_
      refine zr_bipush (v := 12) dX12_lineComes_41 (by decide) ?_
      refine zr_isub dX12_lineComes_43 ?_
      refine zr_iconst (v := 1) dX12_lineComes_44 (by decide) ?_
      refine zr_iadd dX12_lineComes_45 ?_
      refine zr_iast dX12_lineComes_46 (hS.has (a := 105) rfl rfl) (zvl (by decide)) ?_
      refine zr_aload_n dX12_lineComes_47 rfl rfl ?_
      refine zr_callV (As := []) (fr' := fX12_next) (lo' := lX12_next) (bc' := 0) (bs' := 0) (bcr := bc) (bsr := bs) dX12_lineComes_48 zs_X12_259 zi_X12_next zcl_12 (hS.has (a := 84) rfl rfl) rfl rfl (Nat.le_of_ble_eq_true rfl) (Nat.le_of_ble_eq_true rfl) (Nat.le_of_ble_eq_true rfl) (Nat.le_refl _) (Nat.le_refl _) ?_
      refine ZC.mono (fun w S' I18 L18 k => ?_) k
      obtain ⟨rfl, rfl, k⟩ := k
      show ZW G mX12_lineComes fX12_lineComes lX12_lineComes 51 [zo G 84, .int (I 84 32), .null] [] S I18 L18 bc bs Q
      refine zr_iconst (v := 0) dX12_lineComes_51 (by decide) ?_
      exact zr_ireturn dX12_lineComes_52 rfl rfl k
    · have k := k.2 hb
      refine zr_aload_n dX12_lineComes_25 rfl rfl ?_
      refine zr_iconst (v := 1) dX12_lineComes_26 (by decide) ?_
      refine zr_callV (As := [.int (1 : Int32)]) (fr' := fX12_fails) (lo' := lX12_fails) (bc' := 0) (bs' := 0) (bcr := bc) (bsr := bs) dX12_lineComes_27 zs_X12_256 zi_X12_fails zcl_12 (hS.has (a := 84) rfl rfl) rfl rfl (Nat.le_of_ble_eq_true rfl) (Nat.le_of_ble_eq_true rfl) (Nat.le_of_ble_eq_true rfl) (Nat.le_refl _) (Nat.le_refl _) ?_
      refine ZC.mono (fun w S' I19 L19 k => ?_) k
      obtain ⟨r19, rfl, rfl, k⟩ := k
      show ZW G mX12_lineComes fX12_lineComes lX12_lineComes 30 [zo G 84, .int (I 84 32), .null] [.int r19] S I19 L19 bc bs Q
      exact zr_ireturn dX12_lineComes_30 rfl rfl k
set_option maxHeartbeats 2000000 in
theorem vX12_reads_0 {G : Gp} {bc bs : Nat} {Q : zPost} {S : zSh} {I : zFI} {L : zFL}  (hS : zStd S)  (k : ZW G mX12_reads fX12_reads lX12_reads 12 [zo G 84, .int (0 : Int32)] [] S (u2 (u2 I 84 29 (0 : Int32)) 84 33 (0 : Int32)) L bc bs Q) : ZW G mX12_reads fX12_reads lX12_reads 0 [zo G 84, .null] [] S I L bc bs Q := by
  refine zr_aload_n dX12_reads_0 rfl rfl ?_
  refine zr_iconst (v := 0) dX12_reads_1 (by decide) ?_
  refine zr_putI dX12_reads_2 zf_X12_225 rfl (hS.has (a := 84) rfl rfl) rfl rfl ?_
  refine zr_aload_n dX12_reads_5 rfl rfl ?_
  refine zr_iconst (v := 0) dX12_reads_6 (by decide) ?_
  refine zr_putI dX12_reads_7 zf_X12_270 rfl (hS.has (a := 84) rfl rfl) rfl rfl ?_
  refine zr_iconst (v := 0) dX12_reads_10 (by decide) ?_
  refine zr_istore_n dX12_reads_11 rfl (Nat.le_of_ble_eq_true rfl) rfl ?_
  exact k
set_option maxHeartbeats 2000000 in
theorem vX12_reads_12 {G : Gp} {bc bs : Nat} {Q : zPost} {S : zSh} {I : zFI} {L : zFL} {v1 : Int32} (hS : zStd S)  (k : (((50 : Int32) ≤ v1 → ZC G mX12_next fX12_next lX12_next [zo G 84] S (u2 (u2 (u2 (u2 (u2 (u2 (u2 (u2 I 105 (100 : Int32).toNatClampNeg (3 : Int32)) 105 (102 : Int32).toNatClampNeg (1 : Int32)) 105 (103 : Int32).toNatClampNeg (2 : Int32)) 105 (104 : Int32).toNatClampNeg (60 : Int32)) 105 (105 : Int32).toNatClampNeg (1 : Int32)) 105 (106 : Int32).toNatClampNeg (10 : Int32)) 105 (107 : Int32).toNatClampNeg (30 : Int32)) 105 (108 : Int32).toNatClampNeg (2 : Int32)) L 0 0 (fun w S' I1 L1 => w = none ∧ S = S' ∧ ZW G mX12_reads fX12_reads lX12_reads 105 [zo G 84, .int v1] [] S I1 L1 bc bs Q)) ∧ (¬ (50 : Int32) ≤ v1 → vp_in ((100 : Int32) + v1) 150 ∧ ZW G mX12_reads fX12_reads lX12_reads 12 [zo G 84, .int (v1 + 1)] [] S (u2 I 105 ((100 : Int32) + v1).toNatClampNeg (0 : Int32)) L bc bs Q))) : ZW G mX12_reads fX12_reads lX12_reads 12 [zo G 84, .int v1] [] S I L bc bs Q := by
  refine zr_iload_n dX12_reads_12 rfl rfl ?_
  refine zr_bipush (v := 50) dX12_reads_13 (by decide) ?_
  refine zr_icge (tgt := 34) dX12_reads_15 (by decide) (fun hb => ?_) (fun hb => ?_)
  · have k := k.1 hb
    refine zr_aload_n dX12_reads_34 rfl rfl ?_
    refine zr_getR dX12_reads_35 zf_X12_75 rfl (hS.has (a := 84) rfl rfl) (hS.ref (a := 105) rfl) ?_
    refine zr_bipush (v := 100) dX12_reads_38 (by decide) ?_
    refine zr_iconst (v := 3) dX12_reads_40 (by decide) ?_
    refine zr_iast dX12_reads_41 (hS.has (a := 105) rfl rfl) (zvl (by decide)) ?_
    refine zr_aload_n dX12_reads_42 rfl rfl ?_
    refine zr_getR dX12_reads_43 zf_X12_75 rfl (hS.has (a := 84) rfl rfl) (hS.ref (a := 105) rfl) ?_
    refine zr_bipush (v := 102) dX12_reads_46 (by decide) ?_
    refine zr_iconst (v := 1) dX12_reads_48 (by decide) ?_
    refine zr_iast dX12_reads_49 (hS.has (a := 105) rfl rfl) (zvl (by decide)) ?_
    refine zr_aload_n dX12_reads_50 rfl rfl ?_
    refine zr_getR dX12_reads_51 zf_X12_75 rfl (hS.has (a := 84) rfl rfl) (hS.ref (a := 105) rfl) ?_
    refine zr_bipush (v := 103) dX12_reads_54 (by decide) ?_
    refine zr_iconst (v := 2) dX12_reads_56 (by decide) ?_
    refine zr_iast dX12_reads_57 (hS.has (a := 105) rfl rfl) (zvl (by decide)) ?_
    refine zr_aload_n dX12_reads_58 rfl rfl ?_
    refine zr_getR dX12_reads_59 zf_X12_75 rfl (hS.has (a := 84) rfl rfl) (hS.ref (a := 105) rfl) ?_
    refine zr_bipush (v := 104) dX12_reads_62 (by decide) ?_
    refine zr_bipush (v := 60) dX12_reads_64 (by decide) ?_
    refine zr_iast dX12_reads_66 (hS.has (a := 105) rfl rfl) (zvl (by decide)) ?_
    refine zr_aload_n dX12_reads_67 rfl rfl ?_
    refine zr_getR dX12_reads_68 zf_X12_75 rfl (hS.has (a := 84) rfl rfl) (hS.ref (a := 105) rfl) ?_
    refine zr_bipush (v := 105) dX12_reads_71 (by decide) ?_
    refine zr_iconst (v := 1) dX12_reads_73 (by decide) ?_
    refine zr_iast dX12_reads_74 (hS.has (a := 105) rfl rfl) (zvl (by decide)) ?_
    refine zr_aload_n dX12_reads_75 rfl rfl ?_
    refine zr_getR dX12_reads_76 zf_X12_75 rfl (hS.has (a := 84) rfl rfl) (hS.ref (a := 105) rfl) ?_
    refine zr_bipush (v := 106) dX12_reads_79 (by decide) ?_
    refine zr_bipush (v := 10) dX12_reads_81 (by decide) ?_
    refine zr_iast dX12_reads_83 (hS.has (a := 105) rfl rfl) (zvl (by decide)) ?_
    refine zr_aload_n dX12_reads_84 rfl rfl ?_
    refine zr_getR dX12_reads_85 zf_X12_75 rfl (hS.has (a := 84) rfl rfl) (hS.ref (a := 105) rfl) ?_
    refine zr_bipush (v := 107) dX12_reads_88 (by decide) ?_
    refine zr_bipush (v := 30) dX12_reads_90 (by decide) ?_
    refine zr_iast dX12_reads_92 (hS.has (a := 105) rfl rfl) (zvl (by decide)) ?_
    refine zr_aload_n dX12_reads_93 rfl rfl ?_
    refine zr_getR dX12_reads_94 zf_X12_75 rfl (hS.has (a := 84) rfl rfl) (hS.ref (a := 105) rfl) ?_
    refine zr_bipush (v := 108) dX12_reads_97 (by decide) ?_
    refine zr_iconst (v := 2) dX12_reads_99 (by decide) ?_
    refine zr_iast dX12_reads_100 (hS.has (a := 105) rfl rfl) (zvl (by decide)) ?_
    refine zr_aload_n dX12_reads_101 rfl rfl ?_
    refine zr_callV (As := []) (fr' := fX12_next) (lo' := lX12_next) (bc' := 0) (bs' := 0) (bcr := bc) (bsr := bs) dX12_reads_102 zs_X12_259 zi_X12_next zcl_12 (hS.has (a := 84) rfl rfl) rfl rfl (Nat.le_of_ble_eq_true rfl) (Nat.le_of_ble_eq_true rfl) (Nat.le_of_ble_eq_true rfl) (Nat.le_refl _) (Nat.le_refl _) ?_
    refine ZC.mono (fun w S' I1 L1 k => ?_) k
    obtain ⟨rfl, rfl, k⟩ := k
    show ZW G mX12_reads fX12_reads lX12_reads 105 [zo G 84, .int v1] [] S I1 L1 bc bs Q
    exact k
  · have k := k.2 hb
    refine zr_aload_n dX12_reads_18 rfl rfl ?_
    refine zr_getR dX12_reads_19 zf_X12_75 rfl (hS.has (a := 84) rfl rfl) (hS.ref (a := 105) rfl) ?_
    refine zr_bipush (v := 100) dX12_reads_22 (by decide) ?_
    refine zr_iload_n dX12_reads_24 rfl rfl ?_
    refine zr_iadd dX12_reads_25 ?_
    refine zr_iconst (v := 0) dX12_reads_26 (by decide) ?_
    obtain ⟨hi1, k⟩ := k
    refine zr_iast dX12_reads_27 (hS.has (a := 105) rfl rfl) hi1 ?_
    refine zr_iinc (v := (v1 + 1)) dX12_reads_28 rfl rfl (Nat.le_of_ble_eq_true rfl) rfl ?_
    refine zr_goto (tgt := 12) dX12_reads_31 (by decide) ?_
    exact k
set_option maxHeartbeats 2000000 in
theorem vX12_reads_105 {G : Gp} {bc bs : Nat} {Q : zPost} {S : zSh} {I : zFI} {L : zFL} {v1 : Int32} (hS : zStd S)  (k : (((p_X12_isWord I (0 : Int32) (11 : Int32)) = 0 → ((¬ (I 84 31) = 0 → ZC G mX12_fails fX12_fails lX12_fails [zo G 84, .int (1 : Int32)] S I L 0 0 (fun w S' I1 L1 => ∃ r1 : Int32, w = some (.int r1) ∧ S = S' ∧ Q (some (.int r1)) S I1 L1)) ∧ ((I 84 31) = 0 → Q (some (.int (I 84 33))) S I L))) ∧ (¬ (p_X12_isWord I (0 : Int32) (11 : Int32)) = 0 → ((¬ (I 84 33) = (40 : Int32) → ZC G mX12_lineComes fX12_lineComes lX12_lineComes [zo G 84] S I L 0 0 (fun w S' I2 L2 => ∃ r2 : Int32, w = some (.int r2) ∧ S = S' ∧ ((¬ r2 = (-1 : Int32) → (((I2 84 31) = (4 : Int32) → ZC G mX12_next fX12_next lX12_next [zo G 84] S (u2 I2 84 33 ((I2 84 33) + (1 : Int32))) L2 0 0 (fun w S' I3 L3 => w = none ∧ S = S' ∧ ZW G mX12_reads fX12_reads lX12_reads 105 [zo G 84, .int v1] [] S I3 L3 bc bs Q)) ∧ (¬ (I2 84 31) = (4 : Int32) → ZC G mX12_fails fX12_fails lX12_fails [zo G 84, .int (1 : Int32)] S (u2 I2 84 33 ((I2 84 33) + (1 : Int32))) L2 0 0 (fun w S' I4 L4 => ∃ r4 : Int32, w = some (.int r4) ∧ S = S' ∧ Q (some (.int r4)) S I4 L4)))) ∧ (r2 = (-1 : Int32) → Q (some (.int (-1 : Int32))) S I2 L2)))) ∧ ((I 84 33) = (40 : Int32) → ZC G mX12_fails fX12_fails lX12_fails [zo G 84, .int (3 : Int32)] S I L 0 0 (fun w S' I5 L5 => ∃ r5 : Int32, w = some (.int r5) ∧ S = S' ∧ Q (some (.int r5)) S I5 L5)))))) : ZW G mX12_reads fX12_reads lX12_reads 105 [zo G 84, .int v1] [] S I L bc bs Q := by
  refine zr_aload_n dX12_reads_105 rfl rfl ?_
  refine zr_iconst (v := 0) dX12_reads_106 (by decide) ?_
  refine zr_bipush (v := 11) dX12_reads_107 (by decide) ?_
  refine zr_callV (As := [.int (0 : Int32), .int (11 : Int32)]) (fr' := fX12_isWord) (lo' := lX12_isWord) (bc' := 0) (bs' := 0) (bcr := bc) (bsr := bs) dX12_reads_109 zs_X12_262 zi_X12_isWord zcl_12 (hS.has (a := 84) rfl rfl) rfl rfl (Nat.le_of_ble_eq_true rfl) (Nat.le_of_ble_eq_true rfl) (Nat.le_of_ble_eq_true rfl) (Nat.le_refl _) (Nat.le_refl _) ?_
  refine sp_X12_isWord hS  ?_
  show ZW G mX12_reads fX12_reads lX12_reads 112 [zo G 84, .int v1] [.int (p_X12_isWord I (0 : Int32) (11 : Int32))] S I L bc bs Q
  refine zr_ifeq (tgt := 171) dX12_reads_112 (by decide) (fun hb => ?_) (fun hb => ?_)
  · have k := k.1 hb
    refine zr_aload_n dX12_reads_171 rfl rfl ?_
    refine zr_getIv (x := (I 84 31)) dX12_reads_172 zf_X12_234 rfl (hS.has (a := 84) rfl rfl) rfl ?_
    refine zr_ifne (tgt := 185) dX12_reads_175 (by decide) (fun hb => ?_) (fun hb => ?_)
    · have k := k.1 hb
      refine zr_aload_n dX12_reads_185 rfl rfl ?_
      refine zr_iconst (v := 1) dX12_reads_186 (by decide) ?_
      refine zr_callV (As := [.int (1 : Int32)]) (fr' := fX12_fails) (lo' := lX12_fails) (bc' := 0) (bs' := 0) (bcr := bc) (bsr := bs) dX12_reads_187 zs_X12_256 zi_X12_fails zcl_12 (hS.has (a := 84) rfl rfl) rfl rfl (Nat.le_of_ble_eq_true rfl) (Nat.le_of_ble_eq_true rfl) (Nat.le_of_ble_eq_true rfl) (Nat.le_refl _) (Nat.le_refl _) ?_
      refine ZC.mono (fun w S' I1 L1 k => ?_) k
      obtain ⟨r1, rfl, rfl, k⟩ := k
      show ZW G mX12_reads fX12_reads lX12_reads 190 [zo G 84, .int v1] [.int r1] S I1 L1 bc bs Q
      exact zr_ireturn dX12_reads_190 rfl rfl k
    · have k := k.2 hb
      refine zr_aload_n dX12_reads_178 rfl rfl ?_
      refine zr_getIv (x := (I 84 33)) dX12_reads_179 zf_X12_270 rfl (hS.has (a := 84) rfl rfl) rfl ?_
      refine zr_goto (tgt := 190) dX12_reads_182 (by decide) ?_
      exact zr_ireturn dX12_reads_190 rfl rfl k
  · have k := k.2 hb
    refine zr_aload_n dX12_reads_115 rfl rfl ?_
    refine zr_getIv (x := (I 84 33)) dX12_reads_116 zf_X12_270 rfl (hS.has (a := 84) rfl rfl) rfl ?_
    refine zr_bipush (v := 40) dX12_reads_119 (by decide) ?_
    refine zr_icne (tgt := 130) dX12_reads_121 (by decide) (fun hb => ?_) (fun hb => ?_)
    · have k := k.1 hb
      refine zr_aload_n dX12_reads_130 rfl rfl ?_
      refine zr_callV (As := []) (fr' := fX12_lineComes) (lo' := lX12_lineComes) (bc' := 0) (bs' := 0) (bcr := bc) (bsr := bs) dX12_reads_131 zs_X12_273 zi_X12_lineComes zcl_12 (hS.has (a := 84) rfl rfl) rfl rfl (Nat.le_of_ble_eq_true rfl) (Nat.le_of_ble_eq_true rfl) (Nat.le_of_ble_eq_true rfl) (Nat.le_refl _) (Nat.le_refl _) ?_
      refine ZC.mono (fun w S' I2 L2 k => ?_) k
      obtain ⟨r2, rfl, rfl, k⟩ := k
      show ZW G mX12_reads fX12_reads lX12_reads 134 [zo G 84, .int v1] [.int r2] S I2 L2 bc bs Q
      refine zr_iconst (v := -1) dX12_reads_134 (by decide) ?_
      refine zr_icne (tgt := 140) dX12_reads_135 (by decide) (fun hb => ?_) (fun hb => ?_)
      · have k := k.1 hb
        refine zr_aload_n dX12_reads_140 rfl rfl ?_
        refine zr_aload_n dX12_reads_141 rfl rfl ?_
        refine zr_getIv (x := (I2 84 33)) dX12_reads_142 zf_X12_270 rfl (hS.has (a := 84) rfl rfl) rfl ?_
        refine zr_iconst (v := 1) dX12_reads_145 (by decide) ?_
        refine zr_iadd dX12_reads_146 ?_
        refine zr_putI dX12_reads_147 zf_X12_270 rfl (hS.has (a := 84) rfl rfl) rfl rfl ?_
        refine zr_aload_n dX12_reads_150 rfl rfl ?_
        refine zr_getIv (x := (I2 84 31)) dX12_reads_151 zf_X12_234 rfl (hS.has (a := 84) rfl rfl) rfl ?_
        refine zr_iconst (v := 4) dX12_reads_154 (by decide) ?_
        refine zr_iceq (tgt := 164) dX12_reads_155 (by decide) (fun hb => ?_) (fun hb => ?_)
        · have k := k.1 hb
          refine zr_aload_n dX12_reads_164 rfl rfl ?_
          refine zr_callV (As := []) (fr' := fX12_next) (lo' := lX12_next) (bc' := 0) (bs' := 0) (bcr := bc) (bsr := bs) dX12_reads_165 zs_X12_259 zi_X12_next zcl_12 (hS.has (a := 84) rfl rfl) rfl rfl (Nat.le_of_ble_eq_true rfl) (Nat.le_of_ble_eq_true rfl) (Nat.le_of_ble_eq_true rfl) (Nat.le_refl _) (Nat.le_refl _) ?_
          refine ZC.mono (fun w S' I3 L3 k => ?_) k
          obtain ⟨rfl, rfl, k⟩ := k
          show ZW G mX12_reads fX12_reads lX12_reads 168 [zo G 84, .int v1] [] S I3 L3 bc bs Q
          refine zr_goto (tgt := 105) dX12_reads_168 (by decide) ?_
          exact k
        · have k := k.2 hb
          refine zr_aload_n dX12_reads_158 rfl rfl ?_
          refine zr_iconst (v := 1) dX12_reads_159 (by decide) ?_
          refine zr_callV (As := [.int (1 : Int32)]) (fr' := fX12_fails) (lo' := lX12_fails) (bc' := 0) (bs' := 0) (bcr := bc) (bsr := bs) dX12_reads_160 zs_X12_256 zi_X12_fails zcl_12 (hS.has (a := 84) rfl rfl) rfl rfl (Nat.le_of_ble_eq_true rfl) (Nat.le_of_ble_eq_true rfl) (Nat.le_of_ble_eq_true rfl) (Nat.le_refl _) (Nat.le_refl _) ?_
          refine ZC.mono (fun w S' I4 L4 k => ?_) k
          obtain ⟨r4, rfl, rfl, k⟩ := k
          show ZW G mX12_reads fX12_reads lX12_reads 163 [zo G 84, .int v1] [.int r4] S I4 L4 bc bs Q
          exact zr_ireturn dX12_reads_163 rfl rfl k
      · have k := k.2 hb
        refine zr_iconst (v := -1) dX12_reads_138 (by decide) ?_
        exact zr_ireturn dX12_reads_139 rfl rfl k
    · have k := k.2 hb
      refine zr_aload_n dX12_reads_124 rfl rfl ?_
      refine zr_iconst (v := 3) dX12_reads_125 (by decide) ?_
      refine zr_callV (As := [.int (3 : Int32)]) (fr' := fX12_fails) (lo' := lX12_fails) (bc' := 0) (bs' := 0) (bcr := bc) (bsr := bs) dX12_reads_126 zs_X12_256 zi_X12_fails zcl_12 (hS.has (a := 84) rfl rfl) rfl rfl (Nat.le_of_ble_eq_true rfl) (Nat.le_of_ble_eq_true rfl) (Nat.le_of_ble_eq_true rfl) (Nat.le_refl _) (Nat.le_refl _) ?_
      refine ZC.mono (fun w S' I5 L5 k => ?_) k
      obtain ⟨r5, rfl, rfl, k⟩ := k
      show ZW G mX12_reads fX12_reads lX12_reads 129 [zo G 84, .int v1] [.int r5] S I5 L5 bc bs Q
      exact zr_ireturn dX12_reads_129 rfl rfl k
set_option maxHeartbeats 2000000 in
theorem vX12_custom_0 {G : Gp} {bc bs : Nat} {Q : zPost} {S : zSh} {I : zFI} {L : zFL} {v1 : Int32} (hS : zStd S)  (k : ((¬ (p_X12_isIn v1 (0 : Int32) (1 : Int32)) = 0 → ZC G mX12_reads fX12_reads lX12_reads [zo G 84] S (u2 I 84 0 (0 : Int32)) L 0 0 (fun w S' I1 L1 => ∃ r1 : Int32, w = some (.int r1) ∧ S = S' ∧ ((¬ r1 = (-1 : Int32) → ((¬ r1 = (-1 : Int32) → ZW G mX12_custom fX12_custom lX12_custom 68 [zo G 84, .int v1, .int r1, .int (0 : Int32)] [] S (u2 (u2 (u2 I1 84 26 (0 : Int32)) 84 36 (0 : Int32)) 84 37 (-1 : Int32)) L1 bc bs Q) ∧ (r1 = (-1 : Int32) → ZW G mX12_custom fX12_custom lX12_custom 68 [zo G 84, .int v1, .int r1, .int (0 : Int32)] [] S (u2 (u2 (u2 I1 84 26 (0 : Int32)) 84 36 (0 : Int32)) 84 37 (I1 84 35)) L1 bc bs Q))) ∧ (r1 = (-1 : Int32) → ((¬ r1 = (-1 : Int32) → ZW G mX12_custom fX12_custom lX12_custom 68 [zo G 84, .int v1, .int r1, .int (0 : Int32)] [] S (u2 (u2 (u2 I1 84 26 (0 : Int32)) 84 36 (I1 84 34)) 84 37 (-1 : Int32)) L1 bc bs Q) ∧ (r1 = (-1 : Int32) → ZW G mX12_custom fX12_custom lX12_custom 68 [zo G 84, .int v1, .int r1, .int (0 : Int32)] [] S (u2 (u2 (u2 I1 84 26 (0 : Int32)) 84 36 (I1 84 34)) 84 37 (I1 84 35)) L1 bc bs Q)))))) ∧ ((p_X12_isIn v1 (0 : Int32) (1 : Int32)) = 0 → Q (some (.int (-1 : Int32))) S (u2 (u2 I 84 0 (0 : Int32)) 84 26 (0 : Int32)) L))) : ZW G mX12_custom fX12_custom lX12_custom 0 [zo G 84, .int v1, .null, .null] [] S I L bc bs Q := by
  refine zr_aload_n dX12_custom_0 rfl rfl ?_
  refine zr_iconst (v := 0) dX12_custom_1 (by decide) ?_
  refine zr_putI dX12_custom_2 zf_X12_188 rfl (hS.has (a := 84) rfl rfl) rfl rfl ?_
  refine zr_aload_n dX12_custom_5 rfl rfl ?_
  refine zr_iload_n dX12_custom_6 rfl rfl ?_
  refine zr_iconst (v := 0) dX12_custom_7 (by decide) ?_
  refine zr_iconst (v := 1) dX12_custom_8 (by decide) ?_
  refine zr_callV (As := [.int v1, .int (0 : Int32), .int (1 : Int32)]) (fr' := fX12_isIn) (lo' := lX12_isIn) (bc' := 0) (bs' := 0) (bcr := bc) (bsr := bs) dX12_custom_9 zs_X12_201 zi_X12_isIn zcl_12 (hS.has (a := 84) rfl rfl) rfl rfl (Nat.le_of_ble_eq_true rfl) (Nat.le_of_ble_eq_true rfl) (Nat.le_of_ble_eq_true rfl) (Nat.le_refl _) (Nat.le_refl _) ?_
  refine sp_X12_isIn hS  ?_
  show ZW G mX12_custom fX12_custom lX12_custom 12 [zo G 84, .int v1, .null, .null] [.int (p_X12_isIn v1 (0 : Int32) (1 : Int32))] S (u2 I 84 0 (0 : Int32)) L bc bs Q
  refine zr_ifne (tgt := 22) dX12_custom_12 (by decide) (fun hb => ?_) (fun hb => ?_)
  · have k := k.1 hb
    refine zr_aload_n dX12_custom_22 rfl rfl ?_
    refine zr_callV (As := []) (fr' := fX12_reads) (lo' := lX12_reads) (bc' := 0) (bs' := 0) (bcr := bc) (bsr := bs) dX12_custom_23 zs_X12_277 zi_X12_reads zcl_12 (hS.has (a := 84) rfl rfl) rfl rfl (Nat.le_of_ble_eq_true rfl) (Nat.le_of_ble_eq_true rfl) (Nat.le_of_ble_eq_true rfl) (Nat.le_refl _) (Nat.le_refl _) ?_
    refine ZC.mono (fun w S' I1 L1 k => ?_) k
    obtain ⟨r1, rfl, rfl, k⟩ := k
    show ZW G mX12_custom fX12_custom lX12_custom 26 [zo G 84, .int v1, .null, .null] [.int r1] S I1 L1 bc bs Q
    refine zr_istore_n dX12_custom_26 rfl (Nat.le_of_ble_eq_true rfl) rfl ?_
    refine zr_aload_n dX12_custom_27 rfl rfl ?_
    refine zr_iconst (v := 0) dX12_custom_28 (by decide) ?_
    refine zr_putI dX12_custom_29 zf_X12_208 rfl (hS.has (a := 84) rfl rfl) rfl rfl ?_
    refine zr_aload_n dX12_custom_32 rfl rfl ?_
    refine zr_iload_n dX12_custom_33 rfl rfl ?_
    refine zr_iconst (v := -1) dX12_custom_34 (by decide) ?_
    refine zr_icne (tgt := 45) dX12_custom_35 (by decide) (fun hb => ?_) (fun hb => ?_)
    · have k := k.1 hb
      refine zr_iconst (v := 0) dX12_custom_45 (by decide) ?_
      refine zr_putI dX12_custom_46 zf_X12_280 rfl (hS.has (a := 84) rfl rfl) rfl rfl ?_
      refine zr_aload_n dX12_custom_49 rfl rfl ?_
      refine zr_iload_n dX12_custom_50 rfl rfl ?_
      refine zr_iconst (v := -1) dX12_custom_51 (by decide) ?_
      refine zr_icne (tgt := 62) dX12_custom_52 (by decide) (fun hb => ?_) (fun hb => ?_)
      · have k := k.1 hb
        refine zr_iconst (v := -1) dX12_custom_62 (by decide) ?_
        refine zr_putI dX12_custom_63 zf_X12_81 rfl (hS.has (a := 84) rfl rfl) rfl rfl ?_
        refine zr_iconst (v := 0) dX12_custom_66 (by decide) ?_
        refine zr_istore_n dX12_custom_67 rfl (Nat.le_of_ble_eq_true rfl) rfl ?_
        exact k
      · have k := k.2 hb
        refine zr_aload_n dX12_custom_55 rfl rfl ?_
        refine zr_getIv (x := (I1 84 35)) dX12_custom_56 zf_X12_253 rfl (hS.has (a := 84) rfl rfl) rfl ?_
        refine zr_goto (tgt := 63) dX12_custom_59 (by decide) ?_
        refine zr_putI dX12_custom_63 zf_X12_81 rfl (hS.has (a := 84) rfl rfl) rfl rfl ?_
        refine zr_iconst (v := 0) dX12_custom_66 (by decide) ?_
        refine zr_istore_n dX12_custom_67 rfl (Nat.le_of_ble_eq_true rfl) rfl ?_
        exact k
    · have k := k.2 hb
      refine zr_aload_n dX12_custom_38 rfl rfl ?_
      refine zr_getIv (x := (I1 84 34)) dX12_custom_39 zf_X12_250 rfl (hS.has (a := 84) rfl rfl) rfl ?_
      refine zr_goto (tgt := 46) dX12_custom_42 (by decide) ?_
      refine zr_putI dX12_custom_46 zf_X12_280 rfl (hS.has (a := 84) rfl rfl) rfl rfl ?_
      refine zr_aload_n dX12_custom_49 rfl rfl ?_
      refine zr_iload_n dX12_custom_50 rfl rfl ?_
      refine zr_iconst (v := -1) dX12_custom_51 (by decide) ?_
      refine zr_icne (tgt := 62) dX12_custom_52 (by decide) (fun hb => ?_) (fun hb => ?_)
      · have k := k.1 hb
        refine zr_iconst (v := -1) dX12_custom_62 (by decide) ?_
        refine zr_putI dX12_custom_63 zf_X12_81 rfl (hS.has (a := 84) rfl rfl) rfl rfl ?_
        refine zr_iconst (v := 0) dX12_custom_66 (by decide) ?_
        refine zr_istore_n dX12_custom_67 rfl (Nat.le_of_ble_eq_true rfl) rfl ?_
        exact k
      · have k := k.2 hb
        refine zr_aload_n dX12_custom_55 rfl rfl ?_
        refine zr_getIv (x := (I1 84 35)) dX12_custom_56 zf_X12_253 rfl (hS.has (a := 84) rfl rfl) rfl ?_
        refine zr_goto (tgt := 63) dX12_custom_59 (by decide) ?_
        refine zr_putI dX12_custom_63 zf_X12_81 rfl (hS.has (a := 84) rfl rfl) rfl rfl ?_
        refine zr_iconst (v := 0) dX12_custom_66 (by decide) ?_
        refine zr_istore_n dX12_custom_67 rfl (Nat.le_of_ble_eq_true rfl) rfl ?_
        exact k
  · have k := k.2 hb
    refine zr_aload_n dX12_custom_15 rfl rfl ?_
    refine zr_iconst (v := 0) dX12_custom_16 (by decide) ?_
    refine zr_putI dX12_custom_17 zf_X12_208 rfl (hS.has (a := 84) rfl rfl) rfl rfl ?_
    refine zr_iconst (v := -1) dX12_custom_20 (by decide) ?_
    exact zr_ireturn dX12_custom_21 rfl rfl k
set_option maxHeartbeats 2000000 in
theorem vX12_custom_68 {G : Gp} {bc bs : Nat} {Q : zPost} {S : zSh} {I : zFI} {L : zFL} {v1 : Int32} {v2 : Int32} {v3 : Int32} (hS : zStd S)  (k : (((50 : Int32) ≤ v3 → Q (some (.int v2)) S I L) ∧ (¬ (50 : Int32) ≤ v3 → ((v2 = (-1 : Int32) → Q (some (.int v2)) S I L) ∧ (¬ v2 = (-1 : Int32) → vp_in ((100 : Int32) + v3) 150 ∧ vp_in (((50 : Int32) * v1) + v3) 150 ∧ ZW G mX12_custom fX12_custom lX12_custom 68 [zo G 84, .int v1, .int v2, .int (v3 + 1)] [] S (u2 I 105 (((50 : Int32) * v1) + v3).toNatClampNeg (I 105 ((100 : Int32) + v3).toNatClampNeg)) L bc bs Q))))) : ZW G mX12_custom fX12_custom lX12_custom 68 [zo G 84, .int v1, .int v2, .int v3] [] S I L bc bs Q := by
  refine zr_iload_n dX12_custom_68 rfl rfl ?_
  refine zr_bipush (v := 50) dX12_custom_69 (by decide) ?_
  refine zr_icge (tgt := 105) dX12_custom_71 (by decide) (fun hb => ?_) (fun hb => ?_)
  · have k := k.1 hb
    refine zr_iload_n dX12_custom_105 rfl rfl ?_
    exact zr_ireturn dX12_custom_106 rfl rfl k
  · have k := k.2 hb
    refine zr_iload_n dX12_custom_74 rfl rfl ?_
    refine zr_iconst (v := -1) dX12_custom_75 (by decide) ?_
    refine zr_iceq (tgt := 105) dX12_custom_76 (by decide) (fun hb => ?_) (fun hb => ?_)
    · have k := k.1 hb
      refine zr_iload_n dX12_custom_105 rfl rfl ?_
      exact zr_ireturn dX12_custom_106 rfl rfl k
    · have k := k.2 hb
      refine zr_aload_n dX12_custom_79 rfl rfl ?_
      refine zr_getR dX12_custom_80 zf_X12_75 rfl (hS.has (a := 84) rfl rfl) (hS.ref (a := 105) rfl) ?_
      refine zr_bipush (v := 50) dX12_custom_83 (by decide) ?_
      refine zr_iload_n dX12_custom_85 rfl rfl ?_
      refine zr_imul dX12_custom_86 ?_
      refine zr_iload_n dX12_custom_87 rfl rfl ?_
      refine zr_iadd dX12_custom_88 ?_
      refine zr_aload_n dX12_custom_89 rfl rfl ?_
      refine zr_getR dX12_custom_90 zf_X12_75 rfl (hS.has (a := 84) rfl rfl) (hS.ref (a := 105) rfl) ?_
      refine zr_bipush (v := 100) dX12_custom_93 (by decide) ?_
      refine zr_iload_n dX12_custom_95 rfl rfl ?_
      refine zr_iadd dX12_custom_96 ?_
      obtain ⟨hi1, k⟩ := k
      refine zr_ialdv (x := (I 105 ((100 : Int32) + v3).toNatClampNeg)) dX12_custom_97 (hS.has (a := 105) rfl rfl) hi1 rfl ?_
      obtain ⟨hi2, k⟩ := k
      refine zr_iast dX12_custom_98 (hS.has (a := 105) rfl rfl) hi2 ?_
      refine zr_iinc (v := (v3 + 1)) dX12_custom_99 rfl rfl (Nat.le_of_ble_eq_true rfl) rfl ?_
      refine zr_goto (tgt := 68) dX12_custom_102 (by decide) ?_
      exact k
set_option maxHeartbeats 2000000 in
theorem vX12_fault_0 {G : Gp} {bc bs : Nat} {Q : zPost} {S : zSh} {I : zFI} {L : zFL} {v1 : Int32} (hS : zStd S)  (k : ((¬ v1 = 0 → ((¬ v1 = (1 : Int32) → Q (some (.int (-1 : Int32))) S (u2 I 84 0 (0 : Int32)) L) ∧ (v1 = (1 : Int32) → Q (some (.int (I 84 37))) S (u2 I 84 0 (0 : Int32)) L))) ∧ (v1 = 0 → Q (some (.int (I 84 36))) S (u2 I 84 0 (0 : Int32)) L))) : ZW G mX12_fault fX12_fault lX12_fault 0 [zo G 84, .int v1] [] S I L bc bs Q := by
  refine zr_aload_n dX12_fault_0 rfl rfl ?_
  refine zr_iconst (v := 0) dX12_fault_1 (by decide) ?_
  refine zr_putI dX12_fault_2 zf_X12_188 rfl (hS.has (a := 84) rfl rfl) rfl rfl ?_
  refine zr_iload_n dX12_fault_5 rfl rfl ?_
  refine zr_ifne (tgt := 16) dX12_fault_6 (by decide) (fun hb => ?_) (fun hb => ?_)
  · have k := k.1 hb
    refine zr_iload_n dX12_fault_16 rfl rfl ?_
    refine zr_iconst (v := 1) dX12_fault_17 (by decide) ?_
    refine zr_icne (tgt := 28) dX12_fault_18 (by decide) (fun hb => ?_) (fun hb => ?_)
    · have k := k.1 hb
      refine zr_iconst (v := -1) dX12_fault_28 (by decide) ?_
      exact zr_ireturn dX12_fault_29 rfl rfl k
    · have k := k.2 hb
      refine zr_aload_n dX12_fault_21 rfl rfl ?_
      refine zr_getIv (x := (I 84 37)) dX12_fault_22 zf_X12_81 rfl (hS.has (a := 84) rfl rfl) rfl ?_
      refine zr_goto (tgt := 29) dX12_fault_25 (by decide) ?_
      exact zr_ireturn dX12_fault_29 rfl rfl k
  · have k := k.2 hb
    refine zr_aload_n dX12_fault_9 rfl rfl ?_
    refine zr_getIv (x := (I 84 36)) dX12_fault_10 zf_X12_280 rfl (hS.has (a := 84) rfl rfl) rfl ?_
    refine zr_goto (tgt := 29) dX12_fault_13 (by decide) ?_
    exact zr_ireturn dX12_fault_29 rfl rfl k
set_option maxHeartbeats 2000000 in
theorem vX12_isAhead_0 {G : Gp} {bc bs : Nat} {Q : zPost} {S : zSh} {I : zFI} {L : zFL} {v1 : Int32} {v2 : Int32} {v3 : Int32} (hS : zStd S)  (k : vp_in (((((50 : Int32) * v1) + (30 : Int32)) + ((4 : Int32) * v2)) + v3) 150 ∧ ((¬ (I 105 (((((50 : Int32) * v1) + (30 : Int32)) + ((4 : Int32) * v2)) + v3).toNatClampNeg) = (1 : Int32) → Q (some (.int (0 : Int32))) S I L) ∧ ((I 105 (((((50 : Int32) * v1) + (30 : Int32)) + ((4 : Int32) * v2)) + v3).toNatClampNeg) = (1 : Int32) → vp_in (((((50 : Int32) * v1) + (30 : Int32)) + ((4 : Int32) * v3)) + v2) 150 ∧ ((¬ (I 105 (((((50 : Int32) * v1) + (30 : Int32)) + ((4 : Int32) * v3)) + v2).toNatClampNeg) = 0 → Q (some (.int (0 : Int32))) S I L) ∧ ((I 105 (((((50 : Int32) * v1) + (30 : Int32)) + ((4 : Int32) * v3)) + v2).toNatClampNeg) = 0 → Q (some (.int (1 : Int32))) S I L))))) : ZW G mX12_isAhead fX12_isAhead lX12_isAhead 0 [zo G 84, .int v1, .int v2, .int v3] [] S I L bc bs Q := by
  refine zr_aload_n dX12_isAhead_0 rfl rfl ?_
  refine zr_getR dX12_isAhead_1 zf_X12_75 rfl (hS.has (a := 84) rfl rfl) (hS.ref (a := 105) rfl) ?_
  refine zr_bipush (v := 50) dX12_isAhead_4 (by decide) ?_
  refine zr_iload_n dX12_isAhead_6 rfl rfl ?_
  refine zr_imul dX12_isAhead_7 ?_
  refine zr_bipush (v := 30) dX12_isAhead_8 (by decide) ?_
  refine zr_iadd dX12_isAhead_10 ?_
  refine zr_iconst (v := 4) dX12_isAhead_11 (by decide) ?_
  refine zr_iload_n dX12_isAhead_12 rfl rfl ?_
  refine zr_imul dX12_isAhead_13 ?_
  refine zr_iadd dX12_isAhead_14 ?_
  refine zr_iload_n dX12_isAhead_15 rfl rfl ?_
  refine zr_iadd dX12_isAhead_16 ?_
  obtain ⟨hi1, k⟩ := k
  refine zr_ialdv (x := (I 105 (((((50 : Int32) * v1) + (30 : Int32)) + ((4 : Int32) * v2)) + v3).toNatClampNeg)) dX12_isAhead_17 (hS.has (a := 105) rfl rfl) hi1 rfl ?_
  refine zr_iconst (v := 1) dX12_isAhead_18 (by decide) ?_
  refine zr_icne (tgt := 47) dX12_isAhead_19 (by decide) (fun hb => ?_) (fun hb => ?_)
  · have k := k.1 hb
    refine zr_iconst (v := 0) dX12_isAhead_47 (by decide) ?_
    exact zr_ireturn dX12_isAhead_48 rfl rfl k
  · have k := k.2 hb
    refine zr_aload_n dX12_isAhead_22 rfl rfl ?_
    refine zr_getR dX12_isAhead_23 zf_X12_75 rfl (hS.has (a := 84) rfl rfl) (hS.ref (a := 105) rfl) ?_
    refine zr_bipush (v := 50) dX12_isAhead_26 (by decide) ?_
    refine zr_iload_n dX12_isAhead_28 rfl rfl ?_
    refine zr_imul dX12_isAhead_29 ?_
    refine zr_bipush (v := 30) dX12_isAhead_30 (by decide) ?_
    refine zr_iadd dX12_isAhead_32 ?_
    refine zr_iconst (v := 4) dX12_isAhead_33 (by decide) ?_
    refine zr_iload_n dX12_isAhead_34 rfl rfl ?_
    refine zr_imul dX12_isAhead_35 ?_
    refine zr_iadd dX12_isAhead_36 ?_
    refine zr_iload_n dX12_isAhead_37 rfl rfl ?_
    refine zr_iadd dX12_isAhead_38 ?_
    obtain ⟨hi2, k⟩ := k
    refine zr_ialdv (x := (I 105 (((((50 : Int32) * v1) + (30 : Int32)) + ((4 : Int32) * v3)) + v2).toNatClampNeg)) dX12_isAhead_39 (hS.has (a := 105) rfl rfl) hi2 rfl ?_
    refine zr_ifne (tgt := 47) dX12_isAhead_40 (by decide) (fun hb => ?_) (fun hb => ?_)
    · have k := k.1 hb
      refine zr_iconst (v := 0) dX12_isAhead_47 (by decide) ?_
      exact zr_ireturn dX12_isAhead_48 rfl rfl k
    · have k := k.2 hb
      refine zr_iconst (v := 1) dX12_isAhead_43 (by decide) ?_
      refine zr_goto (tgt := 48) dX12_isAhead_44 (by decide) ?_
      exact zr_ireturn dX12_isAhead_48 rfl rfl k
def p_X12_isAhead (I : zFI) (v1 : Int32) (v2 : Int32) (v3 : Int32) : Int32 := (if (I 105 (((((50 : Int32) * v1) + (30 : Int32)) + ((4 : Int32) * v2)) + v3).toNatClampNeg) = (1 : Int32) then (if (I 105 (((((50 : Int32) * v1) + (30 : Int32)) + ((4 : Int32) * v3)) + v2).toNatClampNeg) = 0 then (1 : Int32) else (0 : Int32)) else (0 : Int32))
set_option maxHeartbeats 2000000 in
theorem sp_X12_isAhead {G : Gp} {Q : zPost} {S : zSh} {I : zFI} {L : zFL} {v1 : Int32} {v2 : Int32} {v3 : Int32} (hS : zStd S)  (hv0 : vp_in (((((50 : Int32) * v1) + (30 : Int32)) + ((4 : Int32) * v2)) + v3) 150) (hv1 : (I 105 (((((50 : Int32) * v1) + (30 : Int32)) + ((4 : Int32) * v2)) + v3).toNatClampNeg) = (1 : Int32) → vp_in (((((50 : Int32) * v1) + (30 : Int32)) + ((4 : Int32) * v3)) + v2) 150) (h : Q (some (.int (p_X12_isAhead I v1 v2 v3))) S I L) : ZC G mX12_isAhead fX12_isAhead lX12_isAhead [zo G 84, .int v1, .int v2, .int v3] S I L 0 0 Q := by
  refine ZC.of' (vX12_isAhead_0 hS  ?_) rfl (Nat.le_of_ble_eq_true rfl) rfl
  unfold p_X12_isAhead at h
  refine ⟨hv0 , ?_⟩
  refine ⟨fun hb1 => ?_, fun hb1 => ?_⟩
  · rw [if_neg hb1] at h
    exact h
  · rw [if_pos hb1] at h
    refine ⟨hv1 hb1, ?_⟩
    refine ⟨fun hb2 => ?_, fun hb2 => ?_⟩
    · rw [if_neg hb2] at h
      exact h
    · rw [if_pos hb2] at h
      exact h
theorem pb_X12_isAhead (I : zFI) (v1 : Int32) (v2 : Int32) (v3 : Int32) : p_X12_isAhead I v1 v2 v3 = 0 ∨ p_X12_isAhead I v1 v2 v3 = 1 := by
  unfold p_X12_isAhead
  repeat' split
  all_goals first | exact Or.inl rfl | exact Or.inr rfl | assumption
set_option maxHeartbeats 2000000 in
theorem vX12_customs_0 {G : Gp} {bc bs : Nat} {Q : zPost} {S : zSh} {I : zFI} {L : zFL} {v1 : Int32} {v2 : Int32} (hS : zStd S)  (k : ((¬ (p_X12_isIn v1 (0 : Int32) (1 : Int32)) = 0 → ((¬ (p_X12_isIn v2 (0 : Int32) (8 : Int32)) = 0 → vp_in (((50 : Int32) * v1) + v2) 150 ∧ Q (some (.int (I 105 (((50 : Int32) * v1) + v2).toNatClampNeg))) S (u2 I 84 0 (0 : Int32)) L) ∧ ((p_X12_isIn v2 (0 : Int32) (8 : Int32)) = 0 → (((p_X12_isIn v2 (10 : Int32) (25 : Int32)) = 0 → (((p_X12_isIn v2 (30 : Int32) (45 : Int32)) = 0 → Q (some (.int (-1 : Int32))) S (u2 I 84 0 (0 : Int32)) L) ∧ (¬ (p_X12_isIn v2 (30 : Int32) (45 : Int32)) = 0 → (vp_in (((((50 : Int32) * v1) + (30 : Int32)) + ((4 : Int32) * ((v2 - (30 : Int32)) / (4 : Int32)))) + ((v2 - (30 : Int32)) - (v2 - (30 : Int32)) / (4 : Int32) * (4 : Int32))) 150) ∧ (((u2 I 84 0 (0 : Int32)) 105 (((((50 : Int32) * v1) + (30 : Int32)) + ((4 : Int32) * ((v2 - (30 : Int32)) / (4 : Int32)))) + ((v2 - (30 : Int32)) - (v2 - (30 : Int32)) / (4 : Int32) * (4 : Int32))).toNatClampNeg) = (1 : Int32) → vp_in (((((50 : Int32) * v1) + (30 : Int32)) + ((4 : Int32) * ((v2 - (30 : Int32)) - (v2 - (30 : Int32)) / (4 : Int32) * (4 : Int32)))) + ((v2 - (30 : Int32)) / (4 : Int32))) 150) ∧ (((p_X12_isAhead (u2 I 84 0 (0 : Int32)) v1 ((v2 - (30 : Int32)) / (4 : Int32)) ((v2 - (30 : Int32)) - (v2 - (30 : Int32)) / (4 : Int32) * (4 : Int32))) = 0 → Q (some (.int (0 : Int32))) S (u2 I 84 0 (0 : Int32)) L) ∧ (¬ (p_X12_isAhead (u2 I 84 0 (0 : Int32)) v1 ((v2 - (30 : Int32)) / (4 : Int32)) ((v2 - (30 : Int32)) - (v2 - (30 : Int32)) / (4 : Int32) * (4 : Int32))) = 0 → Q (some (.int (1 : Int32))) S (u2 I 84 0 (0 : Int32)) L))))) ∧ (¬ (p_X12_isIn v2 (10 : Int32) (25 : Int32)) = 0 → vp_in (((50 : Int32) * v1) + v2) 150 ∧ Q (some (.int (I 105 (((50 : Int32) * v1) + v2).toNatClampNeg))) S (u2 I 84 0 (0 : Int32)) L))))) ∧ ((p_X12_isIn v1 (0 : Int32) (1 : Int32)) = 0 → Q (some (.int (-1 : Int32))) S (u2 I 84 0 (0 : Int32)) L))) : ZW G mX12_customs fX12_customs lX12_customs 0 [zo G 84, .int v1, .int v2] [] S I L bc bs Q := by
  refine zr_aload_n dX12_customs_0 rfl rfl ?_
  refine zr_iconst (v := 0) dX12_customs_1 (by decide) ?_
  refine zr_putI dX12_customs_2 zf_X12_188 rfl (hS.has (a := 84) rfl rfl) rfl rfl ?_
  refine zr_aload_n dX12_customs_5 rfl rfl ?_
  refine zr_iload_n dX12_customs_6 rfl rfl ?_
  refine zr_iconst (v := 0) dX12_customs_7 (by decide) ?_
  refine zr_iconst (v := 1) dX12_customs_8 (by decide) ?_
  refine zr_callV (As := [.int v1, .int (0 : Int32), .int (1 : Int32)]) (fr' := fX12_isIn) (lo' := lX12_isIn) (bc' := 0) (bs' := 0) (bcr := bc) (bsr := bs) dX12_customs_9 zs_X12_201 zi_X12_isIn zcl_12 (hS.has (a := 84) rfl rfl) rfl rfl (Nat.le_of_ble_eq_true rfl) (Nat.le_of_ble_eq_true rfl) (Nat.le_of_ble_eq_true rfl) (Nat.le_refl _) (Nat.le_refl _) ?_
  refine sp_X12_isIn hS  ?_
  show ZW G mX12_customs fX12_customs lX12_customs 12 [zo G 84, .int v1, .int v2] [.int (p_X12_isIn v1 (0 : Int32) (1 : Int32))] S (u2 I 84 0 (0 : Int32)) L bc bs Q
  refine zr_ifne (tgt := 17) dX12_customs_12 (by decide) (fun hb => ?_) (fun hb => ?_)
  · have k := k.1 hb
    refine zr_aload_n dX12_customs_17 rfl rfl ?_
    refine zr_iload_n dX12_customs_18 rfl rfl ?_
    refine zr_iconst (v := 0) dX12_customs_19 (by decide) ?_
    refine zr_bipush (v := 8) dX12_customs_20 (by decide) ?_
    refine zr_callV (As := [.int v2, .int (0 : Int32), .int (8 : Int32)]) (fr' := fX12_isIn) (lo' := lX12_isIn) (bc' := 0) (bs' := 0) (bcr := bc) (bsr := bs) dX12_customs_22 zs_X12_201 zi_X12_isIn zcl_12 (hS.has (a := 84) rfl rfl) rfl rfl (Nat.le_of_ble_eq_true rfl) (Nat.le_of_ble_eq_true rfl) (Nat.le_of_ble_eq_true rfl) (Nat.le_refl _) (Nat.le_refl _) ?_
    refine sp_X12_isIn hS  ?_
    show ZW G mX12_customs fX12_customs lX12_customs 25 [zo G 84, .int v1, .int v2] [.int (p_X12_isIn v2 (0 : Int32) (8 : Int32))] S (u2 I 84 0 (0 : Int32)) L bc bs Q
    refine zr_ifne (tgt := 40) dX12_customs_25 (by decide) (fun hb => ?_) (fun hb => ?_)
    · have k := k.1 hb
      refine zr_aload_n dX12_customs_40 rfl rfl ?_
      refine zr_getR dX12_customs_41 zf_X12_75 rfl (hS.has (a := 84) rfl rfl) (hS.ref (a := 105) rfl) ?_
      refine zr_bipush (v := 50) dX12_customs_44 (by decide) ?_
      refine zr_iload_n dX12_customs_46 rfl rfl ?_
      refine zr_imul dX12_customs_47 ?_
      refine zr_iload_n dX12_customs_48 rfl rfl ?_
      refine zr_iadd dX12_customs_49 ?_
      obtain ⟨hi1, k⟩ := k
      refine zr_ialdv (x := (I 105 (((50 : Int32) * v1) + v2).toNatClampNeg)) dX12_customs_50 (hS.has (a := 105) rfl rfl) hi1 rfl ?_
      exact zr_ireturn dX12_customs_51 rfl rfl k
    · have k := k.2 hb
      refine zr_aload_n dX12_customs_28 rfl rfl ?_
      refine zr_iload_n dX12_customs_29 rfl rfl ?_
      refine zr_bipush (v := 10) dX12_customs_30 (by decide) ?_
      refine zr_bipush (v := 25) dX12_customs_32 (by decide) ?_
      refine zr_callV (As := [.int v2, .int (10 : Int32), .int (25 : Int32)]) (fr' := fX12_isIn) (lo' := lX12_isIn) (bc' := 0) (bs' := 0) (bcr := bc) (bsr := bs) dX12_customs_34 zs_X12_201 zi_X12_isIn zcl_12 (hS.has (a := 84) rfl rfl) rfl rfl (Nat.le_of_ble_eq_true rfl) (Nat.le_of_ble_eq_true rfl) (Nat.le_of_ble_eq_true rfl) (Nat.le_refl _) (Nat.le_refl _) ?_
      refine sp_X12_isIn hS  ?_
      show ZW G mX12_customs fX12_customs lX12_customs 37 [zo G 84, .int v1, .int v2] [.int (p_X12_isIn v2 (10 : Int32) (25 : Int32))] S (u2 I 84 0 (0 : Int32)) L bc bs Q
      refine zr_ifeq (tgt := 52) dX12_customs_37 (by decide) (fun hb => ?_) (fun hb => ?_)
      · have k := k.1 hb
        refine zr_aload_n dX12_customs_52 rfl rfl ?_
        refine zr_iload_n dX12_customs_53 rfl rfl ?_
        refine zr_bipush (v := 30) dX12_customs_54 (by decide) ?_
        refine zr_bipush (v := 45) dX12_customs_56 (by decide) ?_
        refine zr_callV (As := [.int v2, .int (30 : Int32), .int (45 : Int32)]) (fr' := fX12_isIn) (lo' := lX12_isIn) (bc' := 0) (bs' := 0) (bcr := bc) (bsr := bs) dX12_customs_58 zs_X12_201 zi_X12_isIn zcl_12 (hS.has (a := 84) rfl rfl) rfl rfl (Nat.le_of_ble_eq_true rfl) (Nat.le_of_ble_eq_true rfl) (Nat.le_of_ble_eq_true rfl) (Nat.le_refl _) (Nat.le_refl _) ?_
        refine sp_X12_isIn hS  ?_
        show ZW G mX12_customs fX12_customs lX12_customs 61 [zo G 84, .int v1, .int v2] [.int (p_X12_isIn v2 (30 : Int32) (45 : Int32))] S (u2 I 84 0 (0 : Int32)) L bc bs Q
        refine zr_ifeq (tgt := 92) dX12_customs_61 (by decide) (fun hb => ?_) (fun hb => ?_)
        · have k := k.1 hb
          refine zr_iconst (v := -1) dX12_customs_92 (by decide) ?_
          exact zr_ireturn dX12_customs_93 rfl rfl k
        · have k := k.2 hb
          refine zr_aload_n dX12_customs_64 rfl rfl ?_
          refine zr_iload_n dX12_customs_65 rfl rfl ?_
          refine zr_iload_n dX12_customs_66 rfl rfl ?_
          refine zr_bipush (v := 30) dX12_customs_67 (by decide) ?_
          refine zr_isub dX12_customs_69 ?_
          refine zr_iconst (v := 4) dX12_customs_70 (by decide) ?_
          refine zr_idiv dX12_customs_71 (by decide) ?_
          refine zr_iload_n dX12_customs_72 rfl rfl ?_
          refine zr_bipush (v := 30) dX12_customs_73 (by decide) ?_
          refine zr_isub dX12_customs_75 ?_
          refine zr_iconst (v := 4) dX12_customs_76 (by decide) ?_
          refine zr_irem dX12_customs_77 (by decide) ?_
          refine zr_callV (As := [.int v1, .int ((v2 - (30 : Int32)) / (4 : Int32)), .int ((v2 - (30 : Int32)) - (v2 - (30 : Int32)) / (4 : Int32) * (4 : Int32))]) (fr' := fX12_isAhead) (lo' := lX12_isAhead) (bc' := 0) (bs' := 0) (bcr := bc) (bsr := bs) dX12_customs_78 zs_X12_283 zi_X12_isAhead zcl_12 (hS.has (a := 84) rfl rfl) rfl rfl (Nat.le_of_ble_eq_true rfl) (Nat.le_of_ble_eq_true rfl) (Nat.le_of_ble_eq_true rfl) (Nat.le_refl _) (Nat.le_refl _) ?_
          obtain ⟨hq0, hq1, k⟩ := k
          refine sp_X12_isAhead hS hq0 hq1 ?_
          show ZW G mX12_customs fX12_customs lX12_customs 81 [zo G 84, .int v1, .int v2] [.int (p_X12_isAhead (u2 I 84 0 (0 : Int32)) v1 ((v2 - (30 : Int32)) / (4 : Int32)) ((v2 - (30 : Int32)) - (v2 - (30 : Int32)) / (4 : Int32) * (4 : Int32)))] S (u2 I 84 0 (0 : Int32)) L bc bs Q
          refine zr_ifeq (tgt := 88) dX12_customs_81 (by decide) (fun hb => ?_) (fun hb => ?_)
          · have k := k.1 hb
            refine zr_iconst (v := 0) dX12_customs_88 (by decide) ?_
            refine zr_goto (tgt := 93) dX12_customs_89 (by decide) ?_
            exact zr_ireturn dX12_customs_93 rfl rfl k
          · have k := k.2 hb
            refine zr_iconst (v := 1) dX12_customs_84 (by decide) ?_
            refine zr_goto (tgt := 93) dX12_customs_85 (by decide) ?_
            exact zr_ireturn dX12_customs_93 rfl rfl k
      · have k := k.2 hb
        refine zr_aload_n dX12_customs_40 rfl rfl ?_
        refine zr_getR dX12_customs_41 zf_X12_75 rfl (hS.has (a := 84) rfl rfl) (hS.ref (a := 105) rfl) ?_
        refine zr_bipush (v := 50) dX12_customs_44 (by decide) ?_
        refine zr_iload_n dX12_customs_46 rfl rfl ?_
        refine zr_imul dX12_customs_47 ?_
        refine zr_iload_n dX12_customs_48 rfl rfl ?_
        refine zr_iadd dX12_customs_49 ?_
        obtain ⟨hi2, k⟩ := k
        refine zr_ialdv (x := (I 105 (((50 : Int32) * v1) + v2).toNatClampNeg)) dX12_customs_50 (hS.has (a := 105) rfl rfl) hi2 rfl ?_
        exact zr_ireturn dX12_customs_51 rfl rfl k
  · have k := k.2 hb
    refine zr_iconst (v := -1) dX12_customs_15 (by decide) ?_
    exact zr_ireturn dX12_customs_16 rfl rfl k
set_option maxHeartbeats 2000000 in
theorem vX12_ringsSeen_0 {G : Gp} {bc bs : Nat} {Q : zPost} {S : zSh} {I : zFI} {L : zFL} {v1 : Int32} (hS : zStd S)  (k : ZW G mX12_ringsSeen fX12_ringsSeen lX12_ringsSeen 2 [zo G 84, .int v1, .int (0 : Int32)] [] S I L bc bs Q) : ZW G mX12_ringsSeen fX12_ringsSeen lX12_ringsSeen 0 [zo G 84, .int v1, .null] [] S I L bc bs Q := by
  refine zr_iconst (v := 0) dX12_ringsSeen_0 (by decide) ?_
  refine zr_istore_n dX12_ringsSeen_1 rfl (Nat.le_of_ble_eq_true rfl) rfl ?_
  exact k
set_option maxHeartbeats 2000000 in
theorem vX12_ringsSeen_2 {G : Gp} {bc bs : Nat} {Q : zPost} {S : zSh} {I : zFI} {L : zFL} {v1 : Int32} {v2 : Int32} (hS : zStd S)  (k : vp_in v1 16 ∧ (((I 89 v1.toNatClampNeg) ≤ v2 → Q (some (.int v2)) S I L) ∧ (¬ (I 89 v1.toNatClampNeg) ≤ v2 → vp_in (((24 : Int32) * v1) + v2) 384 ∧ (((p_X12_isSeen I (I 91 (((24 : Int32) * v1) + v2).toNatClampNeg)) = 0 → Q (some (.int v2)) S I L) ∧ (¬ (p_X12_isSeen I (I 91 (((24 : Int32) * v1) + v2).toNatClampNeg)) = 0 → ZW G mX12_ringsSeen fX12_ringsSeen lX12_ringsSeen 2 [zo G 84, .int v1, .int (v2 + (1 : Int32))] [] S I L bc bs Q))))) : ZW G mX12_ringsSeen fX12_ringsSeen lX12_ringsSeen 2 [zo G 84, .int v1, .int v2] [] S I L bc bs Q := by
  refine zr_iload_n dX12_ringsSeen_2 rfl rfl ?_
  refine zr_aload_n dX12_ringsSeen_3 rfl rfl ?_
  refine zr_getR dX12_ringsSeen_4 zf_X12_26 rfl (hS.has (a := 84) rfl rfl) (hS.ref (a := 89) rfl) ?_
  refine zr_iload_n dX12_ringsSeen_7 rfl rfl ?_
  obtain ⟨hi1, k⟩ := k
  refine zr_ialdv (x := (I 89 v1.toNatClampNeg)) dX12_ringsSeen_8 (hS.has (a := 89) rfl rfl) hi1 rfl ?_
  refine zr_icge (tgt := 37) dX12_ringsSeen_9 (by decide) (fun hb => ?_) (fun hb => ?_)
  · have k := k.1 hb
    refine zr_iload_n dX12_ringsSeen_37 rfl rfl ?_
    exact zr_ireturn dX12_ringsSeen_38 rfl rfl k
  · have k := k.2 hb
    refine zr_aload_n dX12_ringsSeen_12 rfl rfl ?_
    refine zr_aload_n dX12_ringsSeen_13 rfl rfl ?_
    refine zr_getR dX12_ringsSeen_14 zf_X12_32 rfl (hS.has (a := 84) rfl rfl) (hS.ref (a := 91) rfl) ?_
    refine zr_bipush (v := 24) dX12_ringsSeen_17 (by decide) ?_
    refine zr_iload_n dX12_ringsSeen_19 rfl rfl ?_
    refine zr_imul dX12_ringsSeen_20 ?_
    refine zr_iload_n dX12_ringsSeen_21 rfl rfl ?_
    refine zr_iadd dX12_ringsSeen_22 ?_
    obtain ⟨hi2, k⟩ := k
    refine zr_ialdv (x := (I 91 (((24 : Int32) * v1) + v2).toNatClampNeg)) dX12_ringsSeen_23 (hS.has (a := 91) rfl rfl) hi2 rfl ?_
    refine zr_callV (As := [.int (I 91 (((24 : Int32) * v1) + v2).toNatClampNeg)]) (fr' := fX12_isSeen) (lo' := lX12_isSeen) (bc' := 0) (bs' := 0) (bcr := bc) (bsr := bs) dX12_ringsSeen_24 zs_X12_194 zi_X12_isSeen zcl_12 (hS.has (a := 84) rfl rfl) rfl rfl (Nat.le_of_ble_eq_true rfl) (Nat.le_of_ble_eq_true rfl) (Nat.le_of_ble_eq_true rfl) (Nat.le_refl _) (Nat.le_refl _) ?_
    refine sp_X12_isSeen hS  ?_
    show ZW G mX12_ringsSeen fX12_ringsSeen lX12_ringsSeen 27 [zo G 84, .int v1, .int v2] [.int (p_X12_isSeen I (I 91 (((24 : Int32) * v1) + v2).toNatClampNeg))] S I L bc bs Q
    refine zr_ifeq (tgt := 37) dX12_ringsSeen_27 (by decide) (fun hb => ?_) (fun hb => ?_)
    · have k := k.1 hb
      refine zr_iload_n dX12_ringsSeen_37 rfl rfl ?_
      exact zr_ireturn dX12_ringsSeen_38 rfl rfl k
    · have k := k.2 hb
      refine zr_iload_n dX12_ringsSeen_30 rfl rfl ?_
      refine zr_iconst (v := 1) dX12_ringsSeen_31 (by decide) ?_
      refine zr_iadd dX12_ringsSeen_32 ?_
      refine zr_istore_n dX12_ringsSeen_33 rfl (Nat.le_of_ble_eq_true rfl) rfl ?_
      refine zr_goto (tgt := 2) dX12_ringsSeen_34 (by decide) ?_
      exact k
set_option maxHeartbeats 2000000 in
theorem vX12_jointsSeen_0 {G : Gp} {bc bs : Nat} {Q : zPost} {S : zSh} {I : zFI} {L : zFL} {v1 : Int32} (hS : zStd S)  (k : ZW G mX12_jointsSeen fX12_jointsSeen lX12_jointsSeen 4 [zo G 84, .int v1, .int (0 : Int32), .int (0 : Int32)] [] S I L bc bs Q) : ZW G mX12_jointsSeen fX12_jointsSeen lX12_jointsSeen 0 [zo G 84, .int v1, .null, .null] [] S I L bc bs Q := by
  refine zr_iconst (v := 0) dX12_jointsSeen_0 (by decide) ?_
  refine zr_istore_n dX12_jointsSeen_1 rfl (Nat.le_of_ble_eq_true rfl) rfl ?_
  refine zr_iconst (v := 0) dX12_jointsSeen_2 (by decide) ?_
  refine zr_istore_n dX12_jointsSeen_3 rfl (Nat.le_of_ble_eq_true rfl) rfl ?_
  exact k
set_option maxHeartbeats 2000000 in
theorem vX12_jointsSeen_4 {G : Gp} {bc bs : Nat} {Q : zPost} {S : zSh} {I : zFI} {L : zFL} {v1 : Int32} {v2 : Int32} {v3 : Int32} (hS : zStd S)  (k : (((I 84 13) ≤ v3 → Q (some (.int v2)) S I L) ∧ (¬ (I 84 13) ≤ v3 → vp_in v3 48 ∧ ((¬ (I 94 v3.toNatClampNeg) = v1 → ZW G mX12_jointsSeen fX12_jointsSeen lX12_jointsSeen 4 [zo G 84, .int v1, .int v2, .int (v3 + 1)] [] S I L bc bs Q) ∧ ((I 94 v3.toNatClampNeg) = v1 → (¬ v3 < 0 → ¬ (I 84 13) ≤ v3 → vp_in v3 48) ∧ (((p_X12_isJoint I v3) = 0 → ZW G mX12_jointsSeen fX12_jointsSeen lX12_jointsSeen 4 [zo G 84, .int v1, .int v2, .int (v3 + 1)] [] S I L bc bs Q) ∧ (¬ (p_X12_isJoint I v3) = 0 → ZW G mX12_jointsSeen fX12_jointsSeen lX12_jointsSeen 4 [zo G 84, .int v1, .int (v2 + (1 : Int32)), .int (v3 + 1)] [] S I L bc bs Q))))))) : ZW G mX12_jointsSeen fX12_jointsSeen lX12_jointsSeen 4 [zo G 84, .int v1, .int v2, .int v3] [] S I L bc bs Q := by
  refine zr_iload_n dX12_jointsSeen_4 rfl rfl ?_
  refine zr_aload_n dX12_jointsSeen_5 rfl rfl ?_
  refine zr_getIv (x := (I 84 13)) dX12_jointsSeen_6 zf_X12_198 rfl (hS.has (a := 84) rfl rfl) rfl ?_
  refine zr_icge (tgt := 40) dX12_jointsSeen_9 (by decide) (fun hb => ?_) (fun hb => ?_)
  · have k := k.1 hb
    refine zr_iload_n dX12_jointsSeen_40 rfl rfl ?_
    exact zr_ireturn dX12_jointsSeen_41 rfl rfl k
  · have k := k.2 hb
    refine zr_aload_n dX12_jointsSeen_12 rfl rfl ?_
    refine zr_getR dX12_jointsSeen_13 zf_X12_42 rfl (hS.has (a := 84) rfl rfl) (hS.ref (a := 94) rfl) ?_
    refine zr_iload_n dX12_jointsSeen_16 rfl rfl ?_
    obtain ⟨hi1, k⟩ := k
    refine zr_ialdv (x := (I 94 v3.toNatClampNeg)) dX12_jointsSeen_17 (hS.has (a := 94) rfl rfl) hi1 rfl ?_
    refine zr_iload_n dX12_jointsSeen_18 rfl rfl ?_
    refine zr_icne (tgt := 34) dX12_jointsSeen_19 (by decide) (fun hb => ?_) (fun hb => ?_)
    · have k := k.1 hb
      refine zr_iinc (v := (v3 + 1)) dX12_jointsSeen_34 rfl rfl (Nat.le_of_ble_eq_true rfl) rfl ?_
      refine zr_goto (tgt := 4) dX12_jointsSeen_37 (by decide) ?_
      exact k
    · have k := k.2 hb
      refine zr_aload_n dX12_jointsSeen_22 rfl rfl ?_
      refine zr_iload_n dX12_jointsSeen_23 rfl rfl ?_
      refine zr_callV (As := [.int v3]) (fr' := fX12_isJoint) (lo' := lX12_isJoint) (bc' := 0) (bs' := 0) (bcr := bc) (bsr := bs) dX12_jointsSeen_24 zs_X12_286 zi_X12_isJoint zcl_12 (hS.has (a := 84) rfl rfl) rfl rfl (Nat.le_of_ble_eq_true rfl) (Nat.le_of_ble_eq_true rfl) (Nat.le_of_ble_eq_true rfl) (Nat.le_refl _) (Nat.le_refl _) ?_
      obtain ⟨hq0, k⟩ := k
      refine sp_X12_isJoint hS hq0 ?_
      show ZW G mX12_jointsSeen fX12_jointsSeen lX12_jointsSeen 27 [zo G 84, .int v1, .int v2, .int v3] [.int (p_X12_isJoint I v3)] S I L bc bs Q
      refine zr_ifeq (tgt := 34) dX12_jointsSeen_27 (by decide) (fun hb => ?_) (fun hb => ?_)
      · have k := k.1 hb
        refine zr_iinc (v := (v3 + 1)) dX12_jointsSeen_34 rfl rfl (Nat.le_of_ble_eq_true rfl) rfl ?_
        refine zr_goto (tgt := 4) dX12_jointsSeen_37 (by decide) ?_
        exact k
      · have k := k.2 hb
        refine zr_iload_n dX12_jointsSeen_30 rfl rfl ?_
        refine zr_iconst (v := 1) dX12_jointsSeen_31 (by decide) ?_
        refine zr_iadd dX12_jointsSeen_32 ?_
        refine zr_istore_n dX12_jointsSeen_33 rfl (Nat.le_of_ble_eq_true rfl) rfl ?_
        refine zr_iinc (v := (v3 + 1)) dX12_jointsSeen_34 rfl rfl (Nat.le_of_ble_eq_true rfl) rfl ?_
        refine zr_goto (tgt := 4) dX12_jointsSeen_37 (by decide) ?_
        exact k
set_option maxHeartbeats 2000000 in
theorem vX12_of_0 {G : Gp} {bc bs : Nat} {Q : zPost} {S : zSh} {I : zFI} {L : zFL} {v1 : Int32} {v2 : Int32} (hS : zStd S)  (k : (¬ v1 < 0 → ¬ ((u2 I 84 0 (0 : Int32)) 84 3) ≤ v1 → vp_in v1 16) ∧ ((¬ (p_X12_isTimber (u2 I 84 0 (0 : Int32)) v1) = 0 → ((¬ v2 = 0 → ((¬ v2 = (1 : Int32) → ((¬ v2 = (2 : Int32) → ((¬ v2 = (3 : Int32) → ((¬ v2 = (4 : Int32) → ((¬ v2 = (5 : Int32) → ((¬ v2 = (6 : Int32) → Q (some (.int (-1 : Int32))) S (u2 I 84 0 (0 : Int32)) L) ∧ (v2 = (6 : Int32) → vp_in v1 16 ∧ Q (some (.int (I 87 v1.toNatClampNeg))) S (u2 I 84 0 (0 : Int32)) L))) ∧ (v2 = (5 : Int32) → vp_in v1 16 ∧ (((I 93 v1.toNatClampNeg) = 0 → Q (some (.int (0 : Int32))) S (u2 I 84 0 (0 : Int32)) L) ∧ (¬ (I 93 v1.toNatClampNeg) = 0 → Q (some (.int (1 : Int32))) S (u2 I 84 0 (0 : Int32)) L))))) ∧ (v2 = (4 : Int32) → vp_in v1 16 ∧ Q (some (.int (I 92 v1.toNatClampNeg))) S (u2 I 84 0 (0 : Int32)) L))) ∧ (v2 = (3 : Int32) → ZC G mX12_ringsSeen fX12_ringsSeen lX12_ringsSeen [zo G 84, .int v1] S (u2 I 84 0 (0 : Int32)) L 0 0 (fun w S' I1 L1 => ∃ r1 : Int32, w = some (.int r1) ∧ S = S' ∧ Q (some (.int r1)) S I1 L1)))) ∧ (v2 = (2 : Int32) → ZC G mX12_jointsSeen fX12_jointsSeen lX12_jointsSeen [zo G 84, .int v1] S (u2 I 84 0 (0 : Int32)) L 0 0 (fun w S' I2 L2 => ∃ r2 : Int32, w = some (.int r2) ∧ S = S' ∧ Q (some (.int r2)) S I2 L2)))) ∧ (v2 = (1 : Int32) → vp_in v1 16 ∧ Q (some (.int (I 86 v1.toNatClampNeg))) S (u2 I 84 0 (0 : Int32)) L))) ∧ (v2 = 0 → vp_in v1 16 ∧ Q (some (.int (I 85 v1.toNatClampNeg))) S (u2 I 84 0 (0 : Int32)) L))) ∧ ((p_X12_isTimber (u2 I 84 0 (0 : Int32)) v1) = 0 → Q (some (.int (-1 : Int32))) S (u2 I 84 0 (0 : Int32)) L))) : ZW G mX12_of fX12_of lX12_of 0 [zo G 84, .int v1, .int v2] [] S I L bc bs Q := by
  refine zr_aload_n dX12_of_0 rfl rfl ?_
  refine zr_iconst (v := 0) dX12_of_1 (by decide) ?_
  refine zr_putI dX12_of_2 zf_X12_188 rfl (hS.has (a := 84) rfl rfl) rfl rfl ?_
  refine zr_aload_n dX12_of_5 rfl rfl ?_
  refine zr_iload_n dX12_of_6 rfl rfl ?_
  refine zr_callV (As := [.int v1]) (fr' := fX12_isTimber) (lo' := lX12_isTimber) (bc' := 0) (bs' := 0) (bcr := bc) (bsr := bs) dX12_of_7 zs_X12_289 zi_X12_isTimber zcl_12 (hS.has (a := 84) rfl rfl) rfl rfl (Nat.le_of_ble_eq_true rfl) (Nat.le_of_ble_eq_true rfl) (Nat.le_of_ble_eq_true rfl) (Nat.le_refl _) (Nat.le_refl _) ?_
  obtain ⟨hq0, k⟩ := k
  refine sp_X12_isTimber hS hq0 ?_
  show ZW G mX12_of fX12_of lX12_of 10 [zo G 84, .int v1, .int v2] [.int (p_X12_isTimber (u2 I 84 0 (0 : Int32)) v1)] S (u2 I 84 0 (0 : Int32)) L bc bs Q
  refine zr_ifne (tgt := 15) dX12_of_10 (by decide) (fun hb => ?_) (fun hb => ?_)
  · have k := k.1 hb
    refine zr_iload_n dX12_of_15 rfl rfl ?_
    refine zr_ifne (tgt := 26) dX12_of_16 (by decide) (fun hb => ?_) (fun hb => ?_)
    · have k := k.1 hb
      refine zr_iload_n dX12_of_26 rfl rfl ?_
      refine zr_iconst (v := 1) dX12_of_27 (by decide) ?_
      refine zr_icne (tgt := 38) dX12_of_28 (by decide) (fun hb => ?_) (fun hb => ?_)
      · have k := k.1 hb
        refine zr_iload_n dX12_of_38 rfl rfl ?_
        refine zr_iconst (v := 2) dX12_of_39 (by decide) ?_
        refine zr_icne (tgt := 49) dX12_of_40 (by decide) (fun hb => ?_) (fun hb => ?_)
        · have k := k.1 hb
          refine zr_iload_n dX12_of_49 rfl rfl ?_
          refine zr_iconst (v := 3) dX12_of_50 (by decide) ?_
          refine zr_icne (tgt := 60) dX12_of_51 (by decide) (fun hb => ?_) (fun hb => ?_)
          · have k := k.1 hb
            refine zr_iload_n dX12_of_60 rfl rfl ?_
            refine zr_iconst (v := 4) dX12_of_61 (by decide) ?_
            refine zr_icne (tgt := 72) dX12_of_62 (by decide) (fun hb => ?_) (fun hb => ?_)
            · have k := k.1 hb
              refine zr_iload_n dX12_of_72 rfl rfl ?_
              refine zr_iconst (v := 5) dX12_of_73 (by decide) ?_
              refine zr_icne (tgt := 92) dX12_of_74 (by decide) (fun hb => ?_) (fun hb => ?_)
              · have k := k.1 hb
                refine zr_iload_n dX12_of_92 rfl rfl ?_
                refine zr_bipush (v := 6) dX12_of_93 (by decide) ?_
                refine zr_icne (tgt := 107) dX12_of_95 (by decide) (fun hb => ?_) (fun hb => ?_)
                · have k := k.1 hb
                  refine zr_iconst (v := -1) dX12_of_107 (by decide) ?_
                  exact zr_ireturn dX12_of_108 rfl rfl k
                · have k := k.2 hb
                  refine zr_aload_n dX12_of_98 rfl rfl ?_
                  refine zr_getR dX12_of_99 zf_X12_20 rfl (hS.has (a := 84) rfl rfl) (hS.ref (a := 87) rfl) ?_
                  refine zr_iload_n dX12_of_102 rfl rfl ?_
                  obtain ⟨hi1, k⟩ := k
                  refine zr_ialdv (x := (I 87 v1.toNatClampNeg)) dX12_of_103 (hS.has (a := 87) rfl rfl) hi1 rfl ?_
                  refine zr_goto (tgt := 108) dX12_of_104 (by decide) ?_
                  exact zr_ireturn dX12_of_108 rfl rfl k
              · have k := k.2 hb
                refine zr_aload_n dX12_of_77 rfl rfl ?_
                refine zr_getR dX12_of_78 zf_X12_38 rfl (hS.has (a := 84) rfl rfl) (hS.ref (a := 93) rfl) ?_
                refine zr_iload_n dX12_of_81 rfl rfl ?_
                obtain ⟨hi2, k⟩ := k
                refine zr_zaldv (x := (I 93 v1.toNatClampNeg)) dX12_of_82 (hS.has (a := 93) rfl rfl) hi2 rfl ?_
                refine zr_ifeq (tgt := 90) dX12_of_83 (by decide) (fun hb => ?_) (fun hb => ?_)
                · have k := k.1 hb
                  refine zr_iconst (v := 0) dX12_of_90 (by decide) ?_
                  exact zr_ireturn dX12_of_91 rfl rfl k
                · have k := k.2 hb
                  refine zr_iconst (v := 1) dX12_of_86 (by decide) ?_
                  refine zr_goto (tgt := 91) dX12_of_87 (by decide) ?_
                  exact zr_ireturn dX12_of_91 rfl rfl k
            · have k := k.2 hb
              refine zr_aload_n dX12_of_65 rfl rfl ?_
              refine zr_getR dX12_of_66 zf_X12_35 rfl (hS.has (a := 84) rfl rfl) (hS.ref (a := 92) rfl) ?_
              refine zr_iload_n dX12_of_69 rfl rfl ?_
              obtain ⟨hi3, k⟩ := k
              refine zr_ialdv (x := (I 92 v1.toNatClampNeg)) dX12_of_70 (hS.has (a := 92) rfl rfl) hi3 rfl ?_
              exact zr_ireturn dX12_of_71 rfl rfl k
          · have k := k.2 hb
            refine zr_aload_n dX12_of_54 rfl rfl ?_
            refine zr_iload_n dX12_of_55 rfl rfl ?_
            refine zr_callV (As := [.int v1]) (fr' := fX12_ringsSeen) (lo' := lX12_ringsSeen) (bc' := 0) (bs' := 0) (bcr := bc) (bsr := bs) dX12_of_56 zs_X12_295 zi_X12_ringsSeen zcl_12 (hS.has (a := 84) rfl rfl) rfl rfl (Nat.le_of_ble_eq_true rfl) (Nat.le_of_ble_eq_true rfl) (Nat.le_of_ble_eq_true rfl) (Nat.le_refl _) (Nat.le_refl _) ?_
            refine ZC.mono (fun w S' I1 L1 k => ?_) k
            obtain ⟨r1, rfl, rfl, k⟩ := k
            show ZW G mX12_of fX12_of lX12_of 59 [zo G 84, .int v1, .int v2] [.int r1] S I1 L1 bc bs Q
            exact zr_ireturn dX12_of_59 rfl rfl k
        · have k := k.2 hb
          refine zr_aload_n dX12_of_43 rfl rfl ?_
          refine zr_iload_n dX12_of_44 rfl rfl ?_
          refine zr_callV (As := [.int v1]) (fr' := fX12_jointsSeen) (lo' := lX12_jointsSeen) (bc' := 0) (bs' := 0) (bcr := bc) (bsr := bs) dX12_of_45 zs_X12_292 zi_X12_jointsSeen zcl_12 (hS.has (a := 84) rfl rfl) rfl rfl (Nat.le_of_ble_eq_true rfl) (Nat.le_of_ble_eq_true rfl) (Nat.le_of_ble_eq_true rfl) (Nat.le_refl _) (Nat.le_refl _) ?_
          refine ZC.mono (fun w S' I2 L2 k => ?_) k
          obtain ⟨r2, rfl, rfl, k⟩ := k
          show ZW G mX12_of fX12_of lX12_of 48 [zo G 84, .int v1, .int v2] [.int r2] S I2 L2 bc bs Q
          exact zr_ireturn dX12_of_48 rfl rfl k
      · have k := k.2 hb
        refine zr_aload_n dX12_of_31 rfl rfl ?_
        refine zr_getR dX12_of_32 zf_X12_17 rfl (hS.has (a := 84) rfl rfl) (hS.ref (a := 86) rfl) ?_
        refine zr_iload_n dX12_of_35 rfl rfl ?_
        obtain ⟨hi4, k⟩ := k
        refine zr_ialdv (x := (I 86 v1.toNatClampNeg)) dX12_of_36 (hS.has (a := 86) rfl rfl) hi4 rfl ?_
        exact zr_ireturn dX12_of_37 rfl rfl k
    · have k := k.2 hb
      refine zr_aload_n dX12_of_19 rfl rfl ?_
      refine zr_getR dX12_of_20 zf_X12_13 rfl (hS.has (a := 84) rfl rfl) (hS.ref (a := 85) rfl) ?_
      refine zr_iload_n dX12_of_23 rfl rfl ?_
      obtain ⟨hi5, k⟩ := k
      refine zr_ialdv (x := (I 85 v1.toNatClampNeg)) dX12_of_24 (hS.has (a := 85) rfl rfl) hi5 rfl ?_
      exact zr_ireturn dX12_of_25 rfl rfl k
  · have k := k.2 hb
    refine zr_iconst (v := -1) dX12_of_13 (by decide) ?_
    exact zr_ireturn dX12_of_14 rfl rfl k
set_option maxHeartbeats 2000000 in
theorem vX12_at_0 {G : Gp} {bc bs : Nat} {Q : zPost} {S : zSh} {I : zFI} {L : zFL} {v1 : Int32} {v2 : Int32} (hS : zStd S)  (k : (¬ v1 < 0 → ¬ ((u2 I 84 0 (0 : Int32)) 84 13) ≤ v1 → vp_in v1 48) ∧ ((¬ (p_X12_isJoint (u2 I 84 0 (0 : Int32)) v1) = 0 → ((¬ v2 = 0 → ((¬ v2 = (1 : Int32) → ((¬ v2 = (2 : Int32) → ((¬ v2 = (3 : Int32) → ((¬ v2 = (4 : Int32) → ((¬ v2 = (5 : Int32) → ZC G mX12_signsOf fX12_signsOf lX12_signsOf [zo G 84, .int v1] S (u2 I 84 0 (0 : Int32)) L 0 0 (fun w S' I1 L1 => ∃ r1 : Int32, w = some (.int r1) ∧ S = S' ∧ (((p_X12_isIn v2 (10 : Int32) ((9 : Int32) + r1)) = 0 → Q (some (.int (-1 : Int32))) S I1 L1) ∧ (¬ (p_X12_isIn v2 (10 : Int32) ((9 : Int32) + r1)) = 0 → ZC G mX12_markOf fX12_markOf lX12_markOf [zo G 84, .int v1] S I1 L1 0 0 (fun w S' I2 L2 => ∃ r2 : Int32, w = some (.int r2) ∧ S = S' ∧ vp_in ((((6 : Int32) * r2) + v2) - (10 : Int32)) 1200 ∧ Q (some (.int (I2 103 ((((6 : Int32) * r2) + v2) - (10 : Int32)).toNatClampNeg))) S I2 L2))))) ∧ (v2 = (5 : Int32) → ZC G mX12_sideOf fX12_sideOf lX12_sideOf [zo G 84, .int v1] S (u2 I 84 0 (0 : Int32)) L 0 0 (fun w S' I3 L3 => ∃ r3 : Int32, w = some (.int r3) ∧ S = S' ∧ Q (some (.int r3)) S I3 L3)))) ∧ (v2 = (4 : Int32) → ZC G mX12_signsOf fX12_signsOf lX12_signsOf [zo G 84, .int v1] S (u2 I 84 0 (0 : Int32)) L 0 0 (fun w S' I4 L4 => ∃ r4 : Int32, w = some (.int r4) ∧ S = S' ∧ Q (some (.int r4)) S I4 L4)))) ∧ (v2 = (3 : Int32) → vp_in v1 48 ∧ Q (some (.int (I 97 v1.toNatClampNeg))) S (u2 I 84 0 (0 : Int32)) L))) ∧ (v2 = (2 : Int32) → vp_in v1 48 ∧ Q (some (.int (I 96 v1.toNatClampNeg))) S (u2 I 84 0 (0 : Int32)) L))) ∧ (v2 = (1 : Int32) → vp_in v1 48 ∧ Q (some (.int (I 95 v1.toNatClampNeg))) S (u2 I 84 0 (0 : Int32)) L))) ∧ (v2 = 0 → vp_in v1 48 ∧ Q (some (.int (I 94 v1.toNatClampNeg))) S (u2 I 84 0 (0 : Int32)) L))) ∧ ((p_X12_isJoint (u2 I 84 0 (0 : Int32)) v1) = 0 → Q (some (.int (-1 : Int32))) S (u2 I 84 0 (0 : Int32)) L))) : ZW G mX12_at fX12_at lX12_at 0 [zo G 84, .int v1, .int v2] [] S I L bc bs Q := by
  refine zr_aload_n dX12_at_0 rfl rfl ?_
  refine zr_iconst (v := 0) dX12_at_1 (by decide) ?_
  refine zr_putI dX12_at_2 zf_X12_188 rfl (hS.has (a := 84) rfl rfl) rfl rfl ?_
  refine zr_aload_n dX12_at_5 rfl rfl ?_
  refine zr_iload_n dX12_at_6 rfl rfl ?_
  refine zr_callV (As := [.int v1]) (fr' := fX12_isJoint) (lo' := lX12_isJoint) (bc' := 0) (bs' := 0) (bcr := bc) (bsr := bs) dX12_at_7 zs_X12_286 zi_X12_isJoint zcl_12 (hS.has (a := 84) rfl rfl) rfl rfl (Nat.le_of_ble_eq_true rfl) (Nat.le_of_ble_eq_true rfl) (Nat.le_of_ble_eq_true rfl) (Nat.le_refl _) (Nat.le_refl _) ?_
  obtain ⟨hq0, k⟩ := k
  refine sp_X12_isJoint hS hq0 ?_
  show ZW G mX12_at fX12_at lX12_at 10 [zo G 84, .int v1, .int v2] [.int (p_X12_isJoint (u2 I 84 0 (0 : Int32)) v1)] S (u2 I 84 0 (0 : Int32)) L bc bs Q
  refine zr_ifne (tgt := 15) dX12_at_10 (by decide) (fun hb => ?_) (fun hb => ?_)
  · have k := k.1 hb
    refine zr_iload_n dX12_at_15 rfl rfl ?_
    refine zr_ifne (tgt := 26) dX12_at_16 (by decide) (fun hb => ?_) (fun hb => ?_)
    · have k := k.1 hb
      refine zr_iload_n dX12_at_26 rfl rfl ?_
      refine zr_iconst (v := 1) dX12_at_27 (by decide) ?_
      refine zr_icne (tgt := 38) dX12_at_28 (by decide) (fun hb => ?_) (fun hb => ?_)
      · have k := k.1 hb
        refine zr_iload_n dX12_at_38 rfl rfl ?_
        refine zr_iconst (v := 2) dX12_at_39 (by decide) ?_
        refine zr_icne (tgt := 50) dX12_at_40 (by decide) (fun hb => ?_) (fun hb => ?_)
        · have k := k.1 hb
          refine zr_iload_n dX12_at_50 rfl rfl ?_
          refine zr_iconst (v := 3) dX12_at_51 (by decide) ?_
          refine zr_icne (tgt := 62) dX12_at_52 (by decide) (fun hb => ?_) (fun hb => ?_)
          · have k := k.1 hb
            refine zr_iload_n dX12_at_62 rfl rfl ?_
            refine zr_iconst (v := 4) dX12_at_63 (by decide) ?_
            refine zr_icne (tgt := 73) dX12_at_64 (by decide) (fun hb => ?_) (fun hb => ?_)
            · have k := k.1 hb
              refine zr_iload_n dX12_at_73 rfl rfl ?_
              refine zr_iconst (v := 5) dX12_at_74 (by decide) ?_
              refine zr_icne (tgt := 84) dX12_at_75 (by decide) (fun hb => ?_) (fun hb => ?_)
              · have k := k.1 hb
                refine zr_aload_n dX12_at_84 rfl rfl ?_
                refine zr_iload_n dX12_at_85 rfl rfl ?_
                refine zr_bipush (v := 10) dX12_at_86 (by decide) ?_
                refine zr_bipush (v := 9) dX12_at_88 (by decide) ?_
                refine zr_aload_n dX12_at_90 rfl rfl ?_
                refine zr_iload_n dX12_at_91 rfl rfl ?_
                refine zr_callV (As := [.int v1]) (fr' := fX12_signsOf) (lo' := lX12_signsOf) (bc' := 0) (bs' := 0) (bcr := bc) (bsr := bs) dX12_at_92 zs_X12_298 zi_X12_signsOf zcl_12 (hS.has (a := 84) rfl rfl) rfl rfl (Nat.le_of_ble_eq_true rfl) (Nat.le_of_ble_eq_true rfl) (Nat.le_of_ble_eq_true rfl) (Nat.le_refl _) (Nat.le_refl _) ?_
                refine ZC.mono (fun w S' I1 L1 k => ?_) k
                obtain ⟨r1, rfl, rfl, k⟩ := k
                show ZW G mX12_at fX12_at lX12_at 95 [zo G 84, .int v1, .int v2] [.int r1, .int (9 : Int32), .int (10 : Int32), .int v2, zo G 84] S I1 L1 bc bs Q
                refine zr_iadd dX12_at_95 ?_
                refine zr_callV (As := [.int v2, .int (10 : Int32), .int ((9 : Int32) + r1)]) (fr' := fX12_isIn) (lo' := lX12_isIn) (bc' := 0) (bs' := 0) (bcr := bc) (bsr := bs) dX12_at_96 zs_X12_201 zi_X12_isIn zcl_12 (hS.has (a := 84) rfl rfl) rfl rfl (Nat.le_of_ble_eq_true rfl) (Nat.le_of_ble_eq_true rfl) (Nat.le_of_ble_eq_true rfl) (Nat.le_refl _) (Nat.le_refl _) ?_
                refine sp_X12_isIn hS  ?_
                show ZW G mX12_at fX12_at lX12_at 99 [zo G 84, .int v1, .int v2] [.int (p_X12_isIn v2 (10 : Int32) ((9 : Int32) + r1))] S I1 L1 bc bs Q
                refine zr_ifeq (tgt := 123) dX12_at_99 (by decide) (fun hb => ?_) (fun hb => ?_)
                · have k := k.1 hb
                  refine zr_iconst (v := -1) dX12_at_123 (by decide) ?_
                  exact zr_ireturn dX12_at_124 rfl rfl k
                · have k := k.2 hb
                  refine zr_aload_n dX12_at_102 rfl rfl ?_
                  refine zr_getR dX12_at_103 zf_X12_69 rfl (hS.has (a := 84) rfl rfl) (hS.ref (a := 103) rfl) ?_
                  refine zr_bipush (v := 6) dX12_at_106 (by decide) ?_
                  refine zr_aload_n dX12_at_108 rfl rfl ?_
                  refine zr_iload_n dX12_at_109 rfl rfl ?_
                  refine zr_callV (As := [.int v1]) (fr' := fX12_markOf) (lo' := lX12_markOf) (bc' := 0) (bs' := 0) (bcr := bc) (bsr := bs) dX12_at_110 zs_X12_221 zi_X12_markOf zcl_12 (hS.has (a := 84) rfl rfl) rfl rfl (Nat.le_of_ble_eq_true rfl) (Nat.le_of_ble_eq_true rfl) (Nat.le_of_ble_eq_true rfl) (Nat.le_refl _) (Nat.le_refl _) ?_
                  refine ZC.mono (fun w S' I2 L2 k => ?_) k
                  obtain ⟨r2, rfl, rfl, k⟩ := k
                  show ZW G mX12_at fX12_at lX12_at 113 [zo G 84, .int v1, .int v2] [.int r2, .int (6 : Int32), zo G 103] S I2 L2 bc bs Q
                  refine zr_imul dX12_at_113 ?_
                  refine zr_iload_n dX12_at_114 rfl rfl ?_
                  refine zr_iadd dX12_at_115 ?_
                  refine zr_bipush (v := 10) dX12_at_116 (by decide) ?_
                  refine zr_isub dX12_at_118 ?_
                  obtain ⟨hi1, k⟩ := k
                  refine zr_ialdv (x := (I2 103 ((((6 : Int32) * r2) + v2) - (10 : Int32)).toNatClampNeg)) dX12_at_119 (hS.has (a := 103) rfl rfl) hi1 rfl ?_
                  refine zr_goto (tgt := 124) dX12_at_120 (by decide) ?_
                  exact zr_ireturn dX12_at_124 rfl rfl k
              · have k := k.2 hb
                refine zr_aload_n dX12_at_78 rfl rfl ?_
                refine zr_iload_n dX12_at_79 rfl rfl ?_
                refine zr_callV (As := [.int v1]) (fr' := fX12_sideOf) (lo' := lX12_sideOf) (bc' := 0) (bs' := 0) (bcr := bc) (bsr := bs) dX12_at_80 zs_X12_301 zi_X12_sideOf zcl_12 (hS.has (a := 84) rfl rfl) rfl rfl (Nat.le_of_ble_eq_true rfl) (Nat.le_of_ble_eq_true rfl) (Nat.le_of_ble_eq_true rfl) (Nat.le_refl _) (Nat.le_refl _) ?_
                refine ZC.mono (fun w S' I3 L3 k => ?_) k
                obtain ⟨r3, rfl, rfl, k⟩ := k
                show ZW G mX12_at fX12_at lX12_at 83 [zo G 84, .int v1, .int v2] [.int r3] S I3 L3 bc bs Q
                exact zr_ireturn dX12_at_83 rfl rfl k
            · have k := k.2 hb
              refine zr_aload_n dX12_at_67 rfl rfl ?_
              refine zr_iload_n dX12_at_68 rfl rfl ?_
              refine zr_callV (As := [.int v1]) (fr' := fX12_signsOf) (lo' := lX12_signsOf) (bc' := 0) (bs' := 0) (bcr := bc) (bsr := bs) dX12_at_69 zs_X12_298 zi_X12_signsOf zcl_12 (hS.has (a := 84) rfl rfl) rfl rfl (Nat.le_of_ble_eq_true rfl) (Nat.le_of_ble_eq_true rfl) (Nat.le_of_ble_eq_true rfl) (Nat.le_refl _) (Nat.le_refl _) ?_
              refine ZC.mono (fun w S' I4 L4 k => ?_) k
              obtain ⟨r4, rfl, rfl, k⟩ := k
              show ZW G mX12_at fX12_at lX12_at 72 [zo G 84, .int v1, .int v2] [.int r4] S I4 L4 bc bs Q
              exact zr_ireturn dX12_at_72 rfl rfl k
          · have k := k.2 hb
            refine zr_aload_n dX12_at_55 rfl rfl ?_
            refine zr_getR dX12_at_56 zf_X12_51 rfl (hS.has (a := 84) rfl rfl) (hS.ref (a := 97) rfl) ?_
            refine zr_iload_n dX12_at_59 rfl rfl ?_
            obtain ⟨hi2, k⟩ := k
            refine zr_ialdv (x := (I 97 v1.toNatClampNeg)) dX12_at_60 (hS.has (a := 97) rfl rfl) hi2 rfl ?_
            exact zr_ireturn dX12_at_61 rfl rfl k
        · have k := k.2 hb
          refine zr_aload_n dX12_at_43 rfl rfl ?_
          refine zr_getR dX12_at_44 zf_X12_48 rfl (hS.has (a := 84) rfl rfl) (hS.ref (a := 96) rfl) ?_
          refine zr_iload_n dX12_at_47 rfl rfl ?_
          obtain ⟨hi3, k⟩ := k
          refine zr_ialdv (x := (I 96 v1.toNatClampNeg)) dX12_at_48 (hS.has (a := 96) rfl rfl) hi3 rfl ?_
          exact zr_ireturn dX12_at_49 rfl rfl k
      · have k := k.2 hb
        refine zr_aload_n dX12_at_31 rfl rfl ?_
        refine zr_getR dX12_at_32 zf_X12_45 rfl (hS.has (a := 84) rfl rfl) (hS.ref (a := 95) rfl) ?_
        refine zr_iload_n dX12_at_35 rfl rfl ?_
        obtain ⟨hi4, k⟩ := k
        refine zr_ialdv (x := (I 95 v1.toNatClampNeg)) dX12_at_36 (hS.has (a := 95) rfl rfl) hi4 rfl ?_
        exact zr_ireturn dX12_at_37 rfl rfl k
    · have k := k.2 hb
      refine zr_aload_n dX12_at_19 rfl rfl ?_
      refine zr_getR dX12_at_20 zf_X12_42 rfl (hS.has (a := 84) rfl rfl) (hS.ref (a := 94) rfl) ?_
      refine zr_iload_n dX12_at_23 rfl rfl ?_
      obtain ⟨hi5, k⟩ := k
      refine zr_ialdv (x := (I 94 v1.toNatClampNeg)) dX12_at_24 (hS.has (a := 94) rfl rfl) hi5 rfl ?_
      exact zr_ireturn dX12_at_25 rfl rfl k
  · have k := k.2 hb
    refine zr_iconst (v := -1) dX12_at_13 (by decide) ?_
    exact zr_ireturn dX12_at_14 rfl rfl k
set_option maxHeartbeats 2000000 in
theorem vX12_adds_0 {G : Gp} {bc bs : Nat} {Q : zPost} {S : zSh} {I : zFI} {L : zFL} {v1 : Int32} {v2 : Int32} (hS : zStd S)  (k : ZW G mX12_adds fX12_adds lX12_adds 2 [zo G 84, .int v1, .int v2, .int (0 : Int32)] [] S I L bc bs Q) : ZW G mX12_adds fX12_adds lX12_adds 0 [zo G 84, .int v1, .int v2, .null] [] S I L bc bs Q := by
  refine zr_iconst (v := 0) dX12_adds_0 (by decide) ?_
  refine zr_istore_n dX12_adds_1 rfl (Nat.le_of_ble_eq_true rfl) rfl ?_
  exact k
set_option maxHeartbeats 2000000 in
theorem vX12_adds_2 {G : Gp} {bc bs : Nat} {Q : zPost} {S : zSh} {I : zFI} {L : zFL} {v1 : Int32} {v2 : Int32} {v3 : Int32} (hS : zStd S)  (k : ((v2 ≤ v3 → Q none S I L) ∧ (¬ v2 ≤ v3 → vp_in (I 84 39) 12 ∧ ZW G mX12_adds fX12_adds lX12_adds 2 [zo G 84, .int v1, .int v2, .int (v3 + 1)] [] S (u2 (u2 I 107 (I 84 39).toNatClampNeg v1) 84 39 ((I 84 39) + (1 : Int32))) L bc bs Q))) : ZW G mX12_adds fX12_adds lX12_adds 2 [zo G 84, .int v1, .int v2, .int v3] [] S I L bc bs Q := by
  refine zr_iload_n dX12_adds_2 rfl rfl ?_
  refine zr_iload_n dX12_adds_3 rfl rfl ?_
  refine zr_icge (tgt := 33) dX12_adds_4 (by decide) (fun hb => ?_) (fun hb => ?_)
  · have k := k.1 hb
    exact zr_return_ dX12_adds_33 rfl k
  · have k := k.2 hb
    refine zr_aload_n dX12_adds_7 rfl rfl ?_
    refine zr_getR dX12_adds_8 zf_X12_84 rfl (hS.has (a := 84) rfl rfl) (hS.ref (a := 107) rfl) ?_
    refine zr_aload_n dX12_adds_11 rfl rfl ?_
    refine zr_getIv (x := (I 84 39)) dX12_adds_12 zf_X12_304 rfl (hS.has (a := 84) rfl rfl) rfl ?_
    refine zr_iload_n dX12_adds_15 rfl rfl ?_
    obtain ⟨hi1, k⟩ := k
    refine zr_iast dX12_adds_16 (hS.has (a := 107) rfl rfl) hi1 ?_
    refine zr_aload_n dX12_adds_17 rfl rfl ?_
    refine zr_aload_n dX12_adds_18 rfl rfl ?_
    refine zr_getIv (x := (I 84 39)) dX12_adds_19 zf_X12_304 rfl (hS.has (a := 84) rfl rfl) rfl ?_
    refine zr_iconst (v := 1) dX12_adds_22 (by decide) ?_
    refine zr_iadd dX12_adds_23 ?_
    refine zr_putI dX12_adds_24 zf_X12_304 rfl (hS.has (a := 84) rfl rfl) rfl rfl ?_
    refine zr_iinc (v := (v3 + 1)) dX12_adds_27 rfl rfl (Nat.le_of_ble_eq_true rfl) rfl ?_
    refine zr_goto (tgt := 2) dX12_adds_30 (by decide) ?_
    exact k
set_option maxHeartbeats 2000000 in
theorem vX12_writes_0 {G : Gp} {bc bs : Nat} {Q : zPost} {S : zSh} {I : zFI} {L : zFL} {v1 : Int32} {v2 : Int32} (hS : zStd S)  (k : ZC G mX12_adds fX12_adds lX12_adds [zo G 84, .int (88 : Int32), .int (v1 / (10 : Int32))] S (u2 I 84 39 (0 : Int32)) L 0 0 (fun w S' I1 L1 => w = none ∧ S = S' ∧ ((v2 = 0 → ZC G mX12_adds fX12_adds lX12_adds [zo G 84, .int (86 : Int32), .int ((v1 - v1 / (10 : Int32) * (10 : Int32)) / (5 : Int32))] S I1 L1 0 0 (fun w S' I2 L2 => w = none ∧ S = S' ∧ ZC G mX12_adds fX12_adds lX12_adds [zo G 84, .int (73 : Int32), .int ((v1 - v1 / (10 : Int32) * (10 : Int32)) - (v1 - v1 / (10 : Int32) * (10 : Int32)) / (5 : Int32) * (5 : Int32))] S I2 L2 0 0 (fun w S' I3 L3 => w = none ∧ S = S' ∧ Q none S I3 L3))) ∧ (¬ v2 = 0 → (((v1 - v1 / (10 : Int32) * (10 : Int32)) = (4 : Int32) → ZC G mX12_adds fX12_adds lX12_adds [zo G 84, .int (73 : Int32), .int (1 : Int32)] S I1 L1 0 0 (fun w S' I4 L4 => w = none ∧ S = S' ∧ ((¬ (v1 - v1 / (10 : Int32) * (10 : Int32)) = (4 : Int32) → ZC G mX12_adds fX12_adds lX12_adds [zo G 84, .int (88 : Int32), .int (1 : Int32)] S I4 L4 0 0 (fun w S' I5 L5 => w = none ∧ S = S' ∧ Q none S I5 L5)) ∧ ((v1 - v1 / (10 : Int32) * (10 : Int32)) = (4 : Int32) → ZC G mX12_adds fX12_adds lX12_adds [zo G 84, .int (86 : Int32), .int (1 : Int32)] S I4 L4 0 0 (fun w S' I6 L6 => w = none ∧ S = S' ∧ Q none S I6 L6))))) ∧ (¬ (v1 - v1 / (10 : Int32) * (10 : Int32)) = (4 : Int32) → ((¬ (v1 - v1 / (10 : Int32) * (10 : Int32)) = (9 : Int32) → ZC G mX12_adds fX12_adds lX12_adds [zo G 84, .int (86 : Int32), .int ((v1 - v1 / (10 : Int32) * (10 : Int32)) / (5 : Int32))] S I1 L1 0 0 (fun w S' I7 L7 => w = none ∧ S = S' ∧ ZC G mX12_adds fX12_adds lX12_adds [zo G 84, .int (73 : Int32), .int ((v1 - v1 / (10 : Int32) * (10 : Int32)) - (v1 - v1 / (10 : Int32) * (10 : Int32)) / (5 : Int32) * (5 : Int32))] S I7 L7 0 0 (fun w S' I8 L8 => w = none ∧ S = S' ∧ Q none S I8 L8))) ∧ ((v1 - v1 / (10 : Int32) * (10 : Int32)) = (9 : Int32) → ZC G mX12_adds fX12_adds lX12_adds [zo G 84, .int (73 : Int32), .int (1 : Int32)] S I1 L1 0 0 (fun w S' I9 L9 => w = none ∧ S = S' ∧ ((¬ (v1 - v1 / (10 : Int32) * (10 : Int32)) = (4 : Int32) → ZC G mX12_adds fX12_adds lX12_adds [zo G 84, .int (88 : Int32), .int (1 : Int32)] S I9 L9 0 0 (fun w S' I10 L10 => w = none ∧ S = S' ∧ Q none S I10 L10)) ∧ ((v1 - v1 / (10 : Int32) * (10 : Int32)) = (4 : Int32) → ZC G mX12_adds fX12_adds lX12_adds [zo G 84, .int (86 : Int32), .int (1 : Int32)] S I9 L9 0 0 (fun w S' I11 L11 => w = none ∧ S = S' ∧ Q none S I11 L11)))))))))))) : ZW G mX12_writes fX12_writes lX12_writes 0 [zo G 84, .int v1, .int v2, .null] [] S I L bc bs Q := by
  refine zr_aload_n dX12_writes_0 rfl rfl ?_
  refine zr_iconst (v := 0) dX12_writes_1 (by decide) ?_
  refine zr_putI dX12_writes_2 zf_X12_304 rfl (hS.has (a := 84) rfl rfl) rfl rfl ?_
  refine zr_aload_n dX12_writes_5 rfl rfl ?_
  refine zr_bipush (v := 88) dX12_writes_6 (by decide) ?_
  refine zr_iload_n dX12_writes_8 rfl rfl ?_
  refine zr_bipush (v := 10) dX12_writes_9 (by decide) ?_
  refine zr_idiv dX12_writes_11 (by decide) ?_
  refine zr_callV (As := [.int (88 : Int32), .int (v1 / (10 : Int32))]) (fr' := fX12_adds) (lo' := lX12_adds) (bc' := 0) (bs' := 0) (bcr := bc) (bsr := bs) dX12_writes_12 zs_X12_307 zi_X12_adds zcl_12 (hS.has (a := 84) rfl rfl) rfl rfl (Nat.le_of_ble_eq_true rfl) (Nat.le_of_ble_eq_true rfl) (Nat.le_of_ble_eq_true rfl) (Nat.le_refl _) (Nat.le_refl _) ?_
  refine ZC.mono (fun w S' I1 L1 k => ?_) k
  obtain ⟨rfl, rfl, k⟩ := k
  show ZW G mX12_writes fX12_writes lX12_writes 15 [zo G 84, .int v1, .int v2, .null] [] S I1 L1 bc bs Q
  refine zr_iload_n dX12_writes_15 rfl rfl ?_
  refine zr_bipush (v := 10) dX12_writes_16 (by decide) ?_
  refine zr_irem dX12_writes_18 (by decide) ?_
  refine zr_istore_n dX12_writes_19 rfl (Nat.le_of_ble_eq_true rfl) rfl ?_
  refine zr_iload_n dX12_writes_20 rfl rfl ?_
  refine zr_ifeq (tgt := 60) dX12_writes_21 (by decide) (fun hb => ?_) (fun hb => ?_)
  · have k := k.1 hb
    refine zr_aload_n dX12_writes_60 rfl rfl ?_
    refine zr_bipush (v := 86) dX12_writes_61 (by decide) ?_
    refine zr_iload_n dX12_writes_63 rfl rfl ?_
    refine zr_iconst (v := 5) dX12_writes_64 (by decide) ?_
    refine zr_idiv dX12_writes_65 (by decide) ?_
    refine zr_callV (As := [.int (86 : Int32), .int ((v1 - v1 / (10 : Int32) * (10 : Int32)) / (5 : Int32))]) (fr' := fX12_adds) (lo' := lX12_adds) (bc' := 0) (bs' := 0) (bcr := bc) (bsr := bs) dX12_writes_66 zs_X12_307 zi_X12_adds zcl_12 (hS.has (a := 84) rfl rfl) rfl rfl (Nat.le_of_ble_eq_true rfl) (Nat.le_of_ble_eq_true rfl) (Nat.le_of_ble_eq_true rfl) (Nat.le_refl _) (Nat.le_refl _) ?_
    refine ZC.mono (fun w S' I2 L2 k => ?_) k
    obtain ⟨rfl, rfl, k⟩ := k
    show ZW G mX12_writes fX12_writes lX12_writes 69 [zo G 84, .int v1, .int v2, .int (v1 - v1 / (10 : Int32) * (10 : Int32))] [] S I2 L2 bc bs Q
    refine zr_aload_n dX12_writes_69 rfl rfl ?_
    refine zr_bipush (v := 73) dX12_writes_70 (by decide) ?_
    refine zr_iload_n dX12_writes_72 rfl rfl ?_
    refine zr_iconst (v := 5) dX12_writes_73 (by decide) ?_
    refine zr_irem dX12_writes_74 (by decide) ?_
    refine zr_callV (As := [.int (73 : Int32), .int ((v1 - v1 / (10 : Int32) * (10 : Int32)) - (v1 - v1 / (10 : Int32) * (10 : Int32)) / (5 : Int32) * (5 : Int32))]) (fr' := fX12_adds) (lo' := lX12_adds) (bc' := 0) (bs' := 0) (bcr := bc) (bsr := bs) dX12_writes_75 zs_X12_307 zi_X12_adds zcl_12 (hS.has (a := 84) rfl rfl) rfl rfl (Nat.le_of_ble_eq_true rfl) (Nat.le_of_ble_eq_true rfl) (Nat.le_of_ble_eq_true rfl) (Nat.le_refl _) (Nat.le_refl _) ?_
    refine ZC.mono (fun w S' I3 L3 k => ?_) k
    obtain ⟨rfl, rfl, k⟩ := k
    show ZW G mX12_writes fX12_writes lX12_writes 78 [zo G 84, .int v1, .int v2, .int (v1 - v1 / (10 : Int32) * (10 : Int32))] [] S I3 L3 bc bs Q
    exact zr_return_ dX12_writes_78 rfl k
  · have k := k.2 hb
    refine zr_iload_n dX12_writes_24 rfl rfl ?_
    refine zr_iconst (v := 4) dX12_writes_25 (by decide) ?_
    refine zr_iceq (tgt := 35) dX12_writes_26 (by decide) (fun hb => ?_) (fun hb => ?_)
    · have k := k.1 hb
      refine zr_aload_n dX12_writes_35 rfl rfl ?_
      refine zr_bipush (v := 73) dX12_writes_36 (by decide) ?_
      refine zr_iconst (v := 1) dX12_writes_38 (by decide) ?_
      refine zr_callV (As := [.int (73 : Int32), .int (1 : Int32)]) (fr' := fX12_adds) (lo' := lX12_adds) (bc' := 0) (bs' := 0) (bcr := bc) (bsr := bs) dX12_writes_39 zs_X12_307 zi_X12_adds zcl_12 (hS.has (a := 84) rfl rfl) rfl rfl (Nat.le_of_ble_eq_true rfl) (Nat.le_of_ble_eq_true rfl) (Nat.le_of_ble_eq_true rfl) (Nat.le_refl _) (Nat.le_refl _) ?_
      refine ZC.mono (fun w S' I4 L4 k => ?_) k
      obtain ⟨rfl, rfl, k⟩ := k
      show ZW G mX12_writes fX12_writes lX12_writes 42 [zo G 84, .int v1, .int v2, .int (v1 - v1 / (10 : Int32) * (10 : Int32))] [] S I4 L4 bc bs Q
      refine zr_aload_n dX12_writes_42 rfl rfl ?_
      refine zr_iload_n dX12_writes_43 rfl rfl ?_
      refine zr_iconst (v := 4) dX12_writes_44 (by decide) ?_
      refine zr_icne (tgt := 53) dX12_writes_45 (by decide) (fun hb => ?_) (fun hb => ?_)
      · have k := k.1 hb
        refine zr_bipush (v := 88) dX12_writes_53 (by decide) ?_
        refine zr_iconst (v := 1) dX12_writes_55 (by decide) ?_
        refine zr_callV (As := [.int (88 : Int32), .int (1 : Int32)]) (fr' := fX12_adds) (lo' := lX12_adds) (bc' := 0) (bs' := 0) (bcr := bc) (bsr := bs) dX12_writes_56 zs_X12_307 zi_X12_adds zcl_12 (hS.has (a := 84) rfl rfl) rfl rfl (Nat.le_of_ble_eq_true rfl) (Nat.le_of_ble_eq_true rfl) (Nat.le_of_ble_eq_true rfl) (Nat.le_refl _) (Nat.le_refl _) ?_
        refine ZC.mono (fun w S' I5 L5 k => ?_) k
        obtain ⟨rfl, rfl, k⟩ := k
        show ZW G mX12_writes fX12_writes lX12_writes 59 [zo G 84, .int v1, .int v2, .int (v1 - v1 / (10 : Int32) * (10 : Int32))] [] S I5 L5 bc bs Q
        exact zr_return_ dX12_writes_59 rfl k
      · have k := k.2 hb
        refine zr_bipush (v := 86) dX12_writes_48 (by decide) ?_
        refine zr_goto (tgt := 55) dX12_writes_50 (by decide) ?_
        refine zr_iconst (v := 1) dX12_writes_55 (by decide) ?_
        refine zr_callV (As := [.int (86 : Int32), .int (1 : Int32)]) (fr' := fX12_adds) (lo' := lX12_adds) (bc' := 0) (bs' := 0) (bcr := bc) (bsr := bs) dX12_writes_56 zs_X12_307 zi_X12_adds zcl_12 (hS.has (a := 84) rfl rfl) rfl rfl (Nat.le_of_ble_eq_true rfl) (Nat.le_of_ble_eq_true rfl) (Nat.le_of_ble_eq_true rfl) (Nat.le_refl _) (Nat.le_refl _) ?_
        refine ZC.mono (fun w S' I6 L6 k => ?_) k
        obtain ⟨rfl, rfl, k⟩ := k
        show ZW G mX12_writes fX12_writes lX12_writes 59 [zo G 84, .int v1, .int v2, .int (v1 - v1 / (10 : Int32) * (10 : Int32))] [] S I6 L6 bc bs Q
        exact zr_return_ dX12_writes_59 rfl k
    · have k := k.2 hb
      refine zr_iload_n dX12_writes_29 rfl rfl ?_
      refine zr_bipush (v := 9) dX12_writes_30 (by decide) ?_
      refine zr_icne (tgt := 60) dX12_writes_32 (by decide) (fun hb => ?_) (fun hb => ?_)
      · have k := k.1 hb
        refine zr_aload_n dX12_writes_60 rfl rfl ?_
        refine zr_bipush (v := 86) dX12_writes_61 (by decide) ?_
        refine zr_iload_n dX12_writes_63 rfl rfl ?_
        refine zr_iconst (v := 5) dX12_writes_64 (by decide) ?_
        refine zr_idiv dX12_writes_65 (by decide) ?_
        refine zr_callV (As := [.int (86 : Int32), .int ((v1 - v1 / (10 : Int32) * (10 : Int32)) / (5 : Int32))]) (fr' := fX12_adds) (lo' := lX12_adds) (bc' := 0) (bs' := 0) (bcr := bc) (bsr := bs) dX12_writes_66 zs_X12_307 zi_X12_adds zcl_12 (hS.has (a := 84) rfl rfl) rfl rfl (Nat.le_of_ble_eq_true rfl) (Nat.le_of_ble_eq_true rfl) (Nat.le_of_ble_eq_true rfl) (Nat.le_refl _) (Nat.le_refl _) ?_
        refine ZC.mono (fun w S' I7 L7 k => ?_) k
        obtain ⟨rfl, rfl, k⟩ := k
        show ZW G mX12_writes fX12_writes lX12_writes 69 [zo G 84, .int v1, .int v2, .int (v1 - v1 / (10 : Int32) * (10 : Int32))] [] S I7 L7 bc bs Q
        refine zr_aload_n dX12_writes_69 rfl rfl ?_
        refine zr_bipush (v := 73) dX12_writes_70 (by decide) ?_
        refine zr_iload_n dX12_writes_72 rfl rfl ?_
        refine zr_iconst (v := 5) dX12_writes_73 (by decide) ?_
        refine zr_irem dX12_writes_74 (by decide) ?_
        refine zr_callV (As := [.int (73 : Int32), .int ((v1 - v1 / (10 : Int32) * (10 : Int32)) - (v1 - v1 / (10 : Int32) * (10 : Int32)) / (5 : Int32) * (5 : Int32))]) (fr' := fX12_adds) (lo' := lX12_adds) (bc' := 0) (bs' := 0) (bcr := bc) (bsr := bs) dX12_writes_75 zs_X12_307 zi_X12_adds zcl_12 (hS.has (a := 84) rfl rfl) rfl rfl (Nat.le_of_ble_eq_true rfl) (Nat.le_of_ble_eq_true rfl) (Nat.le_of_ble_eq_true rfl) (Nat.le_refl _) (Nat.le_refl _) ?_
        refine ZC.mono (fun w S' I8 L8 k => ?_) k
        obtain ⟨rfl, rfl, k⟩ := k
        show ZW G mX12_writes fX12_writes lX12_writes 78 [zo G 84, .int v1, .int v2, .int (v1 - v1 / (10 : Int32) * (10 : Int32))] [] S I8 L8 bc bs Q
        exact zr_return_ dX12_writes_78 rfl k
      · have k := k.2 hb
        refine zr_aload_n dX12_writes_35 rfl rfl ?_
        refine zr_bipush (v := 73) dX12_writes_36 (by decide) ?_
        refine zr_iconst (v := 1) dX12_writes_38 (by decide) ?_
        refine zr_callV (As := [.int (73 : Int32), .int (1 : Int32)]) (fr' := fX12_adds) (lo' := lX12_adds) (bc' := 0) (bs' := 0) (bcr := bc) (bsr := bs) dX12_writes_39 zs_X12_307 zi_X12_adds zcl_12 (hS.has (a := 84) rfl rfl) rfl rfl (Nat.le_of_ble_eq_true rfl) (Nat.le_of_ble_eq_true rfl) (Nat.le_of_ble_eq_true rfl) (Nat.le_refl _) (Nat.le_refl _) ?_
        refine ZC.mono (fun w S' I9 L9 k => ?_) k
        obtain ⟨rfl, rfl, k⟩ := k
        show ZW G mX12_writes fX12_writes lX12_writes 42 [zo G 84, .int v1, .int v2, .int (v1 - v1 / (10 : Int32) * (10 : Int32))] [] S I9 L9 bc bs Q
        refine zr_aload_n dX12_writes_42 rfl rfl ?_
        refine zr_iload_n dX12_writes_43 rfl rfl ?_
        refine zr_iconst (v := 4) dX12_writes_44 (by decide) ?_
        refine zr_icne (tgt := 53) dX12_writes_45 (by decide) (fun hb => ?_) (fun hb => ?_)
        · have k := k.1 hb
          refine zr_bipush (v := 88) dX12_writes_53 (by decide) ?_
          refine zr_iconst (v := 1) dX12_writes_55 (by decide) ?_
          refine zr_callV (As := [.int (88 : Int32), .int (1 : Int32)]) (fr' := fX12_adds) (lo' := lX12_adds) (bc' := 0) (bs' := 0) (bcr := bc) (bsr := bs) dX12_writes_56 zs_X12_307 zi_X12_adds zcl_12 (hS.has (a := 84) rfl rfl) rfl rfl (Nat.le_of_ble_eq_true rfl) (Nat.le_of_ble_eq_true rfl) (Nat.le_of_ble_eq_true rfl) (Nat.le_refl _) (Nat.le_refl _) ?_
          refine ZC.mono (fun w S' I10 L10 k => ?_) k
          obtain ⟨rfl, rfl, k⟩ := k
          show ZW G mX12_writes fX12_writes lX12_writes 59 [zo G 84, .int v1, .int v2, .int (v1 - v1 / (10 : Int32) * (10 : Int32))] [] S I10 L10 bc bs Q
          exact zr_return_ dX12_writes_59 rfl k
        · have k := k.2 hb
          refine zr_bipush (v := 86) dX12_writes_48 (by decide) ?_
          refine zr_goto (tgt := 55) dX12_writes_50 (by decide) ?_
          refine zr_iconst (v := 1) dX12_writes_55 (by decide) ?_
          refine zr_callV (As := [.int (86 : Int32), .int (1 : Int32)]) (fr' := fX12_adds) (lo' := lX12_adds) (bc' := 0) (bs' := 0) (bcr := bc) (bsr := bs) dX12_writes_56 zs_X12_307 zi_X12_adds zcl_12 (hS.has (a := 84) rfl rfl) rfl rfl (Nat.le_of_ble_eq_true rfl) (Nat.le_of_ble_eq_true rfl) (Nat.le_of_ble_eq_true rfl) (Nat.le_refl _) (Nat.le_refl _) ?_
          refine ZC.mono (fun w S' I11 L11 k => ?_) k
          obtain ⟨rfl, rfl, k⟩ := k
          show ZW G mX12_writes fX12_writes lX12_writes 59 [zo G 84, .int v1, .int v2, .int (v1 - v1 / (10 : Int32) * (10 : Int32))] [] S I11 L11 bc bs Q
          exact zr_return_ dX12_writes_59 rfl k
set_option maxHeartbeats 2000000 in
theorem vX12_isForm_0 {G : Gp} {bc bs : Nat} {Q : zPost} {S : zSh} {I : zFI} {L : zFL} {v1 : Int32} {v2 : Int32} (hS : zStd S)  (k : vp_in v1 200 ∧ (((I 84 39) = (I 101 v1.toNatClampNeg) → ZW G mX12_isForm fX12_isForm lX12_isForm 17 [zo G 84, .int v1, .int v2, .int (0 : Int32), .null] [] S I L bc bs Q) ∧ (¬ (I 84 39) = (I 101 v1.toNatClampNeg) → Q (some (.int (0 : Int32))) S I L))) : ZW G mX12_isForm fX12_isForm lX12_isForm 0 [zo G 84, .int v1, .int v2, .null, .null] [] S I L bc bs Q := by
  refine zr_aload_n dX12_isForm_0 rfl rfl ?_
  refine zr_getIv (x := (I 84 39)) dX12_isForm_1 zf_X12_304 rfl (hS.has (a := 84) rfl rfl) rfl ?_
  refine zr_aload_n dX12_isForm_4 rfl rfl ?_
  refine zr_getR dX12_isForm_5 zf_X12_63 rfl (hS.has (a := 84) rfl rfl) (hS.ref (a := 101) rfl) ?_
  refine zr_iload_n dX12_isForm_8 rfl rfl ?_
  obtain ⟨hi1, k⟩ := k
  refine zr_ialdv (x := (I 101 v1.toNatClampNeg)) dX12_isForm_9 (hS.has (a := 101) rfl rfl) hi1 rfl ?_
  refine zr_iceq (tgt := 15) dX12_isForm_10 (by decide) (fun hb => ?_) (fun hb => ?_)
  · have k := k.1 hb
    refine zr_iconst (v := 0) dX12_isForm_15 (by decide) ?_
    refine zr_istore_n dX12_isForm_16 rfl (Nat.le_of_ble_eq_true rfl) rfl ?_
    exact k
  · have k := k.2 hb
    refine zr_iconst (v := 0) dX12_isForm_13 (by decide) ?_
    exact zr_ireturn dX12_isForm_14 rfl rfl k
set_option maxHeartbeats 2000000 in
theorem vX12_isForm_17 {G : Gp} {bc bs : Nat} {Q : zPost} {S : zSh} {I : zFI} {L : zFL} {v1 : Int32} {v2 : Int32} {v3 : Int32} (hS : zStd S)  (k : (((I 84 39) ≤ v3 → Q (some (.int (1 : Int32))) S I L) ∧ (¬ (I 84 39) ≤ v3 → ((v2 = 0 → vp_in (((6 : Int32) * v1) + v3) 1200 ∧ (((I 103 (((6 : Int32) * v1) + v3).toNatClampNeg) = (63 : Int32) → ZW G mX12_isForm fX12_isForm lX12_isForm 17 [zo G 84, .int v1, .int v2, .int (v3 + 1), .null] [] S I L bc bs Q) ∧ (¬ (I 103 (((6 : Int32) * v1) + v3).toNatClampNeg) = (63 : Int32) → vp_in v3 12 ∧ (((I 103 (((6 : Int32) * v1) + v3).toNatClampNeg) = (I 107 v3.toNatClampNeg) → ZW G mX12_isForm fX12_isForm lX12_isForm 17 [zo G 84, .int v1, .int v2, .int (v3 + 1), .null] [] S I L bc bs Q) ∧ (¬ (I 103 (((6 : Int32) * v1) + v3).toNatClampNeg) = (I 107 v3.toNatClampNeg) → Q (some (.int (0 : Int32))) S I L))))) ∧ (¬ v2 = 0 → vp_in (((6 : Int32) * v1) + (((I 84 39) - (1 : Int32)) - v3)) 1200 ∧ (((I 103 (((6 : Int32) * v1) + (((I 84 39) - (1 : Int32)) - v3)).toNatClampNeg) = (63 : Int32) → ZW G mX12_isForm fX12_isForm lX12_isForm 17 [zo G 84, .int v1, .int v2, .int (v3 + 1), .null] [] S I L bc bs Q) ∧ (¬ (I 103 (((6 : Int32) * v1) + (((I 84 39) - (1 : Int32)) - v3)).toNatClampNeg) = (63 : Int32) → vp_in v3 12 ∧ (((I 103 (((6 : Int32) * v1) + (((I 84 39) - (1 : Int32)) - v3)).toNatClampNeg) = (I 107 v3.toNatClampNeg) → ZW G mX12_isForm fX12_isForm lX12_isForm 17 [zo G 84, .int v1, .int v2, .int (v3 + 1), .null] [] S I L bc bs Q) ∧ (¬ (I 103 (((6 : Int32) * v1) + (((I 84 39) - (1 : Int32)) - v3)).toNatClampNeg) = (I 107 v3.toNatClampNeg) → Q (some (.int (0 : Int32))) S I L))))))))) : ZW G mX12_isForm fX12_isForm lX12_isForm 17 [zo G 84, .int v1, .int v2, .int v3, .null] [] S I L bc bs Q := by
  refine zr_iload_n dX12_isForm_17 rfl rfl ?_
  refine zr_aload_n dX12_isForm_18 rfl rfl ?_
  refine zr_getIv (x := (I 84 39)) dX12_isForm_19 zf_X12_304 rfl (hS.has (a := 84) rfl rfl) rfl ?_
  refine zr_icge (tgt := 79) dX12_isForm_22 (by decide) (fun hb => ?_) (fun hb => ?_)
  · have k := k.1 hb
    refine zr_iconst (v := 1) dX12_isForm_79 (by decide) ?_
    exact zr_ireturn dX12_isForm_80 rfl rfl k
  · have k := k.2 hb
    refine zr_aload_n dX12_isForm_25 rfl rfl ?_
    refine zr_getR dX12_isForm_26 zf_X12_69 rfl (hS.has (a := 84) rfl rfl) (hS.ref (a := 103) rfl) ?_
    refine zr_bipush (v := 6) dX12_isForm_29 (by decide) ?_
    refine zr_iload_n dX12_isForm_31 rfl rfl ?_
    refine zr_imul dX12_isForm_32 ?_
    refine zr_iload_n dX12_isForm_33 rfl rfl ?_
    refine zr_ifeq (tgt := 48) dX12_isForm_34 (by decide) (fun hb => ?_) (fun hb => ?_)
    · have k := k.1 hb
      refine zr_iload_n dX12_isForm_48 rfl rfl ?_
      refine zr_iadd dX12_isForm_49 ?_
      obtain ⟨hi2, k⟩ := k
      refine zr_ialdv (x := (I 103 (((6 : Int32) * v1) + v3).toNatClampNeg)) dX12_isForm_50 (hS.has (a := 103) rfl rfl) hi2 rfl ?_
      refine zr_istore dX12_isForm_51 (Nat.le_of_ble_eq_true rfl) rfl ?_
      refine zr_iload dX12_isForm_53 rfl ?_
      refine zr_bipush (v := 63) dX12_isForm_55 (by decide) ?_
      refine zr_iceq (tgt := 73) dX12_isForm_57 (by decide) (fun hb => ?_) (fun hb => ?_)
      · have k := k.1 hb
        refine zr_iinc (v := (v3 + 1)) dX12_isForm_73 rfl rfl (Nat.le_of_ble_eq_true rfl) rfl ?_
        refine zr_goto (tgt := 17) dX12_isForm_76 (by decide) ?_
        exact zr_mask [true, true, true, true, false] rfl k
      · have k := k.2 hb
        refine zr_iload dX12_isForm_60 rfl ?_
        refine zr_aload_n dX12_isForm_62 rfl rfl ?_
        refine zr_getR dX12_isForm_63 zf_X12_84 rfl (hS.has (a := 84) rfl rfl) (hS.ref (a := 107) rfl) ?_
        refine zr_iload_n dX12_isForm_66 rfl rfl ?_
        obtain ⟨hi3, k⟩ := k
        refine zr_ialdv (x := (I 107 v3.toNatClampNeg)) dX12_isForm_67 (hS.has (a := 107) rfl rfl) hi3 rfl ?_
        refine zr_iceq (tgt := 73) dX12_isForm_68 (by decide) (fun hb => ?_) (fun hb => ?_)
        · have k := k.1 hb
          refine zr_iinc (v := (v3 + 1)) dX12_isForm_73 rfl rfl (Nat.le_of_ble_eq_true rfl) rfl ?_
          refine zr_goto (tgt := 17) dX12_isForm_76 (by decide) ?_
          exact zr_mask [true, true, true, true, false] rfl k
        · have k := k.2 hb
          refine zr_iconst (v := 0) dX12_isForm_71 (by decide) ?_
          exact zr_ireturn dX12_isForm_72 rfl rfl k
    · have k := k.2 hb
      refine zr_aload_n dX12_isForm_37 rfl rfl ?_
      refine zr_getIv (x := (I 84 39)) dX12_isForm_38 zf_X12_304 rfl (hS.has (a := 84) rfl rfl) rfl ?_
      refine zr_iconst (v := 1) dX12_isForm_41 (by decide) ?_
      refine zr_isub dX12_isForm_42 ?_
      refine zr_iload_n dX12_isForm_43 rfl rfl ?_
      refine zr_isub dX12_isForm_44 ?_
      refine zr_goto (tgt := 49) dX12_isForm_45 (by decide) ?_
      refine zr_iadd dX12_isForm_49 ?_
      obtain ⟨hi4, k⟩ := k
      refine zr_ialdv (x := (I 103 (((6 : Int32) * v1) + (((I 84 39) - (1 : Int32)) - v3)).toNatClampNeg)) dX12_isForm_50 (hS.has (a := 103) rfl rfl) hi4 rfl ?_
      refine zr_istore dX12_isForm_51 (Nat.le_of_ble_eq_true rfl) rfl ?_
      refine zr_iload dX12_isForm_53 rfl ?_
      refine zr_bipush (v := 63) dX12_isForm_55 (by decide) ?_
      refine zr_iceq (tgt := 73) dX12_isForm_57 (by decide) (fun hb => ?_) (fun hb => ?_)
      · have k := k.1 hb
        refine zr_iinc (v := (v3 + 1)) dX12_isForm_73 rfl rfl (Nat.le_of_ble_eq_true rfl) rfl ?_
        refine zr_goto (tgt := 17) dX12_isForm_76 (by decide) ?_
        exact zr_mask [true, true, true, true, false] rfl k
      · have k := k.2 hb
        refine zr_iload dX12_isForm_60 rfl ?_
        refine zr_aload_n dX12_isForm_62 rfl rfl ?_
        refine zr_getR dX12_isForm_63 zf_X12_84 rfl (hS.has (a := 84) rfl rfl) (hS.ref (a := 107) rfl) ?_
        refine zr_iload_n dX12_isForm_66 rfl rfl ?_
        obtain ⟨hi5, k⟩ := k
        refine zr_ialdv (x := (I 107 v3.toNatClampNeg)) dX12_isForm_67 (hS.has (a := 107) rfl rfl) hi5 rfl ?_
        refine zr_iceq (tgt := 73) dX12_isForm_68 (by decide) (fun hb => ?_) (fun hb => ?_)
        · have k := k.1 hb
          refine zr_iinc (v := (v3 + 1)) dX12_isForm_73 rfl rfl (Nat.le_of_ble_eq_true rfl) rfl ?_
          refine zr_goto (tgt := 17) dX12_isForm_76 (by decide) ?_
          exact zr_mask [true, true, true, true, false] rfl k
        · have k := k.2 hb
          refine zr_iconst (v := 0) dX12_isForm_71 (by decide) ?_
          exact zr_ireturn dX12_isForm_72 rfl rfl k
