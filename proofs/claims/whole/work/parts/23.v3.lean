set_option maxHeartbeats 2000000 in
theorem vX10_jointsUpTo_0 {G : Gp} {bc bs : Nat} {Q : zPost} {S : zSh} {I : zFI} {L : zFL} {v1 : Int32} (hS : zStd S)  (k : ZW G mX10_jointsUpTo fX10_jointsUpTo lX10_jointsUpTo 2 [zo G 10, .int v1, .int (0 : Int32)] [] S I L bc bs Q) : ZW G mX10_jointsUpTo fX10_jointsUpTo lX10_jointsUpTo 0 [zo G 10, .int v1, .null] [] S I L bc bs Q := by
  refine zr_iconst (v := 0) dX10_jointsUpTo_0 (by decide) ?_
  refine zr_istore_n dX10_jointsUpTo_1 rfl (Nat.le_of_ble_eq_true rfl) rfl ?_
  exact k
set_option maxHeartbeats 2000000 in
theorem vX10_jointsUpTo_2 {G : Gp} {bc bs : Nat} {Q : zPost} {S : zSh} {I : zFI} {L : zFL} {v1 : Int32} {v2 : Int32} (hS : zStd S)  (k : (((I 10 4) ≤ v2 → Q (some (.int v2)) S I L) ∧ (¬ (I 10 4) ≤ v2 → (((48 : Int32) ≤ v2 → Q (some (.int v2)) S I L) ∧ (¬ (48 : Int32) ≤ v2 → vp_in v2 48 ∧ ((v1 < (I 18 v2.toNatClampNeg) → Q (some (.int v2)) S I L) ∧ (¬ v1 < (I 18 v2.toNatClampNeg) → ZW G mX10_jointsUpTo fX10_jointsUpTo lX10_jointsUpTo 2 [zo G 10, .int v1, .int (v2 + 1)] [] S I L bc bs Q))))))) : ZW G mX10_jointsUpTo fX10_jointsUpTo lX10_jointsUpTo 2 [zo G 10, .int v1, .int v2] [] S I L bc bs Q := by
  refine zr_iload_n dX10_jointsUpTo_2 rfl rfl ?_
  refine zr_aload_n dX10_jointsUpTo_3 rfl rfl ?_
  refine zr_getIv (x := (I 10 4)) dX10_jointsUpTo_4 zf_X10_25 rfl (hS.has (a := 10) rfl rfl) rfl ?_
  refine zr_icge (tgt := 32) dX10_jointsUpTo_7 (by decide) (fun hb => ?_) (fun hb => ?_)
  · have k := k.1 hb
    refine zr_iload_n dX10_jointsUpTo_32 rfl rfl ?_
    exact zr_ireturn dX10_jointsUpTo_33 rfl rfl k
  · have k := k.2 hb
    refine zr_iload_n dX10_jointsUpTo_10 rfl rfl ?_
    refine zr_bipush (v := 48) dX10_jointsUpTo_11 (by decide) ?_
    refine zr_icge (tgt := 32) dX10_jointsUpTo_13 (by decide) (fun hb => ?_) (fun hb => ?_)
    · have k := k.1 hb
      refine zr_iload_n dX10_jointsUpTo_32 rfl rfl ?_
      exact zr_ireturn dX10_jointsUpTo_33 rfl rfl k
    · have k := k.2 hb
      refine zr_aload_n dX10_jointsUpTo_16 rfl rfl ?_
      refine zr_getR dX10_jointsUpTo_17 zf_X10_40 rfl (hS.has (a := 10) rfl rfl) (hS.ref (a := 18) rfl) ?_
      refine zr_iload_n dX10_jointsUpTo_20 rfl rfl ?_
      obtain ⟨hi1, k⟩ := k
      refine zr_ialdv (x := (I 18 v2.toNatClampNeg)) dX10_jointsUpTo_21 (hS.has (a := 18) rfl rfl) hi1 rfl ?_
      refine zr_iload_n dX10_jointsUpTo_22 rfl rfl ?_
      refine zr_icgt (tgt := 32) dX10_jointsUpTo_23 (by decide) (fun hb => ?_) (fun hb => ?_)
      · have k := k.1 hb
        refine zr_iload_n dX10_jointsUpTo_32 rfl rfl ?_
        exact zr_ireturn dX10_jointsUpTo_33 rfl rfl k
      · have k := k.2 hb
        refine zr_iinc (v := (v2 + 1)) dX10_jointsUpTo_26 rfl rfl (Nat.le_of_ble_eq_true rfl) rfl ?_
        refine zr_goto (tgt := 2) dX10_jointsUpTo_29 (by decide) ?_
        exact k
set_option maxHeartbeats 2000000 in
theorem vX10_lengthOf_0 {G : Gp} {bc bs : Nat} {Q : zPost} {S : zSh} {I : zFI} {L : zFL} {v1 : Int32} (hS : zStd S)  (k : Q (some (.int (p_X11_pick I 12 16 v1))) S I L) : ZW G mX10_lengthOf fX10_lengthOf lX10_lengthOf 0 [zo G 10, .int v1] [] S I L bc bs Q := by
  refine zr_aload_n dX10_lengthOf_0 rfl rfl ?_
  refine zr_getR dX10_lengthOf_1 zf_X10_19 rfl (hS.has (a := 10) rfl rfl) (hS.ref (a := 12) rfl) ?_
  refine zr_iload_n dX10_lengthOf_4 rfl rfl ?_
  refine zr_callSN (As := [zo G 12, .int v1]) (fr' := fX11_pick) (lo' := lX11_pick) (bc' := 0) (bs' := 0) (bcr := bc) (bsr := bs) dX10_lengthOf_5 zsn_X10_51 zst_X11_pick rfl rfl (Nat.le_of_ble_eq_true rfl) (Nat.le_of_ble_eq_true rfl) (Nat.le_of_ble_eq_true rfl) (Nat.le_refl _) (Nat.le_refl _) ?_
  refine sp_X11_pick hS (hS.has (a := 12) rfl rfl) rfl ?_
  show ZW G mX10_lengthOf fX10_lengthOf lX10_lengthOf 8 [zo G 10, .int v1] [.int (p_X11_pick I 12 16 v1)] S I L bc bs Q
  exact zr_ireturn dX10_lengthOf_8 rfl rfl k
def p_X10_lengthOf (I : zFI) (v1 : Int32) : Int32 := (p_X11_pick I 12 16 v1)
set_option maxHeartbeats 2000000 in
theorem sp_X10_lengthOf {G : Gp} {Q : zPost} {S : zSh} {I : zFI} {L : zFL} {v1 : Int32} (hS : zStd S)  (h : Q (some (.int (p_X10_lengthOf I v1))) S I L) : ZC G mX10_lengthOf fX10_lengthOf lX10_lengthOf [zo G 10, .int v1] S I L 0 0 Q := by
  refine ZC.of' (vX10_lengthOf_0 hS  ?_) rfl (Nat.le_of_ble_eq_true rfl) rfl
  unfold p_X10_lengthOf at h
  exact h
set_option maxHeartbeats 2000000 in
theorem vX10_dayOf_0 {G : Gp} {bc bs : Nat} {Q : zPost} {S : zSh} {I : zFI} {L : zFL} {v1 : Int32} (hS : zStd S)  (k : Q (some (.int (p_X11_pick I 13 16 v1))) S I L) : ZW G mX10_dayOf fX10_dayOf lX10_dayOf 0 [zo G 10, .int v1] [] S I L bc bs Q := by
  refine zr_aload_n dX10_dayOf_0 rfl rfl ?_
  refine zr_getR dX10_dayOf_1 zf_X10_22 rfl (hS.has (a := 10) rfl rfl) (hS.ref (a := 13) rfl) ?_
  refine zr_iload_n dX10_dayOf_4 rfl rfl ?_
  refine zr_callSN (As := [zo G 13, .int v1]) (fr' := fX11_pick) (lo' := lX11_pick) (bc' := 0) (bs' := 0) (bcr := bc) (bsr := bs) dX10_dayOf_5 zsn_X10_51 zst_X11_pick rfl rfl (Nat.le_of_ble_eq_true rfl) (Nat.le_of_ble_eq_true rfl) (Nat.le_of_ble_eq_true rfl) (Nat.le_refl _) (Nat.le_refl _) ?_
  refine sp_X11_pick hS (hS.has (a := 13) rfl rfl) rfl ?_
  show ZW G mX10_dayOf fX10_dayOf lX10_dayOf 8 [zo G 10, .int v1] [.int (p_X11_pick I 13 16 v1)] S I L bc bs Q
  exact zr_ireturn dX10_dayOf_8 rfl rfl k
def p_X10_dayOf (I : zFI) (v1 : Int32) : Int32 := (p_X11_pick I 13 16 v1)
set_option maxHeartbeats 2000000 in
theorem sp_X10_dayOf {G : Gp} {Q : zPost} {S : zSh} {I : zFI} {L : zFL} {v1 : Int32} (hS : zStd S)  (h : Q (some (.int (p_X10_dayOf I v1))) S I L) : ZC G mX10_dayOf fX10_dayOf lX10_dayOf [zo G 10, .int v1] S I L 0 0 Q := by
  refine ZC.of' (vX10_dayOf_0 hS  ?_) rfl (Nat.le_of_ble_eq_true rfl) rfl
  unfold p_X10_dayOf at h
  exact h
set_option maxHeartbeats 2000000 in
theorem vX10_placeOf_0 {G : Gp} {bc bs : Nat} {Q : zPost} {S : zSh} {I : zFI} {L : zFL} {v1 : Int32} (hS : zStd S)  (k : Q (some (.int (p_X11_pick I 15 48 v1))) S I L) : ZW G mX10_placeOf fX10_placeOf lX10_placeOf 0 [zo G 10, .int v1] [] S I L bc bs Q := by
  refine zr_aload_n dX10_placeOf_0 rfl rfl ?_
  refine zr_getR dX10_placeOf_1 zf_X10_31 rfl (hS.has (a := 10) rfl rfl) (hS.ref (a := 15) rfl) ?_
  refine zr_iload_n dX10_placeOf_4 rfl rfl ?_
  refine zr_callSN (As := [zo G 15, .int v1]) (fr' := fX11_pick) (lo' := lX11_pick) (bc' := 0) (bs' := 0) (bcr := bc) (bsr := bs) dX10_placeOf_5 zsn_X10_51 zst_X11_pick rfl rfl (Nat.le_of_ble_eq_true rfl) (Nat.le_of_ble_eq_true rfl) (Nat.le_of_ble_eq_true rfl) (Nat.le_refl _) (Nat.le_refl _) ?_
  refine sp_X11_pick hS (hS.has (a := 15) rfl rfl) rfl ?_
  show ZW G mX10_placeOf fX10_placeOf lX10_placeOf 8 [zo G 10, .int v1] [.int (p_X11_pick I 15 48 v1)] S I L bc bs Q
  exact zr_ireturn dX10_placeOf_8 rfl rfl k
def p_X10_placeOf (I : zFI) (v1 : Int32) : Int32 := (p_X11_pick I 15 48 v1)
set_option maxHeartbeats 2000000 in
theorem sp_X10_placeOf {G : Gp} {Q : zPost} {S : zSh} {I : zFI} {L : zFL} {v1 : Int32} (hS : zStd S)  (h : Q (some (.int (p_X10_placeOf I v1))) S I L) : ZC G mX10_placeOf fX10_placeOf lX10_placeOf [zo G 10, .int v1] S I L 0 0 Q := by
  refine ZC.of' (vX10_placeOf_0 hS  ?_) rfl (Nat.le_of_ble_eq_true rfl) rfl
  unfold p_X10_placeOf at h
  exact h
set_option maxHeartbeats 2000000 in
theorem vX10_sizeOf_0 {G : Gp} {bc bs : Nat} {Q : zPost} {S : zSh} {I : zFI} {L : zFL} {v1 : Int32} (hS : zStd S)  (k : Q (some (.int (p_X11_pick I 17 48 v1))) S I L) : ZW G mX10_sizeOf fX10_sizeOf lX10_sizeOf 0 [zo G 10, .int v1] [] S I L bc bs Q := by
  refine zr_aload_n dX10_sizeOf_0 rfl rfl ?_
  refine zr_getR dX10_sizeOf_1 zf_X10_37 rfl (hS.has (a := 10) rfl rfl) (hS.ref (a := 17) rfl) ?_
  refine zr_iload_n dX10_sizeOf_4 rfl rfl ?_
  refine zr_callSN (As := [zo G 17, .int v1]) (fr' := fX11_pick) (lo' := lX11_pick) (bc' := 0) (bs' := 0) (bcr := bc) (bsr := bs) dX10_sizeOf_5 zsn_X10_51 zst_X11_pick rfl rfl (Nat.le_of_ble_eq_true rfl) (Nat.le_of_ble_eq_true rfl) (Nat.le_of_ble_eq_true rfl) (Nat.le_refl _) (Nat.le_refl _) ?_
  refine sp_X11_pick hS (hS.has (a := 17) rfl rfl) rfl ?_
  show ZW G mX10_sizeOf fX10_sizeOf lX10_sizeOf 8 [zo G 10, .int v1] [.int (p_X11_pick I 17 48 v1)] S I L bc bs Q
  exact zr_ireturn dX10_sizeOf_8 rfl rfl k
def p_X10_sizeOf (I : zFI) (v1 : Int32) : Int32 := (p_X11_pick I 17 48 v1)
set_option maxHeartbeats 2000000 in
theorem sp_X10_sizeOf {G : Gp} {Q : zPost} {S : zSh} {I : zFI} {L : zFL} {v1 : Int32} (hS : zStd S)  (h : Q (some (.int (p_X10_sizeOf I v1))) S I L) : ZC G mX10_sizeOf fX10_sizeOf lX10_sizeOf [zo G 10, .int v1] S I L 0 0 Q := by
  refine ZC.of' (vX10_sizeOf_0 hS  ?_) rfl (Nat.le_of_ble_eq_true rfl) rfl
  unfold p_X10_sizeOf at h
  exact h
set_option maxHeartbeats 2000000 in
theorem vX11_days_0 {G : Gp} {bc bs : Nat} {Q : zPost} {S : zSh} {I : zFI} {L : zFL} {v1 : Int32} (hS : zStd S)  (k : ((v1 < (1 : Int32) → Q (some (.int (-1 : Int32))) S I L) ∧ (¬ v1 < (1 : Int32) → (((1000 : Int32) < v1 → Q (some (.int (-1 : Int32))) S I L) ∧ (¬ (1000 : Int32) < v1 → ((((I 0 14) + v1) ≤ (9999 : Int32) → Q (some (.int ((I 0 14) + v1))) S (u2 I 0 14 ((I 0 14) + v1)) L) ∧ (¬ ((I 0 14) + v1) ≤ (9999 : Int32) → Q (some (.int (-1 : Int32))) S I L))))))) : ZW G mX11_days fX11_days lX11_days 0 [zo G 0, .int v1] [] S I L bc bs Q := by
  refine zr_iload_n dX11_days_0 rfl rfl ?_
  refine zr_iconst (v := 1) dX11_days_1 (by decide) ?_
  refine zr_iclt (tgt := 24) dX11_days_2 (by decide) (fun hb => ?_) (fun hb => ?_)
  · have k := k.1 hb
    refine zr_iconst (v := -1) dX11_days_24 (by decide) ?_
    exact zr_ireturn dX11_days_25 rfl rfl k
  · have k := k.2 hb
    refine zr_iload_n dX11_days_5 rfl rfl ?_
    refine zr_sipush (v := 1000) dX11_days_6 (by decide) ?_
    refine zr_icgt (tgt := 24) dX11_days_9 (by decide) (fun hb => ?_) (fun hb => ?_)
    · have k := k.1 hb
      refine zr_iconst (v := -1) dX11_days_24 (by decide) ?_
      exact zr_ireturn dX11_days_25 rfl rfl k
    · have k := k.2 hb
      refine zr_aload_n dX11_days_12 rfl rfl ?_
      refine zr_getIv (x := (I 0 14)) dX11_days_13 zf_X11_98 rfl (hS.has (a := 0) rfl rfl) rfl ?_
      refine zr_iload_n dX11_days_16 rfl rfl ?_
      refine zr_iadd dX11_days_17 ?_
      refine zr_sipush (v := 9999) dX11_days_18 (by decide) ?_
      refine zr_icle (tgt := 26) dX11_days_21 (by decide) (fun hb => ?_) (fun hb => ?_)
      · have k := k.1 hb
        refine zr_aload_n dX11_days_26 rfl rfl ?_
        refine zr_dup dX11_days_27 rfl ?_
        refine zr_getIv (x := (I 0 14)) dX11_days_28 zf_X11_98 rfl (hS.has (a := 0) rfl rfl) rfl ?_
        refine zr_iload_n dX11_days_31 rfl rfl ?_
        refine zr_iadd dX11_days_32 ?_
        refine zr_putI dX11_days_33 zf_X11_98 rfl (hS.has (a := 0) rfl rfl) rfl rfl ?_
        refine zr_aload_n dX11_days_36 rfl rfl ?_
        refine zr_getIv (x := ((I 0 14) + v1)) dX11_days_37 zf_X11_98 rfl (hS.has (a := 0) rfl rfl) rfl ?_
        exact zr_ireturn dX11_days_40 rfl rfl k
      · have k := k.2 hb
        refine zr_iconst (v := -1) dX11_days_24 (by decide) ?_
        exact zr_ireturn dX11_days_25 rfl rfl k
set_option maxHeartbeats 2000000 in
theorem vX11_lastDaySeen_0 {G : Gp} {bc bs : Nat} {Q : zPost} {S : zSh} {I : zFI} {L : zFL}  (hS : zStd S)  (k : ((¬ (I 0 15) = (-1 : Int32) → Q (some (.int (I 0 15))) S I L) ∧ ((I 0 15) = (-1 : Int32) → Q (some (.int (9999 : Int32))) S I L))) : ZW G mX11_lastDaySeen fX11_lastDaySeen lX11_lastDaySeen 0 [zo G 0] [] S I L bc bs Q := by
  refine zr_aload_n dX11_lastDaySeen_0 rfl rfl ?_
  refine zr_getIv (x := (I 0 15)) dX11_lastDaySeen_1 zf_X11_101 rfl (hS.has (a := 0) rfl rfl) rfl ?_
  refine zr_iconst (v := -1) dX11_lastDaySeen_4 (by decide) ?_
  refine zr_icne (tgt := 14) dX11_lastDaySeen_5 (by decide) (fun hb => ?_) (fun hb => ?_)
  · have k := k.1 hb
    refine zr_aload_n dX11_lastDaySeen_14 rfl rfl ?_
    refine zr_getIv (x := (I 0 15)) dX11_lastDaySeen_15 zf_X11_101 rfl (hS.has (a := 0) rfl rfl) rfl ?_
    exact zr_ireturn dX11_lastDaySeen_18 rfl rfl k
  · have k := k.2 hb
    refine zr_sipush (v := 9999) dX11_lastDaySeen_8 (by decide) ?_
    refine zr_goto (tgt := 18) dX11_lastDaySeen_11 (by decide) ?_
    exact zr_ireturn dX11_lastDaySeen_18 rfl rfl k
def p_X11_lastDaySeen (I : zFI)  : Int32 := (if (I 0 15) = (-1 : Int32) then (9999 : Int32) else (I 0 15))
set_option maxHeartbeats 2000000 in
theorem sp_X11_lastDaySeen {G : Gp} {Q : zPost} {S : zSh} {I : zFI} {L : zFL}  (hS : zStd S)  (h : Q (some (.int (p_X11_lastDaySeen I ))) S I L) : ZC G mX11_lastDaySeen fX11_lastDaySeen lX11_lastDaySeen [zo G 0] S I L 0 0 Q := by
  refine ZC.of' (vX11_lastDaySeen_0 hS  ?_) rfl (Nat.le_of_ble_eq_true rfl) rfl
  unfold p_X11_lastDaySeen at h
  refine ⟨fun hb1 => ?_, fun hb1 => ?_⟩
  · rw [if_neg hb1] at h
    exact h
  · rw [if_pos hb1] at h
    exact h
set_option maxHeartbeats 2000000 in
theorem vX11_view_0 {G : Gp} {bc bs : Nat} {Q : zPost} {S : zSh} {I : zFI} {L : zFL} {v1 : Int32} (hS : zStd S)  (k : ((v1 < (-1 : Int32) → Q (some (.int (0 : Int32))) S I L) ∧ (¬ v1 < (-1 : Int32) → ((v1 ≤ (I 0 14) → ZC G mX6_showUpTo fX6_showUpTo lX6_showUpTo [zo G 19, .int (p_X11_lastDaySeen (u2 I 0 15 v1))] S (u2 I 0 15 v1) L 0 0 (fun w S' I1 L1 => w = none ∧ S = S' ∧ Q (some (.int (1 : Int32))) S (u2 I1 0 16 (1 : Int32)) L1)) ∧ (¬ v1 ≤ (I 0 14) → Q (some (.int (0 : Int32))) S I L))))) : ZW G mX11_view fX11_view lX11_view 0 [zo G 0, .int v1] [] S I L bc bs Q := by
  refine zr_iload_n dX11_view_0 rfl rfl ?_
  refine zr_iconst (v := -1) dX11_view_1 (by decide) ?_
  refine zr_iclt (tgt := 13) dX11_view_2 (by decide) (fun hb => ?_) (fun hb => ?_)
  · have k := k.1 hb
    refine zr_iconst (v := 0) dX11_view_13 (by decide) ?_
    exact zr_ireturn dX11_view_14 rfl rfl k
  · have k := k.2 hb
    refine zr_iload_n dX11_view_5 rfl rfl ?_
    refine zr_aload_n dX11_view_6 rfl rfl ?_
    refine zr_getIv (x := (I 0 14)) dX11_view_7 zf_X11_98 rfl (hS.has (a := 0) rfl rfl) rfl ?_
    refine zr_icle (tgt := 15) dX11_view_10 (by decide) (fun hb => ?_) (fun hb => ?_)
    · have k := k.1 hb
      refine zr_aload_n dX11_view_15 rfl rfl ?_
      refine zr_iload_n dX11_view_16 rfl rfl ?_
      refine zr_putI dX11_view_17 zf_X11_101 rfl (hS.has (a := 0) rfl rfl) rfl rfl ?_
      refine zr_aload_n dX11_view_20 rfl rfl ?_
      refine zr_getR dX11_view_21 zf_X11_40 rfl (hS.has (a := 0) rfl rfl) (hS.ref (a := 19) rfl) ?_
      refine zr_aload_n dX11_view_24 rfl rfl ?_
      refine zr_callV (As := []) (fr' := fX11_lastDaySeen) (lo' := lX11_lastDaySeen) (bc' := 0) (bs' := 0) (bcr := bc) (bsr := bs) dX11_view_25 zs_X11_108 zi_X11_lastDaySeen zcl_11 (hS.has (a := 0) rfl rfl) rfl rfl (Nat.le_of_ble_eq_true rfl) (Nat.le_of_ble_eq_true rfl) (Nat.le_of_ble_eq_true rfl) (Nat.le_refl _) (Nat.le_refl _) ?_
      refine sp_X11_lastDaySeen hS  ?_
      show ZW G mX11_view fX11_view lX11_view 28 [zo G 0, .int v1] [.int (p_X11_lastDaySeen (u2 I 0 15 v1)), zo G 19] S (u2 I 0 15 v1) L bc bs Q
      refine zr_callV (As := [.int (p_X11_lastDaySeen (u2 I 0 15 v1))]) (fr' := fX6_showUpTo) (lo' := lX6_showUpTo) (bc' := 0) (bs' := 0) (bcr := bc) (bsr := bs) dX11_view_28 zs_X11_112 zi_X6_showUpTo zcl_6 (hS.has (a := 19) rfl rfl) rfl rfl (Nat.le_of_ble_eq_true rfl) (Nat.le_of_ble_eq_true rfl) (Nat.le_of_ble_eq_true rfl) (Nat.le_refl _) (Nat.le_refl _) ?_
      refine ZC.mono (fun w S' I1 L1 k => ?_) k
      obtain ⟨rfl, rfl, k⟩ := k
      show ZW G mX11_view fX11_view lX11_view 31 [zo G 0, .int v1] [] S I1 L1 bc bs Q
      refine zr_aload_n dX11_view_31 rfl rfl ?_
      refine zr_iconst (v := 1) dX11_view_32 (by decide) ?_
      refine zr_putI dX11_view_33 zf_X11_104 rfl (hS.has (a := 0) rfl rfl) rfl rfl ?_
      refine zr_iconst (v := 1) dX11_view_36 (by decide) ?_
      exact zr_ireturn dX11_view_37 rfl rfl k
    · have k := k.2 hb
      refine zr_iconst (v := 0) dX11_view_13 (by decide) ?_
      exact zr_ireturn dX11_view_14 rfl rfl k
set_option maxHeartbeats 2000000 in
theorem vX11_timber_0 {G : Gp} {bc bs : Nat} {Q : zPost} {S : zSh} {I : zFI} {L : zFL} {v1 : Int32} {v2 : Int32} (hS : zStd S)  (k : ZC G mX10_addTimber fX10_addTimber lX10_addTimber [zo G 10, .int v1, .int v2, .int (I 0 14)] S I L 0 0 (fun w S' I1 L1 => ∃ r1 : Int32, w = some (.int r1) ∧ S = S' ∧ Q (some (.int r1)) S I1 L1)) : ZW G mX11_timber fX11_timber lX11_timber 0 [zo G 0, .int v1, .int v2] [] S I L bc bs Q := by
  refine zr_aload_n dX11_timber_0 rfl rfl ?_
  refine zr_getR dX11_timber_1 zf_X11_33 rfl (hS.has (a := 0) rfl rfl) (hS.ref (a := 10) rfl) ?_
  refine zr_iload_n dX11_timber_4 rfl rfl ?_
  refine zr_iload_n dX11_timber_5 rfl rfl ?_
  refine zr_aload_n dX11_timber_6 rfl rfl ?_
  refine zr_getIv (x := (I 0 14)) dX11_timber_7 zf_X11_98 rfl (hS.has (a := 0) rfl rfl) rfl ?_
  refine zr_callV (As := [.int v1, .int v2, .int (I 0 14)]) (fr' := fX10_addTimber) (lo' := lX10_addTimber) (bc' := 0) (bs' := 0) (bcr := bc) (bsr := bs) dX11_timber_10 zs_X11_116 zi_X10_addTimber zcl_10 (hS.has (a := 10) rfl rfl) rfl rfl (Nat.le_of_ble_eq_true rfl) (Nat.le_of_ble_eq_true rfl) (Nat.le_of_ble_eq_true rfl) (Nat.le_refl _) (Nat.le_refl _) ?_
  refine ZC.mono (fun w S' I1 L1 k => ?_) k
  obtain ⟨r1, rfl, rfl, k⟩ := k
  show ZW G mX11_timber fX11_timber lX11_timber 13 [zo G 0, .int v1, .int v2] [.int r1] S I1 L1 bc bs Q
  exact zr_ireturn dX11_timber_13 rfl rfl k
set_option maxHeartbeats 2000000 in
theorem vX11_joint_0 {G : Gp} {bc bs : Nat} {Q : zPost} {S : zSh} {I : zFI} {L : zFL} {v1 : Int32} {v2 : Int32} {v3 : Int32} {v4 : Int32} (hS : zStd S)  (k : ZC G mX10_addJoint fX10_addJoint lX10_addJoint [zo G 10, .int v1, .int v2, .int v3, .int v4, .int (I 0 14)] S I L 0 0 (fun w S' I1 L1 => ∃ r1 : Int32, w = some (.int r1) ∧ S = S' ∧ Q (some (.int r1)) S (u2 I1 0 16 (1 : Int32)) L1)) : ZW G mX11_joint fX11_joint lX11_joint 0 [zo G 0, .int v1, .int v2, .int v3, .int v4, .null] [] S I L bc bs Q := by
  refine zr_aload_n dX11_joint_0 rfl rfl ?_
  refine zr_getR dX11_joint_1 zf_X11_33 rfl (hS.has (a := 0) rfl rfl) (hS.ref (a := 10) rfl) ?_
  refine zr_iload_n dX11_joint_4 rfl rfl ?_
  refine zr_iload_n dX11_joint_5 rfl rfl ?_
  refine zr_iload_n dX11_joint_6 rfl rfl ?_
  refine zr_iload dX11_joint_7 rfl ?_
  refine zr_aload_n dX11_joint_9 rfl rfl ?_
  refine zr_getIv (x := (I 0 14)) dX11_joint_10 zf_X11_98 rfl (hS.has (a := 0) rfl rfl) rfl ?_
  refine zr_callV (As := [.int v1, .int v2, .int v3, .int v4, .int (I 0 14)]) (fr' := fX10_addJoint) (lo' := lX10_addJoint) (bc' := 0) (bs' := 0) (bcr := bc) (bsr := bs) dX11_joint_13 zs_X11_120 zi_X10_addJoint zcl_10 (hS.has (a := 10) rfl rfl) rfl rfl (Nat.le_of_ble_eq_true rfl) (Nat.le_of_ble_eq_true rfl) (Nat.le_of_ble_eq_true rfl) (Nat.le_refl _) (Nat.le_refl _) ?_
  refine ZC.mono (fun w S' I1 L1 k => ?_) k
  obtain ⟨r1, rfl, rfl, k⟩ := k
  show ZW G mX11_joint fX11_joint lX11_joint 16 [zo G 0, .int v1, .int v2, .int v3, .int v4, .null] [.int r1] S I1 L1 bc bs Q
  refine zr_istore dX11_joint_16 (Nat.le_of_ble_eq_true rfl) rfl ?_
  refine zr_aload_n dX11_joint_18 rfl rfl ?_
  refine zr_iconst (v := 1) dX11_joint_19 (by decide) ?_
  refine zr_putI dX11_joint_20 zf_X11_104 rfl (hS.has (a := 0) rfl rfl) rfl rfl ?_
  refine zr_iload dX11_joint_23 rfl ?_
  exact zr_ireturn dX11_joint_25 rfl rfl k
set_option maxHeartbeats 2000000 in
theorem vX11_feed_0 {G : Gp} {bc bs : Nat} {Q : zPost} {S : zSh} {I : zFI} {L : zFL} {v1 : Int32} {v2 : Int32} {v3 : Int32} {v4 : Int32} {v5 : Int32} (hS : zStd S)  (k : ((¬ (p_X9_hasRoomFor I (20 : Int32)) = 0 → ZC G mX9_push fX9_push lX9_push [zo G 1, .int v1] S I L 0 0 (fun w S' I1 L1 => w = none ∧ S = S' ∧ ZC G mX9_push fX9_push lX9_push [zo G 1, .int v2] S I1 L1 0 0 (fun w S' I2 L2 => w = none ∧ S = S' ∧ ZC G mX9_push fX9_push lX9_push [zo G 1, .int v3] S I2 L2 0 0 (fun w S' I3 L3 => w = none ∧ S = S' ∧ ZC G mX9_push fX9_push lX9_push [zo G 1, .int v4] S I3 L3 0 0 (fun w S' I4 L4 => w = none ∧ S = S' ∧ ZC G mX9_push fX9_push lX9_push [zo G 1, .int v5] S I4 L4 0 0 (fun w S' I5 L5 => w = none ∧ S = S' ∧ Q (some (.int (p_X9_size I5))) S I5 L5)))))) ∧ ((p_X9_hasRoomFor I (20 : Int32)) = 0 → Q (some (.int (-1 : Int32))) S I L))) : ZW G mX11_feed fX11_feed lX11_feed 0 [zo G 0, .int v1, .int v2, .int v3, .int v4, .int v5] [] S I L bc bs Q := by
  refine zr_aload_n dX11_feed_0 rfl rfl ?_
  refine zr_getR dX11_feed_1 zf_X11_12 rfl (hS.has (a := 0) rfl rfl) (hS.ref (a := 1) rfl) ?_
  refine zr_bipush (v := 20) dX11_feed_4 (by decide) ?_
  refine zr_callV (As := [.int (20 : Int32)]) (fr' := fX9_hasRoomFor) (lo' := lX9_hasRoomFor) (bc' := 0) (bs' := 0) (bcr := bc) (bsr := bs) dX11_feed_6 zs_X11_124 zi_X9_hasRoomFor zcl_9 (hS.has (a := 1) rfl rfl) rfl rfl (Nat.le_of_ble_eq_true rfl) (Nat.le_of_ble_eq_true rfl) (Nat.le_of_ble_eq_true rfl) (Nat.le_refl _) (Nat.le_refl _) ?_
  refine sp_X9_hasRoomFor hS  ?_
  show ZW G mX11_feed fX11_feed lX11_feed 9 [zo G 0, .int v1, .int v2, .int v3, .int v4, .int v5] [.int (p_X9_hasRoomFor I (20 : Int32))] S I L bc bs Q
  refine zr_ifne (tgt := 14) dX11_feed_9 (by decide) (fun hb => ?_) (fun hb => ?_)
  · have k := k.1 hb
    refine zr_aload_n dX11_feed_14 rfl rfl ?_
    refine zr_getR dX11_feed_15 zf_X11_12 rfl (hS.has (a := 0) rfl rfl) (hS.ref (a := 1) rfl) ?_
    refine zr_iload_n dX11_feed_18 rfl rfl ?_
    refine zr_callV (As := [.int v1]) (fr' := fX9_push) (lo' := lX9_push) (bc' := 0) (bs' := 0) (bcr := bc) (bsr := bs) dX11_feed_19 zs_X11_128 zi_X9_push zcl_9 (hS.has (a := 1) rfl rfl) rfl rfl (Nat.le_of_ble_eq_true rfl) (Nat.le_of_ble_eq_true rfl) (Nat.le_of_ble_eq_true rfl) (Nat.le_refl _) (Nat.le_refl _) ?_
    refine ZC.mono (fun w S' I1 L1 k => ?_) k
    obtain ⟨rfl, rfl, k⟩ := k
    show ZW G mX11_feed fX11_feed lX11_feed 22 [zo G 0, .int v1, .int v2, .int v3, .int v4, .int v5] [] S I1 L1 bc bs Q
    refine zr_aload_n dX11_feed_22 rfl rfl ?_
    refine zr_getR dX11_feed_23 zf_X11_12 rfl (hS.has (a := 0) rfl rfl) (hS.ref (a := 1) rfl) ?_
    refine zr_iload_n dX11_feed_26 rfl rfl ?_
    refine zr_callV (As := [.int v2]) (fr' := fX9_push) (lo' := lX9_push) (bc' := 0) (bs' := 0) (bcr := bc) (bsr := bs) dX11_feed_27 zs_X11_128 zi_X9_push zcl_9 (hS.has (a := 1) rfl rfl) rfl rfl (Nat.le_of_ble_eq_true rfl) (Nat.le_of_ble_eq_true rfl) (Nat.le_of_ble_eq_true rfl) (Nat.le_refl _) (Nat.le_refl _) ?_
    refine ZC.mono (fun w S' I2 L2 k => ?_) k
    obtain ⟨rfl, rfl, k⟩ := k
    show ZW G mX11_feed fX11_feed lX11_feed 30 [zo G 0, .int v1, .int v2, .int v3, .int v4, .int v5] [] S I2 L2 bc bs Q
    refine zr_aload_n dX11_feed_30 rfl rfl ?_
    refine zr_getR dX11_feed_31 zf_X11_12 rfl (hS.has (a := 0) rfl rfl) (hS.ref (a := 1) rfl) ?_
    refine zr_iload_n dX11_feed_34 rfl rfl ?_
    refine zr_callV (As := [.int v3]) (fr' := fX9_push) (lo' := lX9_push) (bc' := 0) (bs' := 0) (bcr := bc) (bsr := bs) dX11_feed_35 zs_X11_128 zi_X9_push zcl_9 (hS.has (a := 1) rfl rfl) rfl rfl (Nat.le_of_ble_eq_true rfl) (Nat.le_of_ble_eq_true rfl) (Nat.le_of_ble_eq_true rfl) (Nat.le_refl _) (Nat.le_refl _) ?_
    refine ZC.mono (fun w S' I3 L3 k => ?_) k
    obtain ⟨rfl, rfl, k⟩ := k
    show ZW G mX11_feed fX11_feed lX11_feed 38 [zo G 0, .int v1, .int v2, .int v3, .int v4, .int v5] [] S I3 L3 bc bs Q
    refine zr_aload_n dX11_feed_38 rfl rfl ?_
    refine zr_getR dX11_feed_39 zf_X11_12 rfl (hS.has (a := 0) rfl rfl) (hS.ref (a := 1) rfl) ?_
    refine zr_iload dX11_feed_42 rfl ?_
    refine zr_callV (As := [.int v4]) (fr' := fX9_push) (lo' := lX9_push) (bc' := 0) (bs' := 0) (bcr := bc) (bsr := bs) dX11_feed_44 zs_X11_128 zi_X9_push zcl_9 (hS.has (a := 1) rfl rfl) rfl rfl (Nat.le_of_ble_eq_true rfl) (Nat.le_of_ble_eq_true rfl) (Nat.le_of_ble_eq_true rfl) (Nat.le_refl _) (Nat.le_refl _) ?_
    refine ZC.mono (fun w S' I4 L4 k => ?_) k
    obtain ⟨rfl, rfl, k⟩ := k
    show ZW G mX11_feed fX11_feed lX11_feed 47 [zo G 0, .int v1, .int v2, .int v3, .int v4, .int v5] [] S I4 L4 bc bs Q
    refine zr_aload_n dX11_feed_47 rfl rfl ?_
    refine zr_getR dX11_feed_48 zf_X11_12 rfl (hS.has (a := 0) rfl rfl) (hS.ref (a := 1) rfl) ?_
    refine zr_iload dX11_feed_51 rfl ?_
    refine zr_callV (As := [.int v5]) (fr' := fX9_push) (lo' := lX9_push) (bc' := 0) (bs' := 0) (bcr := bc) (bsr := bs) dX11_feed_53 zs_X11_128 zi_X9_push zcl_9 (hS.has (a := 1) rfl rfl) rfl rfl (Nat.le_of_ble_eq_true rfl) (Nat.le_of_ble_eq_true rfl) (Nat.le_of_ble_eq_true rfl) (Nat.le_refl _) (Nat.le_refl _) ?_
    refine ZC.mono (fun w S' I5 L5 k => ?_) k
    obtain ⟨rfl, rfl, k⟩ := k
    show ZW G mX11_feed fX11_feed lX11_feed 56 [zo G 0, .int v1, .int v2, .int v3, .int v4, .int v5] [] S I5 L5 bc bs Q
    refine zr_aload_n dX11_feed_56 rfl rfl ?_
    refine zr_getR dX11_feed_57 zf_X11_12 rfl (hS.has (a := 0) rfl rfl) (hS.ref (a := 1) rfl) ?_
    refine zr_callV (As := []) (fr' := fX9_size) (lo' := lX9_size) (bc' := 0) (bs' := 0) (bcr := bc) (bsr := bs) dX11_feed_60 zs_X11_131 zi_X9_size zcl_9 (hS.has (a := 1) rfl rfl) rfl rfl (Nat.le_of_ble_eq_true rfl) (Nat.le_of_ble_eq_true rfl) (Nat.le_of_ble_eq_true rfl) (Nat.le_refl _) (Nat.le_refl _) ?_
    refine sp_X9_size hS  ?_
    show ZW G mX11_feed fX11_feed lX11_feed 63 [zo G 0, .int v1, .int v2, .int v3, .int v4, .int v5] [.int (p_X9_size I5)] S I5 L5 bc bs Q
    exact zr_ireturn dX11_feed_63 rfl rfl k
  · have k := k.2 hb
    refine zr_iconst (v := -1) dX11_feed_12 (by decide) ?_
    exact zr_ireturn dX11_feed_13 rfl rfl k
set_option maxHeartbeats 2000000 in
theorem vX11_end_0 {G : Gp} {bc bs : Nat} {Q : zPost} {S : zSh} {I : zFI} {L : zFL} {v1 : Int32} (hS : zStd S)  (k : ZC G mX9_cut fX9_cut lX9_cut [zo G 1, .int v1] S I L 0 0 (fun w S' I1 L1 => ∃ r1 : Int32, w = some (.int r1) ∧ S = S' ∧ narrow .boolean (.int r1) = .int r1 ∧ Q (some (.int r1)) S I1 L1)) : ZW G mX11_end fX11_end lX11_end 0 [zo G 0, .int v1] [] S I L bc bs Q := by
  refine zr_aload_n dX11_end_0 rfl rfl ?_
  refine zr_getR dX11_end_1 zf_X11_12 rfl (hS.has (a := 0) rfl rfl) (hS.ref (a := 1) rfl) ?_
  refine zr_iload_n dX11_end_4 rfl rfl ?_
  refine zr_callV (As := [.int v1]) (fr' := fX9_cut) (lo' := lX9_cut) (bc' := 0) (bs' := 0) (bcr := bc) (bsr := bs) dX11_end_5 zs_X11_134 zi_X9_cut zcl_9 (hS.has (a := 1) rfl rfl) rfl rfl (Nat.le_of_ble_eq_true rfl) (Nat.le_of_ble_eq_true rfl) (Nat.le_of_ble_eq_true rfl) (Nat.le_refl _) (Nat.le_refl _) ?_
  refine ZC.mono (fun w S' I1 L1 k => ?_) k
  obtain ⟨r1, rfl, rfl, k⟩ := k
  show ZW G mX11_end fX11_end lX11_end 8 [zo G 0, .int v1] [.int r1] S I1 L1 bc bs Q
  exact zr_ireturn dX11_end_8 rfl k.1 k.2
set_option maxHeartbeats 2000000 in
theorem vX11_mark_0 {G : Gp} {bc bs : Nat} {Q : zPost} {S : zSh} {I : zFI} {L : zFL} {v1 : Int32} (hS : zStd S)  (k : (((p_X10_hasJoint I v1) = 0 → ZC G mX9_clear fX9_clear lX9_clear [zo G 1] S I L 0 0 (fun w S' I1 L1 => w = none ∧ S = S' ∧ (((-1 : Int32) = (-1 : Int32) → Q (some (.int (-1 : Int32))) S I1 L1) ∧ (¬ (-1 : Int32) = (-1 : Int32) → ZC G mX6_showUpTo fX6_showUpTo lX6_showUpTo [zo G 19, .int (p_X11_lastDaySeen I1)] S I1 L1 0 0 (fun w S' I2 L2 => w = none ∧ S = S' ∧ Q (some (.int (-1 : Int32))) S (u2 I2 0 16 (1 : Int32)) L2))))) ∧ (¬ (p_X10_hasJoint I v1) = 0 → ZC G mX6_tell fX6_tell lX6_tell [zo G 19, .int v1, .int (I 0 14), zo G 1] S I L 0 0 (fun w S' I3 L3 => ∃ r3 : Int32, w = some (.int r3) ∧ S = S' ∧ ZC G mX9_clear fX9_clear lX9_clear [zo G 1] S I3 L3 0 0 (fun w S' I4 L4 => w = none ∧ S = S' ∧ ((r3 = (-1 : Int32) → Q (some (.int r3)) S I4 L4) ∧ (¬ r3 = (-1 : Int32) → ZC G mX6_showUpTo fX6_showUpTo lX6_showUpTo [zo G 19, .int (p_X11_lastDaySeen I4)] S I4 L4 0 0 (fun w S' I5 L5 => w = none ∧ S = S' ∧ Q (some (.int r3)) S (u2 I5 0 16 (1 : Int32)) L5)))))))) : ZW G mX11_mark fX11_mark lX11_mark 0 [zo G 0, .int v1, .null] [] S I L bc bs Q := by
  refine zr_aload_n dX11_mark_0 rfl rfl ?_
  refine zr_getR dX11_mark_1 zf_X11_33 rfl (hS.has (a := 0) rfl rfl) (hS.ref (a := 10) rfl) ?_
  refine zr_iload_n dX11_mark_4 rfl rfl ?_
  refine zr_callV (As := [.int v1]) (fr' := fX10_hasJoint) (lo' := lX10_hasJoint) (bc' := 0) (bs' := 0) (bcr := bc) (bsr := bs) dX11_mark_5 zs_X11_137 zi_X10_hasJoint zcl_10 (hS.has (a := 10) rfl rfl) rfl rfl (Nat.le_of_ble_eq_true rfl) (Nat.le_of_ble_eq_true rfl) (Nat.le_of_ble_eq_true rfl) (Nat.le_refl _) (Nat.le_refl _) ?_
  refine sp_X10_hasJoint hS  ?_
  show ZW G mX11_mark fX11_mark lX11_mark 8 [zo G 0, .int v1, .null] [.int (p_X10_hasJoint I v1)] S I L bc bs Q
  refine zr_ifeq (tgt := 30) dX11_mark_8 (by decide) (fun hb => ?_) (fun hb => ?_)
  · have k := k.1 hb
    refine zr_iconst (v := -1) dX11_mark_30 (by decide) ?_
    refine zr_istore_n dX11_mark_31 rfl (Nat.le_of_ble_eq_true rfl) rfl ?_
    refine zr_aload_n dX11_mark_32 rfl rfl ?_
    refine zr_getR dX11_mark_33 zf_X11_12 rfl (hS.has (a := 0) rfl rfl) (hS.ref (a := 1) rfl) ?_
    refine zr_callV (As := []) (fr' := fX9_clear) (lo' := lX9_clear) (bc' := 0) (bs' := 0) (bcr := bc) (bsr := bs) dX11_mark_36 zs_X11_144 zi_X9_clear zcl_9 (hS.has (a := 1) rfl rfl) rfl rfl (Nat.le_of_ble_eq_true rfl) (Nat.le_of_ble_eq_true rfl) (Nat.le_of_ble_eq_true rfl) (Nat.le_refl _) (Nat.le_refl _) ?_
    refine ZC.mono (fun w S' I1 L1 k => ?_) k
    obtain ⟨rfl, rfl, k⟩ := k
    show ZW G mX11_mark fX11_mark lX11_mark 39 [zo G 0, .int v1, .int (-1 : Int32)] [] S I1 L1 bc bs Q
    refine zr_iload_n dX11_mark_39 rfl rfl ?_
    refine zr_iconst (v := -1) dX11_mark_40 (by decide) ?_
    refine zr_iceq (tgt := 60) dX11_mark_41 (by decide) (fun hb => ?_) (fun hb => ?_)
    · have k := k.1 hb
      refine zr_iload_n dX11_mark_60 rfl rfl ?_
      exact zr_ireturn dX11_mark_61 rfl rfl k
    · have k := k.2 hb
      refine zr_aload_n dX11_mark_44 rfl rfl ?_
      refine zr_getR dX11_mark_45 zf_X11_40 rfl (hS.has (a := 0) rfl rfl) (hS.ref (a := 19) rfl) ?_
      refine zr_aload_n dX11_mark_48 rfl rfl ?_
      refine zr_callV (As := []) (fr' := fX11_lastDaySeen) (lo' := lX11_lastDaySeen) (bc' := 0) (bs' := 0) (bcr := bc) (bsr := bs) dX11_mark_49 zs_X11_108 zi_X11_lastDaySeen zcl_11 (hS.has (a := 0) rfl rfl) rfl rfl (Nat.le_of_ble_eq_true rfl) (Nat.le_of_ble_eq_true rfl) (Nat.le_of_ble_eq_true rfl) (Nat.le_refl _) (Nat.le_refl _) ?_
      refine sp_X11_lastDaySeen hS  ?_
      show ZW G mX11_mark fX11_mark lX11_mark 52 [zo G 0, .int v1, .int (-1 : Int32)] [.int (p_X11_lastDaySeen I1), zo G 19] S I1 L1 bc bs Q
      refine zr_callV (As := [.int (p_X11_lastDaySeen I1)]) (fr' := fX6_showUpTo) (lo' := lX6_showUpTo) (bc' := 0) (bs' := 0) (bcr := bc) (bsr := bs) dX11_mark_52 zs_X11_112 zi_X6_showUpTo zcl_6 (hS.has (a := 19) rfl rfl) rfl rfl (Nat.le_of_ble_eq_true rfl) (Nat.le_of_ble_eq_true rfl) (Nat.le_of_ble_eq_true rfl) (Nat.le_refl _) (Nat.le_refl _) ?_
      refine ZC.mono (fun w S' I2 L2 k => ?_) k
      obtain ⟨rfl, rfl, k⟩ := k
      show ZW G mX11_mark fX11_mark lX11_mark 55 [zo G 0, .int v1, .int (-1 : Int32)] [] S I2 L2 bc bs Q
      refine zr_aload_n dX11_mark_55 rfl rfl ?_
      refine zr_iconst (v := 1) dX11_mark_56 (by decide) ?_
      refine zr_putI dX11_mark_57 zf_X11_104 rfl (hS.has (a := 0) rfl rfl) rfl rfl ?_
      refine zr_iload_n dX11_mark_60 rfl rfl ?_
      exact zr_ireturn dX11_mark_61 rfl rfl k
  · have k := k.2 hb
    refine zr_aload_n dX11_mark_11 rfl rfl ?_
    refine zr_getR dX11_mark_12 zf_X11_40 rfl (hS.has (a := 0) rfl rfl) (hS.ref (a := 19) rfl) ?_
    refine zr_iload_n dX11_mark_15 rfl rfl ?_
    refine zr_aload_n dX11_mark_16 rfl rfl ?_
    refine zr_getIv (x := (I 0 14)) dX11_mark_17 zf_X11_98 rfl (hS.has (a := 0) rfl rfl) rfl ?_
    refine zr_aload_n dX11_mark_20 rfl rfl ?_
    refine zr_getR dX11_mark_21 zf_X11_12 rfl (hS.has (a := 0) rfl rfl) (hS.ref (a := 1) rfl) ?_
    refine zr_callV (As := [.int v1, .int (I 0 14), zo G 1]) (fr' := fX6_tell) (lo' := lX6_tell) (bc' := 0) (bs' := 0) (bcr := bc) (bsr := bs) dX11_mark_24 zs_X11_140 zi_X6_tell zcl_6 (hS.has (a := 19) rfl rfl) rfl rfl (Nat.le_of_ble_eq_true rfl) (Nat.le_of_ble_eq_true rfl) (Nat.le_of_ble_eq_true rfl) (Nat.le_refl _) (Nat.le_refl _) ?_
    refine ZC.mono (fun w S' I3 L3 k => ?_) k
    obtain ⟨r3, rfl, rfl, k⟩ := k
    show ZW G mX11_mark fX11_mark lX11_mark 27 [zo G 0, .int v1, .null] [.int r3] S I3 L3 bc bs Q
    refine zr_goto (tgt := 31) dX11_mark_27 (by decide) ?_
    refine zr_istore_n dX11_mark_31 rfl (Nat.le_of_ble_eq_true rfl) rfl ?_
    refine zr_aload_n dX11_mark_32 rfl rfl ?_
    refine zr_getR dX11_mark_33 zf_X11_12 rfl (hS.has (a := 0) rfl rfl) (hS.ref (a := 1) rfl) ?_
    refine zr_callV (As := []) (fr' := fX9_clear) (lo' := lX9_clear) (bc' := 0) (bs' := 0) (bcr := bc) (bsr := bs) dX11_mark_36 zs_X11_144 zi_X9_clear zcl_9 (hS.has (a := 1) rfl rfl) rfl rfl (Nat.le_of_ble_eq_true rfl) (Nat.le_of_ble_eq_true rfl) (Nat.le_of_ble_eq_true rfl) (Nat.le_refl _) (Nat.le_refl _) ?_
    refine ZC.mono (fun w S' I4 L4 k => ?_) k
    obtain ⟨rfl, rfl, k⟩ := k
    show ZW G mX11_mark fX11_mark lX11_mark 39 [zo G 0, .int v1, .int r3] [] S I4 L4 bc bs Q
    refine zr_iload_n dX11_mark_39 rfl rfl ?_
    refine zr_iconst (v := -1) dX11_mark_40 (by decide) ?_
    refine zr_iceq (tgt := 60) dX11_mark_41 (by decide) (fun hb => ?_) (fun hb => ?_)
    · have k := k.1 hb
      refine zr_iload_n dX11_mark_60 rfl rfl ?_
      exact zr_ireturn dX11_mark_61 rfl rfl k
    · have k := k.2 hb
      refine zr_aload_n dX11_mark_44 rfl rfl ?_
      refine zr_getR dX11_mark_45 zf_X11_40 rfl (hS.has (a := 0) rfl rfl) (hS.ref (a := 19) rfl) ?_
      refine zr_aload_n dX11_mark_48 rfl rfl ?_
      refine zr_callV (As := []) (fr' := fX11_lastDaySeen) (lo' := lX11_lastDaySeen) (bc' := 0) (bs' := 0) (bcr := bc) (bsr := bs) dX11_mark_49 zs_X11_108 zi_X11_lastDaySeen zcl_11 (hS.has (a := 0) rfl rfl) rfl rfl (Nat.le_of_ble_eq_true rfl) (Nat.le_of_ble_eq_true rfl) (Nat.le_of_ble_eq_true rfl) (Nat.le_refl _) (Nat.le_refl _) ?_
      refine sp_X11_lastDaySeen hS  ?_
      show ZW G mX11_mark fX11_mark lX11_mark 52 [zo G 0, .int v1, .int r3] [.int (p_X11_lastDaySeen I4), zo G 19] S I4 L4 bc bs Q
      refine zr_callV (As := [.int (p_X11_lastDaySeen I4)]) (fr' := fX6_showUpTo) (lo' := lX6_showUpTo) (bc' := 0) (bs' := 0) (bcr := bc) (bsr := bs) dX11_mark_52 zs_X11_112 zi_X6_showUpTo zcl_6 (hS.has (a := 19) rfl rfl) rfl rfl (Nat.le_of_ble_eq_true rfl) (Nat.le_of_ble_eq_true rfl) (Nat.le_of_ble_eq_true rfl) (Nat.le_refl _) (Nat.le_refl _) ?_
      refine ZC.mono (fun w S' I5 L5 k => ?_) k
      obtain ⟨rfl, rfl, k⟩ := k
      show ZW G mX11_mark fX11_mark lX11_mark 55 [zo G 0, .int v1, .int r3] [] S I5 L5 bc bs Q
      refine zr_aload_n dX11_mark_55 rfl rfl ?_
      refine zr_iconst (v := 1) dX11_mark_56 (by decide) ?_
      refine zr_putI dX11_mark_57 zf_X11_104 rfl (hS.has (a := 0) rfl rfl) rfl rfl ?_
      refine zr_iload_n dX11_mark_60 rfl rfl ?_
      exact zr_ireturn dX11_mark_61 rfl rfl k
set_option maxHeartbeats 2000000 in
theorem vX11_isCustom_0 {G : Gp} {bc bs : Nat} {Q : zPost} {S : zSh} {I : zFI} {L : zFL} {v1 : Int32} (hS : zStd S)  (k : ((v1 = 0 → Q (some (.int (1 : Int32))) S I L) ∧ (¬ v1 = 0 → ((¬ v1 = (1 : Int32) → Q (some (.int (0 : Int32))) S I L) ∧ (v1 = (1 : Int32) → Q (some (.int (1 : Int32))) S I L))))) : ZW G mX11_isCustom fX11_isCustom lX11_isCustom 0 [zo G 0, .int v1] [] S I L bc bs Q := by
  refine zr_iload_n dX11_isCustom_0 rfl rfl ?_
  refine zr_ifeq (tgt := 9) dX11_isCustom_1 (by decide) (fun hb => ?_) (fun hb => ?_)
  · have k := k.1 hb
    refine zr_iconst (v := 1) dX11_isCustom_9 (by decide) ?_
    refine zr_goto (tgt := 14) dX11_isCustom_10 (by decide) ?_
    exact zr_ireturn dX11_isCustom_14 rfl rfl k
  · have k := k.2 hb
    refine zr_iload_n dX11_isCustom_4 rfl rfl ?_
    refine zr_iconst (v := 1) dX11_isCustom_5 (by decide) ?_
    refine zr_icne (tgt := 13) dX11_isCustom_6 (by decide) (fun hb => ?_) (fun hb => ?_)
    · have k := k.1 hb
      refine zr_iconst (v := 0) dX11_isCustom_13 (by decide) ?_
      exact zr_ireturn dX11_isCustom_14 rfl rfl k
    · have k := k.2 hb
      refine zr_iconst (v := 1) dX11_isCustom_9 (by decide) ?_
      refine zr_goto (tgt := 14) dX11_isCustom_10 (by decide) ?_
      exact zr_ireturn dX11_isCustom_14 rfl rfl k
def p_X11_isCustom  (v1 : Int32) : Int32 := (if v1 = 0 then (1 : Int32) else (if v1 = (1 : Int32) then (1 : Int32) else (0 : Int32)))
set_option maxHeartbeats 2000000 in
theorem sp_X11_isCustom {G : Gp} {Q : zPost} {S : zSh} {I : zFI} {L : zFL} {v1 : Int32} (hS : zStd S)  (h : Q (some (.int (p_X11_isCustom  v1))) S I L) : ZC G mX11_isCustom fX11_isCustom lX11_isCustom [zo G 0, .int v1] S I L 0 0 Q := by
  refine ZC.of' (vX11_isCustom_0 hS  ?_) rfl (Nat.le_of_ble_eq_true rfl) rfl
  unfold p_X11_isCustom at h
  refine ⟨fun hb1 => ?_, fun hb1 => ?_⟩
  · rw [if_pos hb1] at h
    exact h
  · rw [if_neg hb1] at h
    refine ⟨fun hb2 => ?_, fun hb2 => ?_⟩
    · rw [if_neg hb2] at h
      exact h
    · rw [if_pos hb2] at h
      exact h
theorem pb_X11_isCustom  (v1 : Int32) : p_X11_isCustom  v1 = 0 ∨ p_X11_isCustom  v1 = 1 := by
  unfold p_X11_isCustom
  repeat' split
  all_goals first | exact Or.inl rfl | exact Or.inr rfl | assumption
set_option maxHeartbeats 2000000 in
theorem vX11_fault_0 {G : Gp} {bc bs : Nat} {Q : zPost} {S : zSh} {I : zFI} {L : zFL} {v1 : Int32} (hS : zStd S)  (k : ((¬ v1 = 0 → ((¬ v1 = (1 : Int32) → Q (some (.int (-1 : Int32))) S I L) ∧ (v1 = (1 : Int32) → Q (some (.int (p_X2_faultPlace I))) S I L))) ∧ (v1 = 0 → Q (some (.int (p_X2_faultKind I))) S I L))) : ZW G mX11_fault fX11_fault lX11_fault 0 [zo G 0, .int v1] [] S I L bc bs Q := by
  refine zr_iload_n dX11_fault_0 rfl rfl ?_
  refine zr_ifne (tgt := 12) dX11_fault_1 (by decide) (fun hb => ?_) (fun hb => ?_)
  · have k := k.1 hb
    refine zr_iload_n dX11_fault_12 rfl rfl ?_
    refine zr_iconst (v := 1) dX11_fault_13 (by decide) ?_
    refine zr_icne (tgt := 27) dX11_fault_14 (by decide) (fun hb => ?_) (fun hb => ?_)
    · have k := k.1 hb
      refine zr_iconst (v := -1) dX11_fault_27 (by decide) ?_
      exact zr_ireturn dX11_fault_28 rfl rfl k
    · have k := k.2 hb
      refine zr_aload_n dX11_fault_17 rfl rfl ?_
      refine zr_getR dX11_fault_18 zf_X11_19 rfl (hS.has (a := 0) rfl rfl) (hS.ref (a := 3) rfl) ?_
      refine zr_callV (As := []) (fr' := fX2_faultPlace) (lo' := lX2_faultPlace) (bc' := 0) (bs' := 0) (bcr := bc) (bsr := bs) dX11_fault_21 zs_X11_157 zi_X2_faultPlace zcl_2 (hS.has (a := 3) rfl rfl) rfl rfl (Nat.le_of_ble_eq_true rfl) (Nat.le_of_ble_eq_true rfl) (Nat.le_of_ble_eq_true rfl) (Nat.le_refl _) (Nat.le_refl _) ?_
      refine sp_X2_faultPlace hS  ?_
      show ZW G mX11_fault fX11_fault lX11_fault 24 [zo G 0, .int v1] [.int (p_X2_faultPlace I)] S I L bc bs Q
      refine zr_goto (tgt := 28) dX11_fault_24 (by decide) ?_
      exact zr_ireturn dX11_fault_28 rfl rfl k
  · have k := k.2 hb
    refine zr_aload_n dX11_fault_4 rfl rfl ?_
    refine zr_getR dX11_fault_5 zf_X11_19 rfl (hS.has (a := 0) rfl rfl) (hS.ref (a := 3) rfl) ?_
    refine zr_callV (As := []) (fr' := fX2_faultKind) (lo' := lX2_faultKind) (bc' := 0) (bs' := 0) (bcr := bc) (bsr := bs) dX11_fault_8 zs_X11_154 zi_X2_faultKind zcl_2 (hS.has (a := 3) rfl rfl) rfl rfl (Nat.le_of_ble_eq_true rfl) (Nat.le_of_ble_eq_true rfl) (Nat.le_of_ble_eq_true rfl) (Nat.le_refl _) (Nat.le_refl _) ?_
    refine sp_X2_faultKind hS  ?_
    show ZW G mX11_fault fX11_fault lX11_fault 11 [zo G 0, .int v1] [.int (p_X2_faultKind I)] S I L bc bs Q
    exact zr_ireturn dX11_fault_11 rfl rfl k
def p_X11_fault (I : zFI) (v1 : Int32) : Int32 := (if v1 = 0 then (p_X2_faultKind I) else (if v1 = (1 : Int32) then (p_X2_faultPlace I) else (-1 : Int32)))
set_option maxHeartbeats 2000000 in
theorem sp_X11_fault {G : Gp} {Q : zPost} {S : zSh} {I : zFI} {L : zFL} {v1 : Int32} (hS : zStd S)  (h : Q (some (.int (p_X11_fault I v1))) S I L) : ZC G mX11_fault fX11_fault lX11_fault [zo G 0, .int v1] S I L 0 0 Q := by
  refine ZC.of' (vX11_fault_0 hS  ?_) rfl (Nat.le_of_ble_eq_true rfl) rfl
  unfold p_X11_fault at h
  refine ⟨fun hb1 => ?_, fun hb1 => ?_⟩
  · rw [if_neg hb1] at h
    refine ⟨fun hb2 => ?_, fun hb2 => ?_⟩
    · rw [if_neg hb2] at h
      exact h
    · rw [if_pos hb2] at h
      exact h
  · rw [if_pos hb1] at h
    exact h
set_option maxHeartbeats 2000000 in
theorem vX11_timbersSeen_0 {G : Gp} {bc bs : Nat} {Q : zPost} {S : zSh} {I : zFI} {L : zFL}  (hS : zStd S)  (k : ZC G mX10_timbersUpTo fX10_timbersUpTo lX10_timbersUpTo [zo G 10, .int (p_X11_lastDaySeen I)] S I L 0 0 (fun w S' I1 L1 => ∃ r1 : Int32, w = some (.int r1) ∧ S = S' ∧ Q (some (.int r1)) S I1 L1)) : ZW G mX11_timbersSeen fX11_timbersSeen lX11_timbersSeen 0 [zo G 0] [] S I L bc bs Q := by
  refine zr_aload_n dX11_timbersSeen_0 rfl rfl ?_
  refine zr_getR dX11_timbersSeen_1 zf_X11_33 rfl (hS.has (a := 0) rfl rfl) (hS.ref (a := 10) rfl) ?_
  refine zr_aload_n dX11_timbersSeen_4 rfl rfl ?_
  refine zr_callV (As := []) (fr' := fX11_lastDaySeen) (lo' := lX11_lastDaySeen) (bc' := 0) (bs' := 0) (bcr := bc) (bsr := bs) dX11_timbersSeen_5 zs_X11_108 zi_X11_lastDaySeen zcl_11 (hS.has (a := 0) rfl rfl) rfl rfl (Nat.le_of_ble_eq_true rfl) (Nat.le_of_ble_eq_true rfl) (Nat.le_of_ble_eq_true rfl) (Nat.le_refl _) (Nat.le_refl _) ?_
  refine sp_X11_lastDaySeen hS  ?_
  show ZW G mX11_timbersSeen fX11_timbersSeen lX11_timbersSeen 8 [zo G 0] [.int (p_X11_lastDaySeen I), zo G 10] S I L bc bs Q
  refine zr_callV (As := [.int (p_X11_lastDaySeen I)]) (fr' := fX10_timbersUpTo) (lo' := lX10_timbersUpTo) (bc' := 0) (bs' := 0) (bcr := bc) (bsr := bs) dX11_timbersSeen_8 zs_X11_339 zi_X10_timbersUpTo zcl_10 (hS.has (a := 10) rfl rfl) rfl rfl (Nat.le_of_ble_eq_true rfl) (Nat.le_of_ble_eq_true rfl) (Nat.le_of_ble_eq_true rfl) (Nat.le_refl _) (Nat.le_refl _) ?_
  refine ZC.mono (fun w S' I1 L1 k => ?_) k
  obtain ⟨r1, rfl, rfl, k⟩ := k
  show ZW G mX11_timbersSeen fX11_timbersSeen lX11_timbersSeen 11 [zo G 0] [.int r1] S I1 L1 bc bs Q
  exact zr_ireturn dX11_timbersSeen_11 rfl rfl k
set_option maxHeartbeats 2000000 in
theorem vX11_jointsSeen_0 {G : Gp} {bc bs : Nat} {Q : zPost} {S : zSh} {I : zFI} {L : zFL}  (hS : zStd S)  (k : ZC G mX10_jointsUpTo fX10_jointsUpTo lX10_jointsUpTo [zo G 10, .int (p_X11_lastDaySeen I)] S I L 0 0 (fun w S' I1 L1 => ∃ r1 : Int32, w = some (.int r1) ∧ S = S' ∧ Q (some (.int r1)) S I1 L1)) : ZW G mX11_jointsSeen fX11_jointsSeen lX11_jointsSeen 0 [zo G 0] [] S I L bc bs Q := by
  refine zr_aload_n dX11_jointsSeen_0 rfl rfl ?_
  refine zr_getR dX11_jointsSeen_1 zf_X11_33 rfl (hS.has (a := 0) rfl rfl) (hS.ref (a := 10) rfl) ?_
  refine zr_aload_n dX11_jointsSeen_4 rfl rfl ?_
  refine zr_callV (As := []) (fr' := fX11_lastDaySeen) (lo' := lX11_lastDaySeen) (bc' := 0) (bs' := 0) (bcr := bc) (bsr := bs) dX11_jointsSeen_5 zs_X11_108 zi_X11_lastDaySeen zcl_11 (hS.has (a := 0) rfl rfl) rfl rfl (Nat.le_of_ble_eq_true rfl) (Nat.le_of_ble_eq_true rfl) (Nat.le_of_ble_eq_true rfl) (Nat.le_refl _) (Nat.le_refl _) ?_
  refine sp_X11_lastDaySeen hS  ?_
  show ZW G mX11_jointsSeen fX11_jointsSeen lX11_jointsSeen 8 [zo G 0] [.int (p_X11_lastDaySeen I), zo G 10] S I L bc bs Q
  refine zr_callV (As := [.int (p_X11_lastDaySeen I)]) (fr' := fX10_jointsUpTo) (lo' := lX10_jointsUpTo) (bc' := 0) (bs' := 0) (bcr := bc) (bsr := bs) dX11_jointsSeen_8 zs_X11_342 zi_X10_jointsUpTo zcl_10 (hS.has (a := 10) rfl rfl) rfl rfl (Nat.le_of_ble_eq_true rfl) (Nat.le_of_ble_eq_true rfl) (Nat.le_of_ble_eq_true rfl) (Nat.le_refl _) (Nat.le_refl _) ?_
  refine ZC.mono (fun w S' I1 L1 k => ?_) k
  obtain ⟨r1, rfl, rfl, k⟩ := k
  show ZW G mX11_jointsSeen fX11_jointsSeen lX11_jointsSeen 11 [zo G 0] [.int r1] S I1 L1 bc bs Q
  exact zr_ireturn dX11_jointsSeen_11 rfl rfl k
set_option maxHeartbeats 2000000 in
theorem vX11_canFit_0 {G : Gp} {bc bs : Nat} {Q : zPost} {S : zSh} {I : zFI} {L : zFL} {c1 : Nat} {v2 : Int32} {v3 : Int32} (hS : zStd S) (hc1 : zCu c1) (k : (((p_X10_timberOf I v2) = (p_X10_timberOf I v3) → Q (some (.int (0 : Int32))) S I L) ∧ (¬ (p_X10_timberOf I v2) = (p_X10_timberOf I v3) → ((((p_X10_sizeOf I v3) - (p_X10_sizeOf I v2)) < 0 → Q (some (.int (0 : Int32))) S I L) ∧ (¬ ((p_X10_sizeOf I v3) - (p_X10_sizeOf I v2)) < 0 → ((((p_X10_sizeOf I v3) - (p_X10_sizeOf I v2)) ≤ (I c1 2) → ((¬ (p_X1_goesInto I c1 (p_X10_kindOf I (p_X10_timberOf I v2)) (p_X10_kindOf I (p_X10_timberOf I v3))) = 0 → (((p_X6_signsOn I v2) = 0 → Q (some (.int (1 : Int32))) S I L) ∧ (¬ (p_X6_signsOn I v2) = 0 → (((p_X6_signsOn I v3) = 0 → Q (some (.int (1 : Int32))) S I L) ∧ (¬ (p_X6_signsOn I v3) = 0 → ((¬ (p_X6_sideOf I v2) = (p_X6_sideOf I v3) → Q (some (.int (0 : Int32))) S I L) ∧ ((p_X6_sideOf I v2) = (p_X6_sideOf I v3) → Q (some (.int (1 : Int32))) S I L))))))) ∧ ((p_X1_goesInto I c1 (p_X10_kindOf I (p_X10_timberOf I v2)) (p_X10_kindOf I (p_X10_timberOf I v3))) = 0 → Q (some (.int (0 : Int32))) S I L))) ∧ (¬ ((p_X10_sizeOf I v3) - (p_X10_sizeOf I v2)) ≤ (I c1 2) → Q (some (.int (0 : Int32))) S I L))))))) : ZW G mX11_canFit fX11_canFit lX11_canFit 0 [zo G 0, zo G c1, .int v2, .int v3, .null, .null, .null] [] S I L bc bs Q := by
  refine zr_aload_n dX11_canFit_0 rfl rfl ?_
  refine zr_getR dX11_canFit_1 zf_X11_33 rfl (hS.has (a := 0) rfl rfl) (hS.ref (a := 10) rfl) ?_
  refine zr_iload_n dX11_canFit_4 rfl rfl ?_
  refine zr_callV (As := [.int v2]) (fr' := fX10_timberOf) (lo' := lX10_timberOf) (bc' := 0) (bs' := 0) (bcr := bc) (bsr := bs) dX11_canFit_5 zs_X11_204 zi_X10_timberOf zcl_10 (hS.has (a := 10) rfl rfl) rfl rfl (Nat.le_of_ble_eq_true rfl) (Nat.le_of_ble_eq_true rfl) (Nat.le_of_ble_eq_true rfl) (Nat.le_refl _) (Nat.le_refl _) ?_
  refine sp_X10_timberOf hS  ?_
  show ZW G mX11_canFit fX11_canFit lX11_canFit 8 [zo G 0, zo G c1, .int v2, .int v3, .null, .null, .null] [.int (p_X10_timberOf I v2)] S I L bc bs Q
  refine zr_istore dX11_canFit_8 (Nat.le_of_ble_eq_true rfl) rfl ?_
  refine zr_aload_n dX11_canFit_10 rfl rfl ?_
  refine zr_getR dX11_canFit_11 zf_X11_33 rfl (hS.has (a := 0) rfl rfl) (hS.ref (a := 10) rfl) ?_
  refine zr_iload_n dX11_canFit_14 rfl rfl ?_
  refine zr_callV (As := [.int v3]) (fr' := fX10_timberOf) (lo' := lX10_timberOf) (bc' := 0) (bs' := 0) (bcr := bc) (bsr := bs) dX11_canFit_15 zs_X11_204 zi_X10_timberOf zcl_10 (hS.has (a := 10) rfl rfl) rfl rfl (Nat.le_of_ble_eq_true rfl) (Nat.le_of_ble_eq_true rfl) (Nat.le_of_ble_eq_true rfl) (Nat.le_refl _) (Nat.le_refl _) ?_
  refine sp_X10_timberOf hS  ?_
  show ZW G mX11_canFit fX11_canFit lX11_canFit 18 [zo G 0, zo G c1, .int v2, .int v3, .int (p_X10_timberOf I v2), .null, .null] [.int (p_X10_timberOf I v3)] S I L bc bs Q
  refine zr_istore dX11_canFit_18 (Nat.le_of_ble_eq_true rfl) rfl ?_
  refine zr_aload_n dX11_canFit_20 rfl rfl ?_
  refine zr_getR dX11_canFit_21 zf_X11_33 rfl (hS.has (a := 0) rfl rfl) (hS.ref (a := 10) rfl) ?_
  refine zr_iload_n dX11_canFit_24 rfl rfl ?_
  refine zr_callV (As := [.int v3]) (fr' := fX10_sizeOf) (lo' := lX10_sizeOf) (bc' := 0) (bs' := 0) (bcr := bc) (bsr := bs) dX11_canFit_25 zs_X11_213 zi_X10_sizeOf zcl_10 (hS.has (a := 10) rfl rfl) rfl rfl (Nat.le_of_ble_eq_true rfl) (Nat.le_of_ble_eq_true rfl) (Nat.le_of_ble_eq_true rfl) (Nat.le_refl _) (Nat.le_refl _) ?_
  refine sp_X10_sizeOf hS  ?_
  show ZW G mX11_canFit fX11_canFit lX11_canFit 28 [zo G 0, zo G c1, .int v2, .int v3, .int (p_X10_timberOf I v2), .int (p_X10_timberOf I v3), .null] [.int (p_X10_sizeOf I v3)] S I L bc bs Q
  refine zr_aload_n dX11_canFit_28 rfl rfl ?_
  refine zr_getR dX11_canFit_29 zf_X11_33 rfl (hS.has (a := 0) rfl rfl) (hS.ref (a := 10) rfl) ?_
  refine zr_iload_n dX11_canFit_32 rfl rfl ?_
  refine zr_callV (As := [.int v2]) (fr' := fX10_sizeOf) (lo' := lX10_sizeOf) (bc' := 0) (bs' := 0) (bcr := bc) (bsr := bs) dX11_canFit_33 zs_X11_213 zi_X10_sizeOf zcl_10 (hS.has (a := 10) rfl rfl) rfl rfl (Nat.le_of_ble_eq_true rfl) (Nat.le_of_ble_eq_true rfl) (Nat.le_of_ble_eq_true rfl) (Nat.le_refl _) (Nat.le_refl _) ?_
  refine sp_X10_sizeOf hS  ?_
  show ZW G mX11_canFit fX11_canFit lX11_canFit 36 [zo G 0, zo G c1, .int v2, .int v3, .int (p_X10_timberOf I v2), .int (p_X10_timberOf I v3), .null] [.int (p_X10_sizeOf I v2), .int (p_X10_sizeOf I v3)] S I L bc bs Q
  refine zr_isub dX11_canFit_36 ?_
  refine zr_istore dX11_canFit_37 (Nat.le_of_ble_eq_true rfl) rfl ?_
  refine zr_iload dX11_canFit_39 rfl ?_
  refine zr_iload dX11_canFit_41 rfl ?_
  refine zr_iceq (tgt := 60) dX11_canFit_43 (by decide) (fun hb => ?_) (fun hb => ?_)
  · have k := k.1 hb
    refine zr_iconst (v := 0) dX11_canFit_60 (by decide) ?_
    exact zr_ireturn dX11_canFit_61 rfl rfl k
  · have k := k.2 hb
    refine zr_iload dX11_canFit_46 rfl ?_
    refine zr_iflt (tgt := 60) dX11_canFit_48 (by decide) (fun hb => ?_) (fun hb => ?_)
    · have k := k.1 hb
      refine zr_iconst (v := 0) dX11_canFit_60 (by decide) ?_
      exact zr_ireturn dX11_canFit_61 rfl rfl k
    · have k := k.2 hb
      refine zr_iload dX11_canFit_51 rfl ?_
      refine zr_aload_n dX11_canFit_53 rfl rfl ?_
      refine zr_getIv (x := (I c1 2)) dX11_canFit_54 zf_X11_345 rfl (hS.hasC hc1) rfl ?_
      refine zr_icle (tgt := 62) dX11_canFit_57 (by decide) (fun hb => ?_) (fun hb => ?_)
      · have k := k.1 hb
        refine zr_aload_n dX11_canFit_62 rfl rfl ?_
        refine zr_aload_n dX11_canFit_63 rfl rfl ?_
        refine zr_getR dX11_canFit_64 zf_X11_33 rfl (hS.has (a := 0) rfl rfl) (hS.ref (a := 10) rfl) ?_
        refine zr_iload dX11_canFit_67 rfl ?_
        refine zr_callV (As := [.int (p_X10_timberOf I v2)]) (fr' := fX10_kindOf) (lo' := lX10_kindOf) (bc' := 0) (bs' := 0) (bcr := bc) (bsr := bs) dX11_canFit_69 zs_X11_179 zi_X10_kindOf zcl_10 (hS.has (a := 10) rfl rfl) rfl rfl (Nat.le_of_ble_eq_true rfl) (Nat.le_of_ble_eq_true rfl) (Nat.le_of_ble_eq_true rfl) (Nat.le_refl _) (Nat.le_refl _) ?_
        refine sp_X10_kindOf hS  ?_
        show ZW G mX11_canFit fX11_canFit lX11_canFit 72 [zo G 0, zo G c1, .int v2, .int v3, .int (p_X10_timberOf I v2), .int (p_X10_timberOf I v3), .int ((p_X10_sizeOf I v3) - (p_X10_sizeOf I v2))] [.int (p_X10_kindOf I (p_X10_timberOf I v2)), zo G c1] S I L bc bs Q
        refine zr_aload_n dX11_canFit_72 rfl rfl ?_
        refine zr_getR dX11_canFit_73 zf_X11_33 rfl (hS.has (a := 0) rfl rfl) (hS.ref (a := 10) rfl) ?_
        refine zr_iload dX11_canFit_76 rfl ?_
        refine zr_callV (As := [.int (p_X10_timberOf I v3)]) (fr' := fX10_kindOf) (lo' := lX10_kindOf) (bc' := 0) (bs' := 0) (bcr := bc) (bsr := bs) dX11_canFit_78 zs_X11_179 zi_X10_kindOf zcl_10 (hS.has (a := 10) rfl rfl) rfl rfl (Nat.le_of_ble_eq_true rfl) (Nat.le_of_ble_eq_true rfl) (Nat.le_of_ble_eq_true rfl) (Nat.le_refl _) (Nat.le_refl _) ?_
        refine sp_X10_kindOf hS  ?_
        show ZW G mX11_canFit fX11_canFit lX11_canFit 81 [zo G 0, zo G c1, .int v2, .int v3, .int (p_X10_timberOf I v2), .int (p_X10_timberOf I v3), .int ((p_X10_sizeOf I v3) - (p_X10_sizeOf I v2))] [.int (p_X10_kindOf I (p_X10_timberOf I v3)), .int (p_X10_kindOf I (p_X10_timberOf I v2)), zo G c1] S I L bc bs Q
        refine zr_callV (As := [.int (p_X10_kindOf I (p_X10_timberOf I v2)), .int (p_X10_kindOf I (p_X10_timberOf I v3))]) (fr' := fX1_goesInto) (lo' := lX1_goesInto) (bc' := 0) (bs' := 0) (bcr := bc) (bsr := bs) dX11_canFit_81 zs_X11_348 zi_X1_goesInto zcl_1 (hS.hasC hc1) rfl rfl (Nat.le_of_ble_eq_true rfl) (Nat.le_of_ble_eq_true rfl) (Nat.le_of_ble_eq_true rfl) (Nat.le_refl _) (Nat.le_refl _) ?_
        refine sp_X1_goesInto hS hc1 ?_
        show ZW G mX11_canFit fX11_canFit lX11_canFit 84 [zo G 0, zo G c1, .int v2, .int v3, .int (p_X10_timberOf I v2), .int (p_X10_timberOf I v3), .int ((p_X10_sizeOf I v3) - (p_X10_sizeOf I v2))] [.int (p_X1_goesInto I c1 (p_X10_kindOf I (p_X10_timberOf I v2)) (p_X10_kindOf I (p_X10_timberOf I v3)))] S I L bc bs Q
        refine zr_ifne (tgt := 89) dX11_canFit_84 (by decide) (fun hb => ?_) (fun hb => ?_)
        · have k := k.1 hb
          refine zr_aload_n dX11_canFit_89 rfl rfl ?_
          refine zr_getR dX11_canFit_90 zf_X11_40 rfl (hS.has (a := 0) rfl rfl) (hS.ref (a := 19) rfl) ?_
          refine zr_iload_n dX11_canFit_93 rfl rfl ?_
          refine zr_callV (As := [.int v2]) (fr' := fX6_signsOn) (lo' := lX6_signsOn) (bc' := 0) (bs' := 0) (bcr := bc) (bsr := bs) dX11_canFit_94 zs_X11_216 zi_X6_signsOn zcl_6 (hS.has (a := 19) rfl rfl) rfl rfl (Nat.le_of_ble_eq_true rfl) (Nat.le_of_ble_eq_true rfl) (Nat.le_of_ble_eq_true rfl) (Nat.le_refl _) (Nat.le_refl _) ?_
          refine sp_X6_signsOn hS  ?_
          show ZW G mX11_canFit fX11_canFit lX11_canFit 97 [zo G 0, zo G c1, .int v2, .int v3, .int (p_X10_timberOf I v2), .int (p_X10_timberOf I v3), .int ((p_X10_sizeOf I v3) - (p_X10_sizeOf I v2))] [.int (p_X6_signsOn I v2)] S I L bc bs Q
          refine zr_ifeq (tgt := 130) dX11_canFit_97 (by decide) (fun hb => ?_) (fun hb => ?_)
          · have k := k.1 hb
            refine zr_iconst (v := 1) dX11_canFit_130 (by decide) ?_
            refine zr_goto (tgt := 135) dX11_canFit_131 (by decide) ?_
            exact zr_ireturn dX11_canFit_135 rfl rfl k
          · have k := k.2 hb
            refine zr_aload_n dX11_canFit_100 rfl rfl ?_
            refine zr_getR dX11_canFit_101 zf_X11_40 rfl (hS.has (a := 0) rfl rfl) (hS.ref (a := 19) rfl) ?_
            refine zr_iload_n dX11_canFit_104 rfl rfl ?_
            refine zr_callV (As := [.int v3]) (fr' := fX6_signsOn) (lo' := lX6_signsOn) (bc' := 0) (bs' := 0) (bcr := bc) (bsr := bs) dX11_canFit_105 zs_X11_216 zi_X6_signsOn zcl_6 (hS.has (a := 19) rfl rfl) rfl rfl (Nat.le_of_ble_eq_true rfl) (Nat.le_of_ble_eq_true rfl) (Nat.le_of_ble_eq_true rfl) (Nat.le_refl _) (Nat.le_refl _) ?_
            refine sp_X6_signsOn hS  ?_
            show ZW G mX11_canFit fX11_canFit lX11_canFit 108 [zo G 0, zo G c1, .int v2, .int v3, .int (p_X10_timberOf I v2), .int (p_X10_timberOf I v3), .int ((p_X10_sizeOf I v3) - (p_X10_sizeOf I v2))] [.int (p_X6_signsOn I v3)] S I L bc bs Q
            refine zr_ifeq (tgt := 130) dX11_canFit_108 (by decide) (fun hb => ?_) (fun hb => ?_)
            · have k := k.1 hb
              refine zr_iconst (v := 1) dX11_canFit_130 (by decide) ?_
              refine zr_goto (tgt := 135) dX11_canFit_131 (by decide) ?_
              exact zr_ireturn dX11_canFit_135 rfl rfl k
            · have k := k.2 hb
              refine zr_aload_n dX11_canFit_111 rfl rfl ?_
              refine zr_getR dX11_canFit_112 zf_X11_40 rfl (hS.has (a := 0) rfl rfl) (hS.ref (a := 19) rfl) ?_
              refine zr_iload_n dX11_canFit_115 rfl rfl ?_
              refine zr_callV (As := [.int v2]) (fr' := fX6_sideOf) (lo' := lX6_sideOf) (bc' := 0) (bs' := 0) (bcr := bc) (bsr := bs) dX11_canFit_116 zs_X11_219 zi_X6_sideOf zcl_6 (hS.has (a := 19) rfl rfl) rfl rfl (Nat.le_of_ble_eq_true rfl) (Nat.le_of_ble_eq_true rfl) (Nat.le_of_ble_eq_true rfl) (Nat.le_refl _) (Nat.le_refl _) ?_
              refine sp_X6_sideOf hS  ?_
              show ZW G mX11_canFit fX11_canFit lX11_canFit 119 [zo G 0, zo G c1, .int v2, .int v3, .int (p_X10_timberOf I v2), .int (p_X10_timberOf I v3), .int ((p_X10_sizeOf I v3) - (p_X10_sizeOf I v2))] [.int (p_X6_sideOf I v2)] S I L bc bs Q
              refine zr_aload_n dX11_canFit_119 rfl rfl ?_
              refine zr_getR dX11_canFit_120 zf_X11_40 rfl (hS.has (a := 0) rfl rfl) (hS.ref (a := 19) rfl) ?_
              refine zr_iload_n dX11_canFit_123 rfl rfl ?_
              refine zr_callV (As := [.int v3]) (fr' := fX6_sideOf) (lo' := lX6_sideOf) (bc' := 0) (bs' := 0) (bcr := bc) (bsr := bs) dX11_canFit_124 zs_X11_219 zi_X6_sideOf zcl_6 (hS.has (a := 19) rfl rfl) rfl rfl (Nat.le_of_ble_eq_true rfl) (Nat.le_of_ble_eq_true rfl) (Nat.le_of_ble_eq_true rfl) (Nat.le_refl _) (Nat.le_refl _) ?_
              refine sp_X6_sideOf hS  ?_
              show ZW G mX11_canFit fX11_canFit lX11_canFit 127 [zo G 0, zo G c1, .int v2, .int v3, .int (p_X10_timberOf I v2), .int (p_X10_timberOf I v3), .int ((p_X10_sizeOf I v3) - (p_X10_sizeOf I v2))] [.int (p_X6_sideOf I v3), .int (p_X6_sideOf I v2)] S I L bc bs Q
              refine zr_icne (tgt := 134) dX11_canFit_127 (by decide) (fun hb => ?_) (fun hb => ?_)
              · have k := k.1 hb
                refine zr_iconst (v := 0) dX11_canFit_134 (by decide) ?_
                exact zr_ireturn dX11_canFit_135 rfl rfl k
              · have k := k.2 hb
                refine zr_iconst (v := 1) dX11_canFit_130 (by decide) ?_
                refine zr_goto (tgt := 135) dX11_canFit_131 (by decide) ?_
                exact zr_ireturn dX11_canFit_135 rfl rfl k
        · have k := k.2 hb
          refine zr_iconst (v := 0) dX11_canFit_87 (by decide) ?_
          exact zr_ireturn dX11_canFit_88 rfl rfl k
      · have k := k.2 hb
        refine zr_iconst (v := 0) dX11_canFit_60 (by decide) ?_
        exact zr_ireturn dX11_canFit_61 rfl rfl k
def p_X11_canFit (I : zFI) (c1 : Nat) (v2 : Int32) (v3 : Int32) : Int32 := (if (p_X10_timberOf I v2) = (p_X10_timberOf I v3) then (0 : Int32) else (if ((p_X10_sizeOf I v3) - (p_X10_sizeOf I v2)) < 0 then (0 : Int32) else (if ((p_X10_sizeOf I v3) - (p_X10_sizeOf I v2)) ≤ (I c1 2) then (if (p_X1_goesInto I c1 (p_X10_kindOf I (p_X10_timberOf I v2)) (p_X10_kindOf I (p_X10_timberOf I v3))) = 0 then (0 : Int32) else (if (p_X6_signsOn I v2) = 0 then (1 : Int32) else (if (p_X6_signsOn I v3) = 0 then (1 : Int32) else (if (p_X6_sideOf I v2) = (p_X6_sideOf I v3) then (1 : Int32) else (0 : Int32))))) else (0 : Int32))))
set_option maxHeartbeats 2000000 in
theorem sp_X11_canFit {G : Gp} {Q : zPost} {S : zSh} {I : zFI} {L : zFL} {c1 : Nat} {v2 : Int32} {v3 : Int32} (hS : zStd S) (hc1 : zCu c1) (h : Q (some (.int (p_X11_canFit I c1 v2 v3))) S I L) : ZC G mX11_canFit fX11_canFit lX11_canFit [zo G 0, zo G c1, .int v2, .int v3] S I L 0 0 Q := by
  refine ZC.of' (vX11_canFit_0 hS hc1 ?_) rfl (Nat.le_of_ble_eq_true rfl) rfl
  unfold p_X11_canFit at h
  refine ⟨fun hb1 => ?_, fun hb1 => ?_⟩
  · rw [if_pos hb1] at h
    exact h
  · rw [if_neg hb1] at h
    refine ⟨fun hb2 => ?_, fun hb2 => ?_⟩
    · rw [if_pos hb2] at h
      exact h
    · rw [if_neg hb2] at h
      refine ⟨fun hb3 => ?_, fun hb3 => ?_⟩
      · rw [if_pos hb3] at h
        refine ⟨fun hb4 => ?_, fun hb4 => ?_⟩
        · rw [if_neg hb4] at h
          refine ⟨fun hb5 => ?_, fun hb5 => ?_⟩
          · rw [if_pos hb5] at h
            exact h
          · rw [if_neg hb5] at h
            refine ⟨fun hb6 => ?_, fun hb6 => ?_⟩
            · rw [if_pos hb6] at h
              exact h
            · rw [if_neg hb6] at h
              refine ⟨fun hb7 => ?_, fun hb7 => ?_⟩
              · rw [if_neg hb7] at h
                exact h
              · rw [if_pos hb7] at h
                exact h
        · rw [if_pos hb4] at h
          exact h
      · rw [if_neg hb3] at h
        exact h
theorem pb_X11_canFit (I : zFI) (c1 : Nat) (v2 : Int32) (v3 : Int32) : p_X11_canFit I c1 v2 v3 = 0 ∨ p_X11_canFit I c1 v2 v3 = 1 := by
  unfold p_X11_canFit
  repeat' split
  all_goals first | exact Or.inl rfl | exact Or.inr rfl | exact pb_X1_goesInto _ _ _ _
set_option maxHeartbeats 2000000 in
theorem vX11_addFits_0 {G : Gp} {bc bs : Nat} {Q : zPost} {S : zSh} {I : zFI} {L : zFL} {v1 : Int32} {v2 : Int32} (hS : zStd S)  (k : (v1 = 0 ∨ v1 = 1) ∧ ZW G mX11_addFits fX11_addFits lX11_addFits 10 [zo G 0, .int v1, .int v2, zo G (zjid v1), .int (0 : Int32), .null] [] S I L bc bs Q) : ZW G mX11_addFits fX11_addFits lX11_addFits 0 [zo G 0, .int v1, .int v2, .null, .null, .null] [] S I L bc bs Q := by
  refine zr_aload_n dX11_addFits_0 rfl rfl ?_
  refine zr_getR dX11_addFits_1 zf_X11_47 rfl (hS.has (a := 0) rfl rfl) (hS.ref (a := 26) rfl) ?_
  refine zr_iload_n dX11_addFits_4 rfl rfl ?_
  obtain ⟨hx, k⟩ := k
  refine zr_aald dX11_addFits_5 (hS.has (a := 26) rfl rfl) (by decide) (zin2 hx) (zjid_ref hS hx) ?_
  refine zr_astore_n dX11_addFits_6 rfl (Nat.le_of_ble_eq_true rfl) rfl ?_
  refine zr_iconst (v := 0) dX11_addFits_7 (by decide) ?_
  refine zr_istore dX11_addFits_8 (Nat.le_of_ble_eq_true rfl) rfl ?_
  exact k
set_option maxHeartbeats 2000000 in
theorem vX11_addFits_10 {G : Gp} {bc bs : Nat} {Q : zPost} {S : zSh} {I : zFI} {L : zFL} {v1 : Int32} {v2 : Int32} {v4 : Int32} (hS : zStd S)  (k : ((v2 ≤ v4 → Q none S I L) ∧ (¬ v2 ≤ v4 → ((¬ (p_X10_sortOf I v4) = 0 → ZW G mX11_addFits fX11_addFits lX11_addFits 10 [zo G 0, .int v1, .int v2, zo G (zjid v1), .int (v4 + 1), .null] [] S I L bc bs Q) ∧ ((p_X10_sortOf I v4) = 0 → (((p_X4_partnerOf I 27 v4) = (-1 : Int32) → ZW G mX11_addFits fX11_addFits lX11_addFits 49 [zo G 0, .int v1, .int v2, zo G (zjid v1), .int v4, .int (0 : Int32)] [] S I L bc bs Q) ∧ (¬ (p_X4_partnerOf I 27 v4) = (-1 : Int32) → ZW G mX11_addFits fX11_addFits lX11_addFits 10 [zo G 0, .int v1, .int v2, zo G (zjid v1), .int (v4 + 1), .null] [] S I L bc bs Q))))))) : ZW G mX11_addFits fX11_addFits lX11_addFits 10 [zo G 0, .int v1, .int v2, zo G (zjid v1), .int v4, .null] [] S I L bc bs Q := by
  refine zr_iload dX11_addFits_10 rfl ?_
  refine zr_iload_n dX11_addFits_12 rfl rfl ?_
  refine zr_icge (tgt := 150) dX11_addFits_13 (by decide) (fun hb => ?_) (fun hb => ?_)
  · have k := k.1 hb
    exact zr_return_ dX11_addFits_150 rfl k
  · have k := k.2 hb
    refine zr_aload_n dX11_addFits_16 rfl rfl ?_
    refine zr_getR dX11_addFits_17 zf_X11_33 rfl (hS.has (a := 0) rfl rfl) (hS.ref (a := 10) rfl) ?_
    refine zr_iload dX11_addFits_20 rfl ?_
    refine zr_callV (As := [.int v4]) (fr' := fX10_sortOf) (lo' := lX10_sortOf) (bc' := 0) (bs' := 0) (bcr := bc) (bsr := bs) dX11_addFits_22 zs_X11_210 zi_X10_sortOf zcl_10 (hS.has (a := 10) rfl rfl) rfl rfl (Nat.le_of_ble_eq_true rfl) (Nat.le_of_ble_eq_true rfl) (Nat.le_of_ble_eq_true rfl) (Nat.le_refl _) (Nat.le_refl _) ?_
    refine sp_X10_sortOf hS  ?_
    show ZW G mX11_addFits fX11_addFits lX11_addFits 25 [zo G 0, .int v1, .int v2, zo G (zjid v1), .int v4, .null] [.int (p_X10_sortOf I v4)] S I L bc bs Q
    refine zr_ifne (tgt := 144) dX11_addFits_25 (by decide) (fun hb => ?_) (fun hb => ?_)
    · have k := k.1 hb
      refine zr_iinc (v := (v4 + 1)) dX11_addFits_144 rfl rfl (Nat.le_of_ble_eq_true rfl) rfl ?_
      refine zr_goto (tgt := 10) dX11_addFits_147 (by decide) ?_
      exact k
    · have k := k.2 hb
      refine zr_aload_n dX11_addFits_28 rfl rfl ?_
      refine zr_getR dX11_addFits_29 zf_X11_47 rfl (hS.has (a := 0) rfl rfl) (hS.ref (a := 26) rfl) ?_
      refine zr_iconst (v := 0) dX11_addFits_32 (by decide) ?_
      refine zr_aald (q := 27) dX11_addFits_33 (hS.has (a := 26) rfl rfl) (by decide) (zvl (by decide)) (by rcases hS with ⟨-, -, hr, -⟩; exact hr 26 0 27 rfl) ?_
      refine zr_iload dX11_addFits_34 rfl ?_
      refine zr_callV (As := [.int v4]) (fr' := fX4_partnerOf) (lo' := lX4_partnerOf) (bc' := 0) (bs' := 0) (bcr := bc) (bsr := bs) dX11_addFits_36 zs_X11_251 zi_X4_partnerOf zcl_4 (hS.has (a := 27) rfl rfl) rfl rfl (Nat.le_of_ble_eq_true rfl) (Nat.le_of_ble_eq_true rfl) (Nat.le_of_ble_eq_true rfl) (Nat.le_refl _) (Nat.le_refl _) ?_
      refine sp_X4_partnerOf hS (show zJn 27 from Or.inl rfl) ?_
      show ZW G mX11_addFits fX11_addFits lX11_addFits 39 [zo G 0, .int v1, .int v2, zo G (zjid v1), .int v4, .null] [.int (p_X4_partnerOf I 27 v4)] S I L bc bs Q
      refine zr_iconst (v := -1) dX11_addFits_39 (by decide) ?_
      refine zr_iceq (tgt := 46) dX11_addFits_40 (by decide) (fun hb => ?_) (fun hb => ?_)
      · have k := k.1 hb
        refine zr_iconst (v := 0) dX11_addFits_46 (by decide) ?_
        refine zr_istore dX11_addFits_47 (Nat.le_of_ble_eq_true rfl) rfl ?_
        exact k
      · have k := k.2 hb
        refine zr_goto (tgt := 144) dX11_addFits_43 (by decide) ?_
        refine zr_iinc (v := (v4 + 1)) dX11_addFits_144 rfl rfl (Nat.le_of_ble_eq_true rfl) rfl ?_
        refine zr_goto (tgt := 10) dX11_addFits_147 (by decide) ?_
        exact k
set_option maxHeartbeats 2000000 in
theorem vX11_addFits_49 {G : Gp} {bc bs : Nat} {Q : zPost} {S : zSh} {I : zFI} {L : zFL} {v1 : Int32} {v2 : Int32} {v4 : Int32} {v5 : Int32} (hS : zStd S)  (k : ((v2 ≤ v5 → ZW G mX11_addFits fX11_addFits lX11_addFits 10 [zo G 0, .int v1, .int v2, zo G (zjid v1), .int (v4 + 1), .null] [] S I L bc bs Q) ∧ (¬ v2 ≤ v5 → ((¬ (p_X10_sortOf I v5) = (1 : Int32) → ZW G mX11_addFits fX11_addFits lX11_addFits 49 [zo G 0, .int v1, .int v2, zo G (zjid v1), .int v4, .int (v5 + 1)] [] S I L bc bs Q) ∧ ((p_X10_sortOf I v5) = (1 : Int32) → ((¬ (p_X4_partnerOf I 27 v5) = (-1 : Int32) → ZW G mX11_addFits fX11_addFits lX11_addFits 49 [zo G 0, .int v1, .int v2, zo G (zjid v1), .int v4, .int (v5 + 1)] [] S I L bc bs Q) ∧ ((p_X4_partnerOf I 27 v5) = (-1 : Int32) → (((p_X4_shareNumber L (zjid v1) v4 v5) = 0 → ZW G mX11_addFits fX11_addFits lX11_addFits 49 [zo G 0, .int v1, .int v2, zo G (zjid v1), .int v4, .int (v5 + 1)] [] S I L bc bs Q) ∧ (¬ (p_X4_shareNumber L (zjid v1) v4 v5) = 0 → (v1 = 0 ∨ v1 = 1) ∧ (((p_X11_canFit I (zrl S v1) v4 v5) = 0 → ZW G mX11_addFits fX11_addFits lX11_addFits 49 [zo G 0, .int v1, .int v2, zo G (zjid v1), .int v4, .int (v5 + 1)] [] S I L bc bs Q) ∧ (¬ (p_X11_canFit I (zrl S v1) v4 v5) = 0 → ZC G mX4_addArc fX4_addArc lX4_addArc [zo G (zjid v1), .int v4, .int v5, .int ((p_X10_sizeOf I v5) - (p_X10_sizeOf I v4))] S I L 0 0 (fun w S' I1 L1 => w = none ∧ S = S' ∧ ZW G mX11_addFits fX11_addFits lX11_addFits 49 [zo G 0, .int v1, .int v2, zo G (zjid v1), .int v4, .int (v5 + 1)] [] S I1 L1 bc bs Q)))))))))))) : ZW G mX11_addFits fX11_addFits lX11_addFits 49 [zo G 0, .int v1, .int v2, zo G (zjid v1), .int v4, .int v5] [] S I L bc bs Q := by
  refine zr_iload dX11_addFits_49 rfl ?_
  refine zr_iload_n dX11_addFits_51 rfl rfl ?_
  refine zr_icge (tgt := 144) dX11_addFits_52 (by decide) (fun hb => ?_) (fun hb => ?_)
  · have k := k.1 hb
    refine zr_iinc (v := (v4 + 1)) dX11_addFits_144 rfl rfl (Nat.le_of_ble_eq_true rfl) rfl ?_
    refine zr_goto (tgt := 10) dX11_addFits_147 (by decide) ?_
    exact zr_mask [true, true, true, true, true, false] rfl k
  · have k := k.2 hb
    refine zr_aload_n dX11_addFits_55 rfl rfl ?_
    refine zr_getR dX11_addFits_56 zf_X11_33 rfl (hS.has (a := 0) rfl rfl) (hS.ref (a := 10) rfl) ?_
    refine zr_iload dX11_addFits_59 rfl ?_
    refine zr_callV (As := [.int v5]) (fr' := fX10_sortOf) (lo' := lX10_sortOf) (bc' := 0) (bs' := 0) (bcr := bc) (bsr := bs) dX11_addFits_61 zs_X11_210 zi_X10_sortOf zcl_10 (hS.has (a := 10) rfl rfl) rfl rfl (Nat.le_of_ble_eq_true rfl) (Nat.le_of_ble_eq_true rfl) (Nat.le_of_ble_eq_true rfl) (Nat.le_refl _) (Nat.le_refl _) ?_
    refine sp_X10_sortOf hS  ?_
    show ZW G mX11_addFits fX11_addFits lX11_addFits 64 [zo G 0, .int v1, .int v2, zo G (zjid v1), .int v4, .int v5] [.int (p_X10_sortOf I v5)] S I L bc bs Q
    refine zr_iconst (v := 1) dX11_addFits_64 (by decide) ?_
    refine zr_icne (tgt := 138) dX11_addFits_65 (by decide) (fun hb => ?_) (fun hb => ?_)
    · have k := k.1 hb
      refine zr_iinc (v := (v5 + 1)) dX11_addFits_138 rfl rfl (Nat.le_of_ble_eq_true rfl) rfl ?_
      refine zr_goto (tgt := 49) dX11_addFits_141 (by decide) ?_
      exact k
    · have k := k.2 hb
      refine zr_aload_n dX11_addFits_68 rfl rfl ?_
      refine zr_getR dX11_addFits_69 zf_X11_47 rfl (hS.has (a := 0) rfl rfl) (hS.ref (a := 26) rfl) ?_
      refine zr_iconst (v := 0) dX11_addFits_72 (by decide) ?_
      refine zr_aald (q := 27) dX11_addFits_73 (hS.has (a := 26) rfl rfl) (by decide) (zvl (by decide)) (by rcases hS with ⟨-, -, hr, -⟩; exact hr 26 0 27 rfl) ?_
      refine zr_iload dX11_addFits_74 rfl ?_
      refine zr_callV (As := [.int v5]) (fr' := fX4_partnerOf) (lo' := lX4_partnerOf) (bc' := 0) (bs' := 0) (bcr := bc) (bsr := bs) dX11_addFits_76 zs_X11_251 zi_X4_partnerOf zcl_4 (hS.has (a := 27) rfl rfl) rfl rfl (Nat.le_of_ble_eq_true rfl) (Nat.le_of_ble_eq_true rfl) (Nat.le_of_ble_eq_true rfl) (Nat.le_refl _) (Nat.le_refl _) ?_
      refine sp_X4_partnerOf hS (show zJn 27 from Or.inl rfl) ?_
      show ZW G mX11_addFits fX11_addFits lX11_addFits 79 [zo G 0, .int v1, .int v2, zo G (zjid v1), .int v4, .int v5] [.int (p_X4_partnerOf I 27 v5)] S I L bc bs Q
      refine zr_iconst (v := -1) dX11_addFits_79 (by decide) ?_
      refine zr_icne (tgt := 138) dX11_addFits_80 (by decide) (fun hb => ?_) (fun hb => ?_)
      · have k := k.1 hb
        refine zr_iinc (v := (v5 + 1)) dX11_addFits_138 rfl rfl (Nat.le_of_ble_eq_true rfl) rfl ?_
        refine zr_goto (tgt := 49) dX11_addFits_141 (by decide) ?_
        exact k
      · have k := k.2 hb
        refine zr_aload_n dX11_addFits_83 rfl rfl ?_
        refine zr_iload dX11_addFits_84 rfl ?_
        refine zr_iload dX11_addFits_86 rfl ?_
        refine zr_callV (As := [.int v4, .int v5]) (fr' := fX4_shareNumber) (lo' := lX4_shareNumber) (bc' := 0) (bs' := 0) (bcr := bc) (bsr := bs) dX11_addFits_88 zs_X11_372 zi_X4_shareNumber zcl_4 (hS.hasJ (zjid_or v1) 0 rfl rfl rfl) rfl rfl (Nat.le_of_ble_eq_true rfl) (Nat.le_of_ble_eq_true rfl) (Nat.le_of_ble_eq_true rfl) (Nat.le_refl _) (Nat.le_refl _) ?_
        refine sp_X4_shareNumber hS (zjid_or v1) ?_
        show ZW G mX11_addFits fX11_addFits lX11_addFits 91 [zo G 0, .int v1, .int v2, zo G (zjid v1), .int v4, .int v5] [.int (p_X4_shareNumber L (zjid v1) v4 v5)] S I L bc bs Q
        refine zr_ifeq (tgt := 138) dX11_addFits_91 (by decide) (fun hb => ?_) (fun hb => ?_)
        · have k := k.1 hb
          refine zr_iinc (v := (v5 + 1)) dX11_addFits_138 rfl rfl (Nat.le_of_ble_eq_true rfl) rfl ?_
          refine zr_goto (tgt := 49) dX11_addFits_141 (by decide) ?_
          exact k
        · have k := k.2 hb
          refine zr_aload_n dX11_addFits_94 rfl rfl ?_
          refine zr_aload_n dX11_addFits_95 rfl rfl ?_
          refine zr_getR dX11_addFits_96 zf_X11_26 rfl (hS.has (a := 0) rfl rfl) (hS.ref (a := 7) rfl) ?_
          refine zr_iload_n dX11_addFits_99 rfl rfl ?_
          obtain ⟨hx1, k⟩ := k
          refine zr_aald dX11_addFits_100 (hS.has (a := 7) rfl rfl) (by decide) (zin2 hx1) (hS.rl hx1).1 ?_
          refine zr_iload dX11_addFits_101 rfl ?_
          refine zr_iload dX11_addFits_103 rfl ?_
          refine zr_callV (As := [zo G (zrl S v1), .int v4, .int v5]) (fr' := fX11_canFit) (lo' := lX11_canFit) (bc' := 0) (bs' := 0) (bcr := bc) (bsr := bs) dX11_addFits_105 zs_X11_235 zi_X11_canFit zcl_11 (hS.has (a := 0) rfl rfl) rfl rfl (Nat.le_of_ble_eq_true rfl) (Nat.le_of_ble_eq_true rfl) (Nat.le_of_ble_eq_true rfl) (Nat.le_refl _) (Nat.le_refl _) ?_
          refine sp_X11_canFit hS (hS.rl hx1).2 ?_
          show ZW G mX11_addFits fX11_addFits lX11_addFits 108 [zo G 0, .int v1, .int v2, zo G (zjid v1), .int v4, .int v5] [.int (p_X11_canFit I (zrl S v1) v4 v5)] S I L bc bs Q
          refine zr_ifeq (tgt := 138) dX11_addFits_108 (by decide) (fun hb => ?_) (fun hb => ?_)
          · have k := k.1 hb
            refine zr_iinc (v := (v5 + 1)) dX11_addFits_138 rfl rfl (Nat.le_of_ble_eq_true rfl) rfl ?_
            refine zr_goto (tgt := 49) dX11_addFits_141 (by decide) ?_
            exact k
          · have k := k.2 hb
            refine zr_aload_n dX11_addFits_111 rfl rfl ?_
            refine zr_iload dX11_addFits_112 rfl ?_
            refine zr_iload dX11_addFits_114 rfl ?_
            refine zr_aload_n dX11_addFits_116 rfl rfl ?_
            refine zr_getR dX11_addFits_117 zf_X11_33 rfl (hS.has (a := 0) rfl rfl) (hS.ref (a := 10) rfl) ?_
            refine zr_iload dX11_addFits_120 rfl ?_
            refine zr_callV (As := [.int v5]) (fr' := fX10_sizeOf) (lo' := lX10_sizeOf) (bc' := 0) (bs' := 0) (bcr := bc) (bsr := bs) dX11_addFits_122 zs_X11_213 zi_X10_sizeOf zcl_10 (hS.has (a := 10) rfl rfl) rfl rfl (Nat.le_of_ble_eq_true rfl) (Nat.le_of_ble_eq_true rfl) (Nat.le_of_ble_eq_true rfl) (Nat.le_refl _) (Nat.le_refl _) ?_
            refine sp_X10_sizeOf hS  ?_
            show ZW G mX11_addFits fX11_addFits lX11_addFits 125 [zo G 0, .int v1, .int v2, zo G (zjid v1), .int v4, .int v5] [.int (p_X10_sizeOf I v5), .int v5, .int v4, zo G (zjid v1)] S I L bc bs Q
            refine zr_aload_n dX11_addFits_125 rfl rfl ?_
            refine zr_getR dX11_addFits_126 zf_X11_33 rfl (hS.has (a := 0) rfl rfl) (hS.ref (a := 10) rfl) ?_
            refine zr_iload dX11_addFits_129 rfl ?_
            refine zr_callV (As := [.int v4]) (fr' := fX10_sizeOf) (lo' := lX10_sizeOf) (bc' := 0) (bs' := 0) (bcr := bc) (bsr := bs) dX11_addFits_131 zs_X11_213 zi_X10_sizeOf zcl_10 (hS.has (a := 10) rfl rfl) rfl rfl (Nat.le_of_ble_eq_true rfl) (Nat.le_of_ble_eq_true rfl) (Nat.le_of_ble_eq_true rfl) (Nat.le_refl _) (Nat.le_refl _) ?_
            refine sp_X10_sizeOf hS  ?_
            show ZW G mX11_addFits fX11_addFits lX11_addFits 134 [zo G 0, .int v1, .int v2, zo G (zjid v1), .int v4, .int v5] [.int (p_X10_sizeOf I v4), .int (p_X10_sizeOf I v5), .int v5, .int v4, zo G (zjid v1)] S I L bc bs Q
            refine zr_isub dX11_addFits_134 ?_
            refine zr_callV (As := [.int v4, .int v5, .int ((p_X10_sizeOf I v5) - (p_X10_sizeOf I v4))]) (fr' := fX4_addArc) (lo' := lX4_addArc) (bc' := 0) (bs' := 0) (bcr := bc) (bsr := bs) dX11_addFits_135 zs_X11_375 zi_X4_addArc zcl_4 (hS.hasJ (zjid_or v1) 0 rfl rfl rfl) rfl rfl (Nat.le_of_ble_eq_true rfl) (Nat.le_of_ble_eq_true rfl) (Nat.le_of_ble_eq_true rfl) (Nat.le_refl _) (Nat.le_refl _) ?_
            refine ZC.mono (fun w S' I1 L1 k => ?_) k
            obtain ⟨rfl, rfl, k⟩ := k
            show ZW G mX11_addFits fX11_addFits lX11_addFits 138 [zo G 0, .int v1, .int v2, zo G (zjid v1), .int v4, .int v5] [] S I1 L1 bc bs Q
            refine zr_iinc (v := (v5 + 1)) dX11_addFits_138 rfl rfl (Nat.le_of_ble_eq_true rfl) rfl ?_
            refine zr_goto (tgt := 49) dX11_addFits_141 (by decide) ?_
            exact k
set_option maxHeartbeats 2000000 in
theorem vX11_refresh_0 {G : Gp} {bc bs : Nat} {Q : zPost} {S : zSh} {I : zFI} {L : zFL}  (hS : zStd S)  (k : ((¬ (I 0 16) = 0 → ZC G mX11_jointsSeen fX11_jointsSeen lX11_jointsSeen [zo G 0] S (u2 I 0 16 (0 : Int32)) L 0 0 (fun w S' I1 L1 => ∃ r1 : Int32, w = some (.int r1) ∧ S = S' ∧ ZC G mX4_begin fX4_begin lX4_begin [zo G 27] S I1 L1 0 0 (fun w S' I2 L2 => w = none ∧ S = S' ∧ ZC G mX4_begin fX4_begin lX4_begin [zo G 35] S I2 L2 0 0 (fun w S' I3 L3 => w = none ∧ S = S' ∧ ZW G mX11_refresh fX11_refresh lX11_refresh 38 [zo G 0, .int r1, .int (0 : Int32), .null, .null] [] S I3 L3 bc bs Q)))) ∧ ((I 0 16) = 0 → Q none S I L))) : ZW G mX11_refresh fX11_refresh lX11_refresh 0 [zo G 0, .null, .null, .null, .null] [] S I L bc bs Q := by
  refine zr_aload_n dX11_refresh_0 rfl rfl ?_
  refine zr_getIv (x := (I 0 16)) dX11_refresh_1 zf_X11_104 rfl (hS.has (a := 0) rfl rfl) rfl ?_
  refine zr_ifne (tgt := 8) dX11_refresh_4 (by decide) (fun hb => ?_) (fun hb => ?_)
  · have k := k.1 hb
    refine zr_aload_n dX11_refresh_8 rfl rfl ?_
    refine zr_iconst (v := 0) dX11_refresh_9 (by decide) ?_
    refine zr_putI dX11_refresh_10 zf_X11_104 rfl (hS.has (a := 0) rfl rfl) rfl rfl ?_
    refine zr_aload_n dX11_refresh_13 rfl rfl ?_
    refine zr_callV (As := []) (fr' := fX11_jointsSeen) (lo' := lX11_jointsSeen) (bc' := 0) (bs' := 0) (bcr := bc) (bsr := bs) dX11_refresh_14 zs_X11_163 zi_X11_jointsSeen zcl_11 (hS.has (a := 0) rfl rfl) rfl rfl (Nat.le_of_ble_eq_true rfl) (Nat.le_of_ble_eq_true rfl) (Nat.le_of_ble_eq_true rfl) (Nat.le_refl _) (Nat.le_refl _) ?_
    refine ZC.mono (fun w S' I1 L1 k => ?_) k
    obtain ⟨r1, rfl, rfl, k⟩ := k
    show ZW G mX11_refresh fX11_refresh lX11_refresh 17 [zo G 0, .null, .null, .null, .null] [.int r1] S I1 L1 bc bs Q
    refine zr_istore_n dX11_refresh_17 rfl (Nat.le_of_ble_eq_true rfl) rfl ?_
    refine zr_aload_n dX11_refresh_18 rfl rfl ?_
    refine zr_getR dX11_refresh_19 zf_X11_47 rfl (hS.has (a := 0) rfl rfl) (hS.ref (a := 26) rfl) ?_
    refine zr_iconst (v := 0) dX11_refresh_22 (by decide) ?_
    refine zr_aald (q := 27) dX11_refresh_23 (hS.has (a := 26) rfl rfl) (by decide) (zvl (by decide)) (by rcases hS with ⟨-, -, hr, -⟩; exact hr 26 0 27 rfl) ?_
    refine zr_callV (As := []) (fr' := fX4_begin) (lo' := lX4_begin) (bc' := 0) (bs' := 0) (bcr := bc) (bsr := bs) dX11_refresh_24 zs_X11_351 zi_X4_begin zcl_4 (hS.has (a := 27) rfl rfl) rfl rfl (Nat.le_of_ble_eq_true rfl) (Nat.le_of_ble_eq_true rfl) (Nat.le_of_ble_eq_true rfl) (Nat.le_refl _) (Nat.le_refl _) ?_
    refine ZC.mono (fun w S' I2 L2 k => ?_) k
    obtain ⟨rfl, rfl, k⟩ := k
    show ZW G mX11_refresh fX11_refresh lX11_refresh 27 [zo G 0, .int r1, .null, .null, .null] [] S I2 L2 bc bs Q
    refine zr_aload_n dX11_refresh_27 rfl rfl ?_
    refine zr_getR dX11_refresh_28 zf_X11_47 rfl (hS.has (a := 0) rfl rfl) (hS.ref (a := 26) rfl) ?_
    refine zr_iconst (v := 1) dX11_refresh_31 (by decide) ?_
    refine zr_aald (q := 35) dX11_refresh_32 (hS.has (a := 26) rfl rfl) (by decide) (zvl (by decide)) (by rcases hS with ⟨-, -, hr, -⟩; exact hr 26 1 35 rfl) ?_
    refine zr_callV (As := []) (fr' := fX4_begin) (lo' := lX4_begin) (bc' := 0) (bs' := 0) (bcr := bc) (bsr := bs) dX11_refresh_33 zs_X11_351 zi_X4_begin zcl_4 (hS.has (a := 35) rfl rfl) rfl rfl (Nat.le_of_ble_eq_true rfl) (Nat.le_of_ble_eq_true rfl) (Nat.le_of_ble_eq_true rfl) (Nat.le_refl _) (Nat.le_refl _) ?_
    refine ZC.mono (fun w S' I3 L3 k => ?_) k
    obtain ⟨rfl, rfl, k⟩ := k
    show ZW G mX11_refresh fX11_refresh lX11_refresh 36 [zo G 0, .int r1, .null, .null, .null] [] S I3 L3 bc bs Q
    refine zr_iconst (v := 0) dX11_refresh_36 (by decide) ?_
    refine zr_istore_n dX11_refresh_37 rfl (Nat.le_of_ble_eq_true rfl) rfl ?_
    exact k
  · have k := k.2 hb
    exact zr_return_ dX11_refresh_7 rfl k
set_option maxHeartbeats 2000000 in
theorem vX11_refresh_38 {G : Gp} {bc bs : Nat} {Q : zPost} {S : zSh} {I : zFI} {L : zFL} {v1 : Int32} {v2 : Int32} (hS : zStd S)  (k : (((2 : Int32) ≤ v2 → Q none S I L) ∧ (¬ (2 : Int32) ≤ v2 → (v2 = 0 ∨ v2 = 1) ∧ ZW G mX11_refresh fX11_refresh lX11_refresh 53 [zo G 0, .int v1, .int v2, zo G (zjid v2), .int (0 : Int32)] [] S I L bc bs Q))) : ZW G mX11_refresh fX11_refresh lX11_refresh 38 [zo G 0, .int v1, .int v2, .null, .null] [] S I L bc bs Q := by
  refine zr_iload_n dX11_refresh_38 rfl rfl ?_
  refine zr_iconst (v := 2) dX11_refresh_39 (by decide) ?_
  refine zr_icge (tgt := 124) dX11_refresh_40 (by decide) (fun hb => ?_) (fun hb => ?_)
  · have k := k.1 hb
    exact zr_return_ dX11_refresh_124 rfl k
  · have k := k.2 hb
    refine zr_aload_n dX11_refresh_43 rfl rfl ?_
    refine zr_getR dX11_refresh_44 zf_X11_47 rfl (hS.has (a := 0) rfl rfl) (hS.ref (a := 26) rfl) ?_
    refine zr_iload_n dX11_refresh_47 rfl rfl ?_
    obtain ⟨hx, k⟩ := k
    refine zr_aald dX11_refresh_48 (hS.has (a := 26) rfl rfl) (by decide) (zin2 hx) (zjid_ref hS hx) ?_
    refine zr_astore_n dX11_refresh_49 rfl (Nat.le_of_ble_eq_true rfl) rfl ?_
    refine zr_iconst (v := 0) dX11_refresh_50 (by decide) ?_
    refine zr_istore dX11_refresh_51 (Nat.le_of_ble_eq_true rfl) rfl ?_
    exact k
set_option maxHeartbeats 2000000 in
theorem vX11_refresh_53 {G : Gp} {bc bs : Nat} {Q : zPost} {S : zSh} {I : zFI} {L : zFL} {v1 : Int32} {v2 : Int32} {v4 : Int32} (hS : zStd S)  (k : ((v1 ≤ v4 → ZC G mX11_addFits fX11_addFits lX11_addFits [zo G 0, .int v2, .int v1] S I L 0 0 (fun w S' I1 L1 => w = none ∧ S = S' ∧ ZC G mX4_fill fX4_fill lX4_fill [zo G (zjid v2)] S I1 L1 0 0 (fun w S' I2 L2 => w = none ∧ S = S' ∧ ZC G mX4_chooseHoles fX4_chooseHoles lX4_chooseHoles [zo G (zjid v2)] S I2 L2 0 0 (fun w S' I3 L3 => w = none ∧ S = S' ∧ ZC G mX4_findForced fX4_findForced lX4_findForced [zo G (zjid v2)] S I3 L3 0 0 (fun w S' I4 L4 => w = none ∧ S = S' ∧ (v2 = 0 ∨ v2 = 1) ∧ ZC G mX3_gather fX3_gather lX3_gather [zo G (zgid v2), zo G (zjid v2), zo G 10] S I4 L4 0 0 (fun w S' I5 L5 => w = none ∧ S = S' ∧ ZW G mX11_refresh fX11_refresh lX11_refresh 38 [zo G 0, .int v1, .int (v2 + 1), .null, .null] [] S I5 L5 bc bs Q)))))) ∧ (¬ v1 ≤ v4 → (v2 = 0 ∨ v2 = 1) ∧ ZC G mX6_numbersOn fX6_numbersOn lX6_numbersOn [zo G 19, .int v4, zo G (zrl S v2)] S I L 0 0 (fun w S' I6 L6 => ∃ r6 : Int64, w = some (.long r6) ∧ S = S' ∧ ZC G mX4_keepNumbers fX4_keepNumbers lX4_keepNumbers [zo G (zjid v2), .int v4, .long r6] S I6 L6 0 0 (fun w S' I7 L7 => w = none ∧ S = S' ∧ ZW G mX11_refresh fX11_refresh lX11_refresh 53 [zo G 0, .int v1, .int v2, zo G (zjid v2), .int (v4 + 1)] [] S I7 L7 bc bs Q))))) : ZW G mX11_refresh fX11_refresh lX11_refresh 53 [zo G 0, .int v1, .int v2, zo G (zjid v2), .int v4] [] S I L bc bs Q := by
  refine zr_iload dX11_refresh_53 rfl ?_
  refine zr_iload_n dX11_refresh_55 rfl rfl ?_
  refine zr_icge (tgt := 86) dX11_refresh_56 (by decide) (fun hb => ?_) (fun hb => ?_)
  · have k := k.1 hb
    refine zr_aload_n dX11_refresh_86 rfl rfl ?_
    refine zr_iload_n dX11_refresh_87 rfl rfl ?_
    refine zr_iload_n dX11_refresh_88 rfl rfl ?_
    refine zr_callV (As := [.int v2, .int v1]) (fr' := fX11_addFits) (lo' := lX11_addFits) (bc' := 0) (bs' := 0) (bcr := bc) (bsr := bs) dX11_refresh_89 zs_X11_356 zi_X11_addFits zcl_11 (hS.has (a := 0) rfl rfl) rfl rfl (Nat.le_of_ble_eq_true rfl) (Nat.le_of_ble_eq_true rfl) (Nat.le_of_ble_eq_true rfl) (Nat.le_refl _) (Nat.le_refl _) ?_
    refine ZC.mono (fun w S' I1 L1 k => ?_) k
    obtain ⟨rfl, rfl, k⟩ := k
    show ZW G mX11_refresh fX11_refresh lX11_refresh 92 [zo G 0, .int v1, .int v2, zo G (zjid v2), .int v4] [] S I1 L1 bc bs Q
    refine zr_aload_n dX11_refresh_92 rfl rfl ?_
    refine zr_callV (As := []) (fr' := fX4_fill) (lo' := lX4_fill) (bc' := 0) (bs' := 0) (bcr := bc) (bsr := bs) dX11_refresh_93 zs_X11_359 zi_X4_fill zcl_4 (hS.hasJ (zjid_or v2) 0 rfl rfl rfl) rfl rfl (Nat.le_of_ble_eq_true rfl) (Nat.le_of_ble_eq_true rfl) (Nat.le_of_ble_eq_true rfl) (Nat.le_refl _) (Nat.le_refl _) ?_
    refine ZC.mono (fun w S' I2 L2 k => ?_) k
    obtain ⟨rfl, rfl, k⟩ := k
    show ZW G mX11_refresh fX11_refresh lX11_refresh 96 [zo G 0, .int v1, .int v2, zo G (zjid v2), .int v4] [] S I2 L2 bc bs Q
    refine zr_aload_n dX11_refresh_96 rfl rfl ?_
    refine zr_callV (As := []) (fr' := fX4_chooseHoles) (lo' := lX4_chooseHoles) (bc' := 0) (bs' := 0) (bcr := bc) (bsr := bs) dX11_refresh_97 zs_X11_362 zi_X4_chooseHoles zcl_4 (hS.hasJ (zjid_or v2) 0 rfl rfl rfl) rfl rfl (Nat.le_of_ble_eq_true rfl) (Nat.le_of_ble_eq_true rfl) (Nat.le_of_ble_eq_true rfl) (Nat.le_refl _) (Nat.le_refl _) ?_
    refine ZC.mono (fun w S' I3 L3 k => ?_) k
    obtain ⟨rfl, rfl, k⟩ := k
    show ZW G mX11_refresh fX11_refresh lX11_refresh 100 [zo G 0, .int v1, .int v2, zo G (zjid v2), .int v4] [] S I3 L3 bc bs Q
    refine zr_aload_n dX11_refresh_100 rfl rfl ?_
    refine zr_callV (As := []) (fr' := fX4_findForced) (lo' := lX4_findForced) (bc' := 0) (bs' := 0) (bcr := bc) (bsr := bs) dX11_refresh_101 zs_X11_365 zi_X4_findForced zcl_4 (hS.hasJ (zjid_or v2) 0 rfl rfl rfl) rfl rfl (Nat.le_of_ble_eq_true rfl) (Nat.le_of_ble_eq_true rfl) (Nat.le_of_ble_eq_true rfl) (Nat.le_refl _) (Nat.le_refl _) ?_
    refine ZC.mono (fun w S' I4 L4 k => ?_) k
    obtain ⟨rfl, rfl, k⟩ := k
    show ZW G mX11_refresh fX11_refresh lX11_refresh 104 [zo G 0, .int v1, .int v2, zo G (zjid v2), .int v4] [] S I4 L4 bc bs Q
    refine zr_aload_n dX11_refresh_104 rfl rfl ?_
    refine zr_getR dX11_refresh_105 zf_X11_54 rfl (hS.has (a := 0) rfl rfl) (hS.ref (a := 43) rfl) ?_
    refine zr_iload_n dX11_refresh_108 rfl rfl ?_
    obtain ⟨hx, k⟩ := k
    refine zr_aald dX11_refresh_109 (hS.has (a := 43) rfl rfl) (by decide) (zin2 hx) (zgid_ref hS hx) ?_
    refine zr_aload_n dX11_refresh_110 rfl rfl ?_
    refine zr_aload_n dX11_refresh_111 rfl rfl ?_
    refine zr_getR dX11_refresh_112 zf_X11_33 rfl (hS.has (a := 0) rfl rfl) (hS.ref (a := 10) rfl) ?_
    refine zr_callV (As := [zo G (zjid v2), zo G 10]) (fr' := fX3_gather) (lo' := lX3_gather) (bc' := 0) (bs' := 0) (bcr := bc) (bsr := bs) dX11_refresh_115 zs_X11_368 zi_X3_gather zcl_3 (hS.hasF (zgid_or v2) 0 rfl rfl rfl) rfl rfl (Nat.le_of_ble_eq_true rfl) (Nat.le_of_ble_eq_true rfl) (Nat.le_of_ble_eq_true rfl) (Nat.le_refl _) (Nat.le_refl _) ?_
    refine ZC.mono (fun w S' I5 L5 k => ?_) k
    obtain ⟨rfl, rfl, k⟩ := k
    show ZW G mX11_refresh fX11_refresh lX11_refresh 118 [zo G 0, .int v1, .int v2, zo G (zjid v2), .int v4] [] S I5 L5 bc bs Q
    refine zr_iinc (v := (v2 + 1)) dX11_refresh_118 rfl rfl (Nat.le_of_ble_eq_true rfl) rfl ?_
    refine zr_goto (tgt := 38) dX11_refresh_121 (by decide) ?_
    exact zr_mask [true, true, true, false, false] rfl k
  · have k := k.2 hb
    refine zr_aload_n dX11_refresh_59 rfl rfl ?_
    refine zr_iload dX11_refresh_60 rfl ?_
    refine zr_aload_n dX11_refresh_62 rfl rfl ?_
    refine zr_getR dX11_refresh_63 zf_X11_40 rfl (hS.has (a := 0) rfl rfl) (hS.ref (a := 19) rfl) ?_
    refine zr_iload dX11_refresh_66 rfl ?_
    refine zr_aload_n dX11_refresh_68 rfl rfl ?_
    refine zr_getR dX11_refresh_69 zf_X11_26 rfl (hS.has (a := 0) rfl rfl) (hS.ref (a := 7) rfl) ?_
    refine zr_iload_n dX11_refresh_72 rfl rfl ?_
    obtain ⟨hx1, k⟩ := k
    refine zr_aald dX11_refresh_73 (hS.has (a := 7) rfl rfl) (by decide) (zin2 hx1) (hS.rl hx1).1 ?_
    refine zr_callV (As := [.int v4, zo G (zrl S v2)]) (fr' := fX6_numbersOn) (lo' := lX6_numbersOn) (bc' := 0) (bs' := 0) (bcr := bc) (bsr := bs) dX11_refresh_74 zs_X11_225 zi_X6_numbersOn zcl_6 (hS.has (a := 19) rfl rfl) rfl rfl (Nat.le_of_ble_eq_true rfl) (Nat.le_of_ble_eq_true rfl) (Nat.le_of_ble_eq_true rfl) (Nat.le_refl _) (Nat.le_refl _) ?_
    refine ZC.mono (fun w S' I6 L6 k => ?_) k
    obtain ⟨r6, rfl, rfl, k⟩ := k
    show ZW G mX11_refresh fX11_refresh lX11_refresh 77 [zo G 0, .int v1, .int v2, zo G (zjid v2), .int v4] [.long r6, .int v4, zo G (zjid v2)] S I6 L6 bc bs Q
    refine zr_callV (As := [.int v4, .long r6]) (fr' := fX4_keepNumbers) (lo' := lX4_keepNumbers) (bc' := 0) (bs' := 0) (bcr := bc) (bsr := bs) dX11_refresh_77 zs_X11_352 zi_X4_keepNumbers zcl_4 (hS.hasJ (zjid_or v2) 0 rfl rfl rfl) rfl rfl (Nat.le_of_ble_eq_true rfl) (Nat.le_of_ble_eq_true rfl) (Nat.le_of_ble_eq_true rfl) (Nat.le_refl _) (Nat.le_refl _) ?_
    refine ZC.mono (fun w S' I7 L7 k => ?_) k
    obtain ⟨rfl, rfl, k⟩ := k
    show ZW G mX11_refresh fX11_refresh lX11_refresh 80 [zo G 0, .int v1, .int v2, zo G (zjid v2), .int v4] [] S I7 L7 bc bs Q
    refine zr_iinc (v := (v4 + 1)) dX11_refresh_80 rfl rfl (Nat.le_of_ble_eq_true rfl) rfl ?_
    refine zr_goto (tgt := 53) dX11_refresh_83 (by decide) ?_
    exact k
set_option maxHeartbeats 2000000 in
theorem vX11_countReused_0 {G : Gp} {bc bs : Nat} {Q : zPost} {S : zSh} {I : zFI} {L : zFL}  (hS : zStd S)  (k : ZC G mX11_refresh fX11_refresh lX11_refresh [zo G 0] S I L 0 0 (fun w S' I1 L1 => w = none ∧ S = S' ∧ ZW G mX11_countReused fX11_countReused lX11_countReused 8 [zo G 0, .int (0 : Int32), .int (0 : Int32)] [] S I1 L1 bc bs Q)) : ZW G mX11_countReused fX11_countReused lX11_countReused 0 [zo G 0, .null, .null] [] S I L bc bs Q := by
  refine zr_aload_n dX11_countReused_0 rfl rfl ?_
  refine zr_callV (As := []) (fr' := fX11_refresh) (lo' := lX11_refresh) (bc' := 0) (bs' := 0) (bcr := bc) (bsr := bs) dX11_countReused_1 zs_X11_238 zi_X11_refresh zcl_11 (hS.has (a := 0) rfl rfl) rfl rfl (Nat.le_of_ble_eq_true rfl) (Nat.le_of_ble_eq_true rfl) (Nat.le_of_ble_eq_true rfl) (Nat.le_refl _) (Nat.le_refl _) ?_
  refine ZC.mono (fun w S' I1 L1 k => ?_) k
  obtain ⟨rfl, rfl, k⟩ := k
  show ZW G mX11_countReused fX11_countReused lX11_countReused 4 [zo G 0, .null, .null] [] S I1 L1 bc bs Q
  refine zr_iconst (v := 0) dX11_countReused_4 (by decide) ?_
  refine zr_istore_n dX11_countReused_5 rfl (Nat.le_of_ble_eq_true rfl) rfl ?_
  refine zr_iconst (v := 0) dX11_countReused_6 (by decide) ?_
  refine zr_istore_n dX11_countReused_7 rfl (Nat.le_of_ble_eq_true rfl) rfl ?_
  exact k
set_option maxHeartbeats 2000000 in
theorem vX11_countReused_8 {G : Gp} {bc bs : Nat} {Q : zPost} {S : zSh} {I : zFI} {L : zFL} {v1 : Int32} {v2 : Int32} (hS : zStd S)  (k : (((16 : Int32) ≤ v2 → Q (some (.int v1)) S I L) ∧ (¬ (16 : Int32) ≤ v2 → (((p_X3_holding I 44 v2) = (-1 : Int32) → ZW G mX11_countReused fX11_countReused lX11_countReused 8 [zo G 0, .int v1, .int (v2 + 1)] [] S I L bc bs Q) ∧ (¬ (p_X3_holding I 44 v2) = (-1 : Int32) → (((p_X3_holding I 52 v2) = (-1 : Int32) → ZW G mX11_countReused fX11_countReused lX11_countReused 8 [zo G 0, .int v1, .int (v2 + 1)] [] S I L bc bs Q) ∧ (¬ (p_X3_holding I 52 v2) = (-1 : Int32) → ZW G mX11_countReused fX11_countReused lX11_countReused 8 [zo G 0, .int (v1 + 1), .int (v2 + 1)] [] S I L bc bs Q))))))) : ZW G mX11_countReused fX11_countReused lX11_countReused 8 [zo G 0, .int v1, .int v2] [] S I L bc bs Q := by
  refine zr_iload_n dX11_countReused_8 rfl rfl ?_
  refine zr_bipush (v := 16) dX11_countReused_9 (by decide) ?_
  refine zr_icge (tgt := 51) dX11_countReused_11 (by decide) (fun hb => ?_) (fun hb => ?_)
  · have k := k.1 hb
    refine zr_iload_n dX11_countReused_51 rfl rfl ?_
    exact zr_ireturn dX11_countReused_52 rfl rfl k
  · have k := k.2 hb
    refine zr_aload_n dX11_countReused_14 rfl rfl ?_
    refine zr_getR dX11_countReused_15 zf_X11_54 rfl (hS.has (a := 0) rfl rfl) (hS.ref (a := 43) rfl) ?_
    refine zr_iconst (v := 0) dX11_countReused_18 (by decide) ?_
    refine zr_aald (q := 44) dX11_countReused_19 (hS.has (a := 43) rfl rfl) (by decide) (zvl (by decide)) (by rcases hS with ⟨-, -, hr, -⟩; exact hr 43 0 44 rfl) ?_
    refine zr_iload_n dX11_countReused_20 rfl rfl ?_
    refine zr_callV (As := [.int v2]) (fr' := fX3_holding) (lo' := lX3_holding) (bc' := 0) (bs' := 0) (bcr := bc) (bsr := bs) dX11_countReused_21 zs_X11_257 zi_X3_holding zcl_3 (hS.has (a := 44) rfl rfl) rfl rfl (Nat.le_of_ble_eq_true rfl) (Nat.le_of_ble_eq_true rfl) (Nat.le_of_ble_eq_true rfl) (Nat.le_refl _) (Nat.le_refl _) ?_
    refine sp_X3_holding hS (show zFm 44 from Or.inl rfl) ?_
    show ZW G mX11_countReused fX11_countReused lX11_countReused 24 [zo G 0, .int v1, .int v2] [.int (p_X3_holding I 44 v2)] S I L bc bs Q
    refine zr_iconst (v := -1) dX11_countReused_24 (by decide) ?_
    refine zr_iceq (tgt := 45) dX11_countReused_25 (by decide) (fun hb => ?_) (fun hb => ?_)
    · have k := k.1 hb
      refine zr_iinc (v := (v2 + 1)) dX11_countReused_45 rfl rfl (Nat.le_of_ble_eq_true rfl) rfl ?_
      refine zr_goto (tgt := 8) dX11_countReused_48 (by decide) ?_
      exact k
    · have k := k.2 hb
      refine zr_aload_n dX11_countReused_28 rfl rfl ?_
      refine zr_getR dX11_countReused_29 zf_X11_54 rfl (hS.has (a := 0) rfl rfl) (hS.ref (a := 43) rfl) ?_
      refine zr_iconst (v := 1) dX11_countReused_32 (by decide) ?_
      refine zr_aald (q := 52) dX11_countReused_33 (hS.has (a := 43) rfl rfl) (by decide) (zvl (by decide)) (by rcases hS with ⟨-, -, hr, -⟩; exact hr 43 1 52 rfl) ?_
      refine zr_iload_n dX11_countReused_34 rfl rfl ?_
      refine zr_callV (As := [.int v2]) (fr' := fX3_holding) (lo' := lX3_holding) (bc' := 0) (bs' := 0) (bcr := bc) (bsr := bs) dX11_countReused_35 zs_X11_257 zi_X3_holding zcl_3 (hS.has (a := 52) rfl rfl) rfl rfl (Nat.le_of_ble_eq_true rfl) (Nat.le_of_ble_eq_true rfl) (Nat.le_of_ble_eq_true rfl) (Nat.le_refl _) (Nat.le_refl _) ?_
      refine sp_X3_holding hS (show zFm 52 from Or.inr rfl) ?_
      show ZW G mX11_countReused fX11_countReused lX11_countReused 38 [zo G 0, .int v1, .int v2] [.int (p_X3_holding I 52 v2)] S I L bc bs Q
      refine zr_iconst (v := -1) dX11_countReused_38 (by decide) ?_
      refine zr_iceq (tgt := 45) dX11_countReused_39 (by decide) (fun hb => ?_) (fun hb => ?_)
      · have k := k.1 hb
        refine zr_iinc (v := (v2 + 1)) dX11_countReused_45 rfl rfl (Nat.le_of_ble_eq_true rfl) rfl ?_
        refine zr_goto (tgt := 8) dX11_countReused_48 (by decide) ?_
        exact k
      · have k := k.2 hb
        refine zr_iinc (v := (v1 + 1)) dX11_countReused_42 rfl rfl (Nat.le_of_ble_eq_true rfl) rfl ?_
        refine zr_iinc (v := (v2 + 1)) dX11_countReused_45 rfl rfl (Nat.le_of_ble_eq_true rfl) rfl ?_
        refine zr_goto (tgt := 8) dX11_countReused_48 (by decide) ?_
        exact k
set_option maxHeartbeats 2000000 in
theorem vX11_countIdle_0 {G : Gp} {bc bs : Nat} {Q : zPost} {S : zSh} {I : zFI} {L : zFL} {v1 : Int32} (hS : zStd S)  (k : ZC G mX11_refresh fX11_refresh lX11_refresh [zo G 0] S I L 0 0 (fun w S' I1 L1 => w = none ∧ S = S' ∧ ZC G mX11_jointsSeen fX11_jointsSeen lX11_jointsSeen [zo G 0] S I1 L1 0 0 (fun w S' I2 L2 => ∃ r2 : Int32, w = some (.int r2) ∧ S = S' ∧ ZW G mX11_countIdle fX11_countIdle lX11_countIdle 14 [zo G 0, .int v1, .int r2, .int (0 : Int32), .int (0 : Int32)] [] S I2 L2 bc bs Q))) : ZW G mX11_countIdle fX11_countIdle lX11_countIdle 0 [zo G 0, .int v1, .null, .null, .null] [] S I L bc bs Q := by
  refine zr_aload_n dX11_countIdle_0 rfl rfl ?_
  refine zr_callV (As := []) (fr' := fX11_refresh) (lo' := lX11_refresh) (bc' := 0) (bs' := 0) (bcr := bc) (bsr := bs) dX11_countIdle_1 zs_X11_238 zi_X11_refresh zcl_11 (hS.has (a := 0) rfl rfl) rfl rfl (Nat.le_of_ble_eq_true rfl) (Nat.le_of_ble_eq_true rfl) (Nat.le_of_ble_eq_true rfl) (Nat.le_refl _) (Nat.le_refl _) ?_
  refine ZC.mono (fun w S' I1 L1 k => ?_) k
  obtain ⟨rfl, rfl, k⟩ := k
  show ZW G mX11_countIdle fX11_countIdle lX11_countIdle 4 [zo G 0, .int v1, .null, .null, .null] [] S I1 L1 bc bs Q
  refine zr_aload_n dX11_countIdle_4 rfl rfl ?_
  refine zr_callV (As := []) (fr' := fX11_jointsSeen) (lo' := lX11_jointsSeen) (bc' := 0) (bs' := 0) (bcr := bc) (bsr := bs) dX11_countIdle_5 zs_X11_163 zi_X11_jointsSeen zcl_11 (hS.has (a := 0) rfl rfl) rfl rfl (Nat.le_of_ble_eq_true rfl) (Nat.le_of_ble_eq_true rfl) (Nat.le_of_ble_eq_true rfl) (Nat.le_refl _) (Nat.le_refl _) ?_
  refine ZC.mono (fun w S' I2 L2 k => ?_) k
  obtain ⟨r2, rfl, rfl, k⟩ := k
  show ZW G mX11_countIdle fX11_countIdle lX11_countIdle 8 [zo G 0, .int v1, .null, .null, .null] [.int r2] S I2 L2 bc bs Q
  refine zr_istore_n dX11_countIdle_8 rfl (Nat.le_of_ble_eq_true rfl) rfl ?_
  refine zr_iconst (v := 0) dX11_countIdle_9 (by decide) ?_
  refine zr_istore_n dX11_countIdle_10 rfl (Nat.le_of_ble_eq_true rfl) rfl ?_
  refine zr_iconst (v := 0) dX11_countIdle_11 (by decide) ?_
  refine zr_istore dX11_countIdle_12 (Nat.le_of_ble_eq_true rfl) rfl ?_
  exact k
set_option maxHeartbeats 2000000 in
theorem vX11_countIdle_14 {G : Gp} {bc bs : Nat} {Q : zPost} {S : zSh} {I : zFI} {L : zFL} {v1 : Int32} {v2 : Int32} {v3 : Int32} {v4 : Int32} (hS : zStd S)  (k : ((v2 ≤ v4 → Q (some (.int v3)) S I L) ∧ (¬ v2 ≤ v4 → ((¬ (p_X10_sortOf I v4) = v1 → ZW G mX11_countIdle fX11_countIdle lX11_countIdle 14 [zo G 0, .int v1, .int v2, .int v3, .int (v4 + 1)] [] S I L bc bs Q) ∧ ((p_X10_sortOf I v4) = v1 → ((¬ (p_X4_partnerOf I 27 v4) = (-1 : Int32) → ZW G mX11_countIdle fX11_countIdle lX11_countIdle 14 [zo G 0, .int v1, .int v2, .int v3, .int (v4 + 1)] [] S I L bc bs Q) ∧ ((p_X4_partnerOf I 27 v4) = (-1 : Int32) → ((¬ (p_X4_partnerOf I 35 v4) = (-1 : Int32) → ZW G mX11_countIdle fX11_countIdle lX11_countIdle 14 [zo G 0, .int v1, .int v2, .int v3, .int (v4 + 1)] [] S I L bc bs Q) ∧ ((p_X4_partnerOf I 35 v4) = (-1 : Int32) → ZW G mX11_countIdle fX11_countIdle lX11_countIdle 14 [zo G 0, .int v1, .int v2, .int (v3 + 1), .int (v4 + 1)] [] S I L bc bs Q))))))))) : ZW G mX11_countIdle fX11_countIdle lX11_countIdle 14 [zo G 0, .int v1, .int v2, .int v3, .int v4] [] S I L bc bs Q := by
  refine zr_iload dX11_countIdle_14 rfl ?_
  refine zr_iload_n dX11_countIdle_16 rfl rfl ?_
  refine zr_icge (tgt := 72) dX11_countIdle_17 (by decide) (fun hb => ?_) (fun hb => ?_)
  · have k := k.1 hb
    refine zr_iload_n dX11_countIdle_72 rfl rfl ?_
    exact zr_ireturn dX11_countIdle_73 rfl rfl k
  · have k := k.2 hb
    refine zr_aload_n dX11_countIdle_20 rfl rfl ?_
    refine zr_getR dX11_countIdle_21 zf_X11_33 rfl (hS.has (a := 0) rfl rfl) (hS.ref (a := 10) rfl) ?_
    refine zr_iload dX11_countIdle_24 rfl ?_
    refine zr_callV (As := [.int v4]) (fr' := fX10_sortOf) (lo' := lX10_sortOf) (bc' := 0) (bs' := 0) (bcr := bc) (bsr := bs) dX11_countIdle_26 zs_X11_210 zi_X10_sortOf zcl_10 (hS.has (a := 10) rfl rfl) rfl rfl (Nat.le_of_ble_eq_true rfl) (Nat.le_of_ble_eq_true rfl) (Nat.le_of_ble_eq_true rfl) (Nat.le_refl _) (Nat.le_refl _) ?_
    refine sp_X10_sortOf hS  ?_
    show ZW G mX11_countIdle fX11_countIdle lX11_countIdle 29 [zo G 0, .int v1, .int v2, .int v3, .int v4] [.int (p_X10_sortOf I v4)] S I L bc bs Q
    refine zr_iload_n dX11_countIdle_29 rfl rfl ?_
    refine zr_icne (tgt := 66) dX11_countIdle_30 (by decide) (fun hb => ?_) (fun hb => ?_)
    · have k := k.1 hb
      refine zr_iinc (v := (v4 + 1)) dX11_countIdle_66 rfl rfl (Nat.le_of_ble_eq_true rfl) rfl ?_
      refine zr_goto (tgt := 14) dX11_countIdle_69 (by decide) ?_
      exact k
    · have k := k.2 hb
      refine zr_aload_n dX11_countIdle_33 rfl rfl ?_
      refine zr_getR dX11_countIdle_34 zf_X11_47 rfl (hS.has (a := 0) rfl rfl) (hS.ref (a := 26) rfl) ?_
      refine zr_iconst (v := 0) dX11_countIdle_37 (by decide) ?_
      refine zr_aald (q := 27) dX11_countIdle_38 (hS.has (a := 26) rfl rfl) (by decide) (zvl (by decide)) (by rcases hS with ⟨-, -, hr, -⟩; exact hr 26 0 27 rfl) ?_
      refine zr_iload dX11_countIdle_39 rfl ?_
      refine zr_callV (As := [.int v4]) (fr' := fX4_partnerOf) (lo' := lX4_partnerOf) (bc' := 0) (bs' := 0) (bcr := bc) (bsr := bs) dX11_countIdle_41 zs_X11_251 zi_X4_partnerOf zcl_4 (hS.has (a := 27) rfl rfl) rfl rfl (Nat.le_of_ble_eq_true rfl) (Nat.le_of_ble_eq_true rfl) (Nat.le_of_ble_eq_true rfl) (Nat.le_refl _) (Nat.le_refl _) ?_
      refine sp_X4_partnerOf hS (show zJn 27 from Or.inl rfl) ?_
      show ZW G mX11_countIdle fX11_countIdle lX11_countIdle 44 [zo G 0, .int v1, .int v2, .int v3, .int v4] [.int (p_X4_partnerOf I 27 v4)] S I L bc bs Q
      refine zr_iconst (v := -1) dX11_countIdle_44 (by decide) ?_
      refine zr_icne (tgt := 66) dX11_countIdle_45 (by decide) (fun hb => ?_) (fun hb => ?_)
      · have k := k.1 hb
        refine zr_iinc (v := (v4 + 1)) dX11_countIdle_66 rfl rfl (Nat.le_of_ble_eq_true rfl) rfl ?_
        refine zr_goto (tgt := 14) dX11_countIdle_69 (by decide) ?_
        exact k
      · have k := k.2 hb
        refine zr_aload_n dX11_countIdle_48 rfl rfl ?_
        refine zr_getR dX11_countIdle_49 zf_X11_47 rfl (hS.has (a := 0) rfl rfl) (hS.ref (a := 26) rfl) ?_
        refine zr_iconst (v := 1) dX11_countIdle_52 (by decide) ?_
        refine zr_aald (q := 35) dX11_countIdle_53 (hS.has (a := 26) rfl rfl) (by decide) (zvl (by decide)) (by rcases hS with ⟨-, -, hr, -⟩; exact hr 26 1 35 rfl) ?_
        refine zr_iload dX11_countIdle_54 rfl ?_
        refine zr_callV (As := [.int v4]) (fr' := fX4_partnerOf) (lo' := lX4_partnerOf) (bc' := 0) (bs' := 0) (bcr := bc) (bsr := bs) dX11_countIdle_56 zs_X11_251 zi_X4_partnerOf zcl_4 (hS.has (a := 35) rfl rfl) rfl rfl (Nat.le_of_ble_eq_true rfl) (Nat.le_of_ble_eq_true rfl) (Nat.le_of_ble_eq_true rfl) (Nat.le_refl _) (Nat.le_refl _) ?_
        refine sp_X4_partnerOf hS (show zJn 35 from Or.inr rfl) ?_
        show ZW G mX11_countIdle fX11_countIdle lX11_countIdle 59 [zo G 0, .int v1, .int v2, .int v3, .int v4] [.int (p_X4_partnerOf I 35 v4)] S I L bc bs Q
        refine zr_iconst (v := -1) dX11_countIdle_59 (by decide) ?_
        refine zr_icne (tgt := 66) dX11_countIdle_60 (by decide) (fun hb => ?_) (fun hb => ?_)
        · have k := k.1 hb
          refine zr_iinc (v := (v4 + 1)) dX11_countIdle_66 rfl rfl (Nat.le_of_ble_eq_true rfl) rfl ?_
          refine zr_goto (tgt := 14) dX11_countIdle_69 (by decide) ?_
          exact k
        · have k := k.2 hb
          refine zr_iinc (v := (v3 + 1)) dX11_countIdle_63 rfl rfl (Nat.le_of_ble_eq_true rfl) rfl ?_
          refine zr_iinc (v := (v4 + 1)) dX11_countIdle_66 rfl rfl (Nat.le_of_ble_eq_true rfl) rfl ?_
          refine zr_goto (tgt := 14) dX11_countIdle_69 (by decide) ?_
          exact k
set_option maxHeartbeats 2000000 in
theorem vX11_look_0 {G : Gp} {bc bs : Nat} {Q : zPost} {S : zSh} {I : zFI} {L : zFL} {v1 : Int32} (hS : zStd S)  (k : ((v1 = 0 → Q (some (.int (I 0 14))) S I L) ∧ (v1 = 1 → Q (some (.int (I 0 15))) S I L) ∧ (v1 = 2 → ZC G mX11_timbersSeen fX11_timbersSeen lX11_timbersSeen [zo G 0] S I L 0 0 (fun w S' I1 L1 => ∃ r1 : Int32, w = some (.int r1) ∧ S = S' ∧ Q (some (.int r1)) S I1 L1)) ∧ (v1 = 3 → ZC G mX11_jointsSeen fX11_jointsSeen lX11_jointsSeen [zo G 0] S I L 0 0 (fun w S' I2 L2 => ∃ r2 : Int32, w = some (.int r2) ∧ S = S' ∧ Q (some (.int r2)) S I2 L2)) ∧ (v1 = 4 → ZC G mX11_countReused fX11_countReused lX11_countReused [zo G 0] S I L 0 0 (fun w S' I3 L3 => ∃ r3 : Int32, w = some (.int r3) ∧ S = S' ∧ Q (some (.int r3)) S I3 L3)) ∧ (v1 = 5 → ZC G mX11_countIdle fX11_countIdle lX11_countIdle [zo G 0, .int (1 : Int32)] S I L 0 0 (fun w S' I4 L4 => ∃ r4 : Int32, w = some (.int r4) ∧ S = S' ∧ Q (some (.int r4)) S I4 L4)) ∧ (v1 = 6 → ZC G mX11_countIdle fX11_countIdle lX11_countIdle [zo G 0, .int (0 : Int32)] S I L 0 0 (fun w S' I5 L5 => ∃ r5 : Int32, w = some (.int r5) ∧ S = S' ∧ Q (some (.int r5)) S I5 L5)) ∧ (¬ v1 = 0 → ¬ v1 = 1 → ¬ v1 = 2 → ¬ v1 = 3 → ¬ v1 = 4 → ¬ v1 = 5 → ¬ v1 = 6 → Q (some (.int (-1 : Int32))) S I L))) : ZW G mX11_look fX11_look lX11_look 0 [zo G 0, .int v1] [] S I L bc bs Q := by
  refine zr_iload_n dX11_look_0 rfl rfl ?_
  by_cases h0 : v1 = 0
  · have k := k.1 h0
    refine zr_tabIn (off := 43) (tgt := 44) dX11_look_1 (by rw [h0]; decide) (by rw [h0]; decide) (by rw [h0]; rfl) (by decide) ?_
    refine zr_aload_n dX11_look_44 rfl rfl ?_
    refine zr_getIv (x := (I 0 14)) dX11_look_45 zf_X11_98 rfl (hS.has (a := 0) rfl rfl) rfl ?_
    exact zr_ireturn dX11_look_48 rfl rfl k
  · by_cases h1 : v1 = 1
    · have k := k.2.1 h1
      refine zr_tabIn (off := 48) (tgt := 49) dX11_look_1 (by rw [h1]; decide) (by rw [h1]; decide) (by rw [h1]; rfl) (by decide) ?_
      refine zr_aload_n dX11_look_49 rfl rfl ?_
      refine zr_getIv (x := (I 0 15)) dX11_look_50 zf_X11_101 rfl (hS.has (a := 0) rfl rfl) rfl ?_
      exact zr_ireturn dX11_look_53 rfl rfl k
    · by_cases h2 : v1 = 2
      · have k := k.2.2.1 h2
        refine zr_tabIn (off := 53) (tgt := 54) dX11_look_1 (by rw [h2]; decide) (by rw [h2]; decide) (by rw [h2]; rfl) (by decide) ?_
        refine zr_aload_n dX11_look_54 rfl rfl ?_
        refine zr_callV (As := []) (fr' := fX11_timbersSeen) (lo' := lX11_timbersSeen) (bc' := 0) (bs' := 0) (bcr := bc) (bsr := bs) dX11_look_55 zs_X11_160 zi_X11_timbersSeen zcl_11 (hS.has (a := 0) rfl rfl) rfl rfl (Nat.le_of_ble_eq_true rfl) (Nat.le_of_ble_eq_true rfl) (Nat.le_of_ble_eq_true rfl) (Nat.le_refl _) (Nat.le_refl _) ?_
        refine ZC.mono (fun w S' I1 L1 k => ?_) k
        obtain ⟨r1, rfl, rfl, k⟩ := k
        show ZW G mX11_look fX11_look lX11_look 58 [zo G 0, .int v1] [.int r1] S I1 L1 bc bs Q
        exact zr_ireturn dX11_look_58 rfl rfl k
      · by_cases h3 : v1 = 3
        · have k := k.2.2.2.1 h3
          refine zr_tabIn (off := 58) (tgt := 59) dX11_look_1 (by rw [h3]; decide) (by rw [h3]; decide) (by rw [h3]; rfl) (by decide) ?_
          refine zr_aload_n dX11_look_59 rfl rfl ?_
          refine zr_callV (As := []) (fr' := fX11_jointsSeen) (lo' := lX11_jointsSeen) (bc' := 0) (bs' := 0) (bcr := bc) (bsr := bs) dX11_look_60 zs_X11_163 zi_X11_jointsSeen zcl_11 (hS.has (a := 0) rfl rfl) rfl rfl (Nat.le_of_ble_eq_true rfl) (Nat.le_of_ble_eq_true rfl) (Nat.le_of_ble_eq_true rfl) (Nat.le_refl _) (Nat.le_refl _) ?_
          refine ZC.mono (fun w S' I2 L2 k => ?_) k
          obtain ⟨r2, rfl, rfl, k⟩ := k
          show ZW G mX11_look fX11_look lX11_look 63 [zo G 0, .int v1] [.int r2] S I2 L2 bc bs Q
          exact zr_ireturn dX11_look_63 rfl rfl k
        · by_cases h4 : v1 = 4
          · have k := k.2.2.2.2.1 h4
            refine zr_tabIn (off := 63) (tgt := 64) dX11_look_1 (by rw [h4]; decide) (by rw [h4]; decide) (by rw [h4]; rfl) (by decide) ?_
            refine zr_aload_n dX11_look_64 rfl rfl ?_
            refine zr_callV (As := []) (fr' := fX11_countReused) (lo' := lX11_countReused) (bc' := 0) (bs' := 0) (bcr := bc) (bsr := bs) dX11_look_65 zs_X11_166 zi_X11_countReused zcl_11 (hS.has (a := 0) rfl rfl) rfl rfl (Nat.le_of_ble_eq_true rfl) (Nat.le_of_ble_eq_true rfl) (Nat.le_of_ble_eq_true rfl) (Nat.le_refl _) (Nat.le_refl _) ?_
            refine ZC.mono (fun w S' I3 L3 k => ?_) k
            obtain ⟨r3, rfl, rfl, k⟩ := k
            show ZW G mX11_look fX11_look lX11_look 68 [zo G 0, .int v1] [.int r3] S I3 L3 bc bs Q
            exact zr_ireturn dX11_look_68 rfl rfl k
          · by_cases h5 : v1 = 5
            · have k := k.2.2.2.2.2.1 h5
              refine zr_tabIn (off := 68) (tgt := 69) dX11_look_1 (by rw [h5]; decide) (by rw [h5]; decide) (by rw [h5]; rfl) (by decide) ?_
              refine zr_aload_n dX11_look_69 rfl rfl ?_
              refine zr_iconst (v := 1) dX11_look_70 (by decide) ?_
              refine zr_callV (As := [.int (1 : Int32)]) (fr' := fX11_countIdle) (lo' := lX11_countIdle) (bc' := 0) (bs' := 0) (bcr := bc) (bsr := bs) dX11_look_71 zs_X11_169 zi_X11_countIdle zcl_11 (hS.has (a := 0) rfl rfl) rfl rfl (Nat.le_of_ble_eq_true rfl) (Nat.le_of_ble_eq_true rfl) (Nat.le_of_ble_eq_true rfl) (Nat.le_refl _) (Nat.le_refl _) ?_
              refine ZC.mono (fun w S' I4 L4 k => ?_) k
              obtain ⟨r4, rfl, rfl, k⟩ := k
              show ZW G mX11_look fX11_look lX11_look 74 [zo G 0, .int v1] [.int r4] S I4 L4 bc bs Q
              exact zr_ireturn dX11_look_74 rfl rfl k
            · by_cases h6 : v1 = 6
              · have k := k.2.2.2.2.2.2.1 h6
                refine zr_tabIn (off := 74) (tgt := 75) dX11_look_1 (by rw [h6]; decide) (by rw [h6]; decide) (by rw [h6]; rfl) (by decide) ?_
                refine zr_aload_n dX11_look_75 rfl rfl ?_
                refine zr_iconst (v := 0) dX11_look_76 (by decide) ?_
                refine zr_callV (As := [.int (0 : Int32)]) (fr' := fX11_countIdle) (lo' := lX11_countIdle) (bc' := 0) (bs' := 0) (bcr := bc) (bsr := bs) dX11_look_77 zs_X11_169 zi_X11_countIdle zcl_11 (hS.has (a := 0) rfl rfl) rfl rfl (Nat.le_of_ble_eq_true rfl) (Nat.le_of_ble_eq_true rfl) (Nat.le_of_ble_eq_true rfl) (Nat.le_refl _) (Nat.le_refl _) ?_
                refine ZC.mono (fun w S' I5 L5 k => ?_) k
                obtain ⟨r5, rfl, rfl, k⟩ := k
                show ZW G mX11_look fX11_look lX11_look 80 [zo G 0, .int v1] [.int r5] S I5 L5 bc bs Q
                exact zr_ireturn dX11_look_80 rfl rfl k
              · have k := k.2.2.2.2.2.2.2 h0 h1 h2 h3 h4 h5 h6
                refine zr_tabOut (tgt := 81) dX11_look_1 ?_ (by decide) ?_
                · have e0 := ztab_ne h0; have e1 := ztab_ne h1; have e2 := ztab_ne h2; have e3 := ztab_ne h3; have e4 := ztab_ne h4; have e5 := ztab_ne h5; have e6 := ztab_ne h6; simp only [ztabv_0, ztabv_1, ztabv_2, ztabv_3, ztabv_4, ztabv_5, ztabv_6] at e0 e1 e2 e3 e4 e5 e6; omega
                refine zr_iconst (v := -1) dX11_look_81 (by decide) ?_
                exact zr_ireturn dX11_look_82 rfl rfl k
set_option maxHeartbeats 2000000 in
theorem vX11_customs_0 {G : Gp} {bc bs : Nat} {Q : zPost} {S : zSh} {I : zFI} {L : zFL} {v1 : Int32} {v2 : Int32} (hS : zStd S)  (k : (((p_X11_isCustom v1) = 0 → Q (some (.int (-1 : Int32))) S I L) ∧ (¬ (p_X11_isCustom v1) = 0 → (v1 = 0 ∨ v1 = 1) ∧ Q (some (.int (p_X1_value I (zrl S v1) v2))) S I L))) : ZW G mX11_customs fX11_customs lX11_customs 0 [zo G 0, .int v1, .int v2] [] S I L bc bs Q := by
  refine zr_aload_n dX11_customs_0 rfl rfl ?_
  refine zr_iload_n dX11_customs_1 rfl rfl ?_
  refine zr_callV (As := [.int v1]) (fr' := fX11_isCustom) (lo' := lX11_isCustom) (bc' := 0) (bs' := 0) (bcr := bc) (bsr := bs) dX11_customs_2 zs_X11_147 zi_X11_isCustom zcl_11 (hS.has (a := 0) rfl rfl) rfl rfl (Nat.le_of_ble_eq_true rfl) (Nat.le_of_ble_eq_true rfl) (Nat.le_of_ble_eq_true rfl) (Nat.le_refl _) (Nat.le_refl _) ?_
  refine sp_X11_isCustom hS  ?_
  show ZW G mX11_customs fX11_customs lX11_customs 5 [zo G 0, .int v1, .int v2] [.int (p_X11_isCustom v1)] S I L bc bs Q
  refine zr_ifeq (tgt := 21) dX11_customs_5 (by decide) (fun hb => ?_) (fun hb => ?_)
  · have k := k.1 hb
    refine zr_iconst (v := -1) dX11_customs_21 (by decide) ?_
    exact zr_ireturn dX11_customs_22 rfl rfl k
  · have k := k.2 hb
    refine zr_aload_n dX11_customs_8 rfl rfl ?_
    refine zr_getR dX11_customs_9 zf_X11_26 rfl (hS.has (a := 0) rfl rfl) (hS.ref (a := 7) rfl) ?_
    refine zr_iload_n dX11_customs_12 rfl rfl ?_
    obtain ⟨hx1, k⟩ := k
    refine zr_aald dX11_customs_13 (hS.has (a := 7) rfl rfl) (by decide) (zin2 hx1) (hS.rl hx1).1 ?_
    refine zr_iload_n dX11_customs_14 rfl rfl ?_
    refine zr_callV (As := [.int v2]) (fr' := fX1_value) (lo' := lX1_value) (bc' := 0) (bs' := 0) (bcr := bc) (bsr := bs) dX11_customs_15 zs_X11_173 zi_X1_value zcl_1 (hS.hasC (hS.rl hx1).2) rfl rfl (Nat.le_of_ble_eq_true rfl) (Nat.le_of_ble_eq_true rfl) (Nat.le_of_ble_eq_true rfl) (Nat.le_refl _) (Nat.le_refl _) ?_
    refine sp_X1_value hS (hS.rl hx1).2 ?_
    show ZW G mX11_customs fX11_customs lX11_customs 18 [zo G 0, .int v1, .int v2] [.int (p_X1_value I (zrl S v1) v2)] S I L bc bs Q
    refine zr_goto (tgt := 22) dX11_customs_18 (by decide) ?_
    exact zr_ireturn dX11_customs_22 rfl rfl k
set_option maxHeartbeats 2000000 in
theorem vX11_isTimber_0 {G : Gp} {bc bs : Nat} {Q : zPost} {S : zSh} {I : zFI} {L : zFL} {v1 : Int32} (hS : zStd S)  (k : ((v1 < 0 → Q (some (.int (0 : Int32))) S I L) ∧ (¬ v1 < 0 → ZC G mX11_timbersSeen fX11_timbersSeen lX11_timbersSeen [zo G 0] S I L 0 0 (fun w S' I1 L1 => ∃ r1 : Int32, w = some (.int r1) ∧ S = S' ∧ ((r1 ≤ v1 → Q (some (.int (0 : Int32))) S I1 L1) ∧ (¬ r1 ≤ v1 → Q (some (.int (1 : Int32))) S I1 L1)))))) : ZW G mX11_isTimber fX11_isTimber lX11_isTimber 0 [zo G 0, .int v1] [] S I L bc bs Q := by
  refine zr_iload_n dX11_isTimber_0 rfl rfl ?_
  refine zr_iflt (tgt := 16) dX11_isTimber_1 (by decide) (fun hb => ?_) (fun hb => ?_)
  · have k := k.1 hb
    refine zr_iconst (v := 0) dX11_isTimber_16 (by decide) ?_
    exact zr_ireturn dX11_isTimber_17 rfl rfl k
  · have k := k.2 hb
    refine zr_iload_n dX11_isTimber_4 rfl rfl ?_
    refine zr_aload_n dX11_isTimber_5 rfl rfl ?_
    refine zr_callV (As := []) (fr' := fX11_timbersSeen) (lo' := lX11_timbersSeen) (bc' := 0) (bs' := 0) (bcr := bc) (bsr := bs) dX11_isTimber_6 zs_X11_160 zi_X11_timbersSeen zcl_11 (hS.has (a := 0) rfl rfl) rfl rfl (Nat.le_of_ble_eq_true rfl) (Nat.le_of_ble_eq_true rfl) (Nat.le_of_ble_eq_true rfl) (Nat.le_refl _) (Nat.le_refl _) ?_
    refine ZC.mono (fun w S' I1 L1 k => ?_) k
    obtain ⟨r1, rfl, rfl, k⟩ := k
    show ZW G mX11_isTimber fX11_isTimber lX11_isTimber 9 [zo G 0, .int v1] [.int r1, .int v1] S I1 L1 bc bs Q
    refine zr_icge (tgt := 16) dX11_isTimber_9 (by decide) (fun hb => ?_) (fun hb => ?_)
    · have k := k.1 hb
      refine zr_iconst (v := 0) dX11_isTimber_16 (by decide) ?_
      exact zr_ireturn dX11_isTimber_17 rfl rfl k
    · have k := k.2 hb
      refine zr_iconst (v := 1) dX11_isTimber_12 (by decide) ?_
      refine zr_goto (tgt := 17) dX11_isTimber_13 (by decide) ?_
      exact zr_ireturn dX11_isTimber_17 rfl rfl k
set_option maxHeartbeats 2000000 in
theorem vX11_of_0 {G : Gp} {bc bs : Nat} {Q : zPost} {S : zSh} {I : zFI} {L : zFL} {v1 : Int32} {v2 : Int32} (hS : zStd S)  (k : ZC G mX11_isTimber fX11_isTimber lX11_isTimber [zo G 0, .int v1] S I L 0 0 (fun w S' I1 L1 => ∃ r1 : Int32, w = some (.int r1) ∧ S = S' ∧ ((¬ r1 = 0 → ((v2 = 0 → Q (some (.int (p_X10_kindOf I1 v1))) S I1 L1) ∧ (v2 = 1 → Q (some (.int (p_X10_lengthOf I1 v1))) S I1 L1) ∧ (v2 = 2 → ZC G mX11_jointsSeen fX11_jointsSeen lX11_jointsSeen [zo G 0] S I1 L1 0 0 (fun w S' I2 L2 => ∃ r2 : Int32, w = some (.int r2) ∧ S = S' ∧ ZC G mX10_jointsOf fX10_jointsOf lX10_jointsOf [zo G 10, .int v1, .int r2] S I2 L2 0 0 (fun w S' I3 L3 => ∃ r3 : Int32, w = some (.int r3) ∧ S = S' ∧ Q (some (.int r3)) S I3 L3))) ∧ (v2 = 3 → ZC G mX8_ringsSeen fX8_ringsSeen lX8_ringsSeen [zo G 67, .int v1, .int (p_X11_lastDaySeen I1)] S I1 L1 0 0 (fun w S' I4 L4 => ∃ r4 : Int32, w = some (.int r4) ∧ S = S' ∧ Q (some (.int r4)) S I4 L4)) ∧ (v2 = 4 → Q (some (.int (p_X8_sapTold I1 v1))) S I1 L1) ∧ (v2 = 5 → (((p_X8_barkTold I1 v1) = 0 → Q (some (.int (0 : Int32))) S I1 L1) ∧ (¬ (p_X8_barkTold I1 v1) = 0 → Q (some (.int (1 : Int32))) S I1 L1))) ∧ (v2 = 6 → Q (some (.int (p_X10_dayOf I1 v1))) S I1 L1) ∧ (¬ v2 = 0 → ¬ v2 = 1 → ¬ v2 = 2 → ¬ v2 = 3 → ¬ v2 = 4 → ¬ v2 = 5 → ¬ v2 = 6 → Q (some (.int (-1 : Int32))) S I1 L1))) ∧ (r1 = 0 → Q (some (.int (-1 : Int32))) S I1 L1)))) : ZW G mX11_of fX11_of lX11_of 0 [zo G 0, .int v1, .int v2] [] S I L bc bs Q := by
  refine zr_aload_n dX11_of_0 rfl rfl ?_
  refine zr_iload_n dX11_of_1 rfl rfl ?_
  refine zr_callV (As := [.int v1]) (fr' := fX11_isTimber) (lo' := lX11_isTimber) (bc' := 0) (bs' := 0) (bcr := bc) (bsr := bs) dX11_of_2 zs_X11_176 zi_X11_isTimber zcl_11 (hS.has (a := 0) rfl rfl) rfl rfl (Nat.le_of_ble_eq_true rfl) (Nat.le_of_ble_eq_true rfl) (Nat.le_of_ble_eq_true rfl) (Nat.le_refl _) (Nat.le_refl _) ?_
  refine ZC.mono (fun w S' I1 L1 k => ?_) k
  obtain ⟨r1, rfl, rfl, k⟩ := k
  show ZW G mX11_of fX11_of lX11_of 5 [zo G 0, .int v1, .int v2] [.int r1] S I1 L1 bc bs Q
  refine zr_ifne (tgt := 10) dX11_of_5 (by decide) (fun hb => ?_) (fun hb => ?_)
  · have k := k.1 hb
    refine zr_iload_n dX11_of_10 rfl rfl ?_
    by_cases h0 : v2 = 0
    · have k := k.1 h0
      refine zr_tabIn (off := 41) (tgt := 52) dX11_of_11 (by rw [h0]; decide) (by rw [h0]; decide) (by rw [h0]; rfl) (by decide) ?_
      refine zr_aload_n dX11_of_52 rfl rfl ?_
      refine zr_getR dX11_of_53 zf_X11_33 rfl (hS.has (a := 0) rfl rfl) (hS.ref (a := 10) rfl) ?_
      refine zr_iload_n dX11_of_56 rfl rfl ?_
      refine zr_callV (As := [.int v1]) (fr' := fX10_kindOf) (lo' := lX10_kindOf) (bc' := 0) (bs' := 0) (bcr := bc) (bsr := bs) dX11_of_57 zs_X11_179 zi_X10_kindOf zcl_10 (hS.has (a := 10) rfl rfl) rfl rfl (Nat.le_of_ble_eq_true rfl) (Nat.le_of_ble_eq_true rfl) (Nat.le_of_ble_eq_true rfl) (Nat.le_refl _) (Nat.le_refl _) ?_
      refine sp_X10_kindOf hS  ?_
      show ZW G mX11_of fX11_of lX11_of 60 [zo G 0, .int v1, .int v2] [.int (p_X10_kindOf I1 v1)] S I1 L1 bc bs Q
      exact zr_ireturn dX11_of_60 rfl rfl k
    · by_cases h1 : v2 = 1
      · have k := k.2.1 h1
        refine zr_tabIn (off := 50) (tgt := 61) dX11_of_11 (by rw [h1]; decide) (by rw [h1]; decide) (by rw [h1]; rfl) (by decide) ?_
        refine zr_aload_n dX11_of_61 rfl rfl ?_
        refine zr_getR dX11_of_62 zf_X11_33 rfl (hS.has (a := 0) rfl rfl) (hS.ref (a := 10) rfl) ?_
        refine zr_iload_n dX11_of_65 rfl rfl ?_
        refine zr_callV (As := [.int v1]) (fr' := fX10_lengthOf) (lo' := lX10_lengthOf) (bc' := 0) (bs' := 0) (bcr := bc) (bsr := bs) dX11_of_66 zs_X11_182 zi_X10_lengthOf zcl_10 (hS.has (a := 10) rfl rfl) rfl rfl (Nat.le_of_ble_eq_true rfl) (Nat.le_of_ble_eq_true rfl) (Nat.le_of_ble_eq_true rfl) (Nat.le_refl _) (Nat.le_refl _) ?_
        refine sp_X10_lengthOf hS  ?_
        show ZW G mX11_of fX11_of lX11_of 69 [zo G 0, .int v1, .int v2] [.int (p_X10_lengthOf I1 v1)] S I1 L1 bc bs Q
        exact zr_ireturn dX11_of_69 rfl rfl k
      · by_cases h2 : v2 = 2
        · have k := k.2.2.1 h2
          refine zr_tabIn (off := 59) (tgt := 70) dX11_of_11 (by rw [h2]; decide) (by rw [h2]; decide) (by rw [h2]; rfl) (by decide) ?_
          refine zr_aload_n dX11_of_70 rfl rfl ?_
          refine zr_getR dX11_of_71 zf_X11_33 rfl (hS.has (a := 0) rfl rfl) (hS.ref (a := 10) rfl) ?_
          refine zr_iload_n dX11_of_74 rfl rfl ?_
          refine zr_aload_n dX11_of_75 rfl rfl ?_
          refine zr_callV (As := []) (fr' := fX11_jointsSeen) (lo' := lX11_jointsSeen) (bc' := 0) (bs' := 0) (bcr := bc) (bsr := bs) dX11_of_76 zs_X11_163 zi_X11_jointsSeen zcl_11 (hS.has (a := 0) rfl rfl) rfl rfl (Nat.le_of_ble_eq_true rfl) (Nat.le_of_ble_eq_true rfl) (Nat.le_of_ble_eq_true rfl) (Nat.le_refl _) (Nat.le_refl _) ?_
          refine ZC.mono (fun w S' I2 L2 k => ?_) k
          obtain ⟨r2, rfl, rfl, k⟩ := k
          show ZW G mX11_of fX11_of lX11_of 79 [zo G 0, .int v1, .int v2] [.int r2, .int v1, zo G 10] S I2 L2 bc bs Q
          refine zr_callV (As := [.int v1, .int r2]) (fr' := fX10_jointsOf) (lo' := lX10_jointsOf) (bc' := 0) (bs' := 0) (bcr := bc) (bsr := bs) dX11_of_79 zs_X11_185 zi_X10_jointsOf zcl_10 (hS.has (a := 10) rfl rfl) rfl rfl (Nat.le_of_ble_eq_true rfl) (Nat.le_of_ble_eq_true rfl) (Nat.le_of_ble_eq_true rfl) (Nat.le_refl _) (Nat.le_refl _) ?_
          refine ZC.mono (fun w S' I3 L3 k => ?_) k
          obtain ⟨r3, rfl, rfl, k⟩ := k
          show ZW G mX11_of fX11_of lX11_of 82 [zo G 0, .int v1, .int v2] [.int r3] S I3 L3 bc bs Q
          exact zr_ireturn dX11_of_82 rfl rfl k
        · by_cases h3 : v2 = 3
          · have k := k.2.2.2.1 h3
            refine zr_tabIn (off := 72) (tgt := 83) dX11_of_11 (by rw [h3]; decide) (by rw [h3]; decide) (by rw [h3]; rfl) (by decide) ?_
            refine zr_aload_n dX11_of_83 rfl rfl ?_
            refine zr_getR dX11_of_84 zf_X11_68 rfl (hS.has (a := 0) rfl rfl) (hS.ref (a := 67) rfl) ?_
            refine zr_iload_n dX11_of_87 rfl rfl ?_
            refine zr_aload_n dX11_of_88 rfl rfl ?_
            refine zr_callV (As := []) (fr' := fX11_lastDaySeen) (lo' := lX11_lastDaySeen) (bc' := 0) (bs' := 0) (bcr := bc) (bsr := bs) dX11_of_89 zs_X11_108 zi_X11_lastDaySeen zcl_11 (hS.has (a := 0) rfl rfl) rfl rfl (Nat.le_of_ble_eq_true rfl) (Nat.le_of_ble_eq_true rfl) (Nat.le_of_ble_eq_true rfl) (Nat.le_refl _) (Nat.le_refl _) ?_
            refine sp_X11_lastDaySeen hS  ?_
            show ZW G mX11_of fX11_of lX11_of 92 [zo G 0, .int v1, .int v2] [.int (p_X11_lastDaySeen I1), .int v1, zo G 67] S I1 L1 bc bs Q
            refine zr_callV (As := [.int v1, .int (p_X11_lastDaySeen I1)]) (fr' := fX8_ringsSeen) (lo' := lX8_ringsSeen) (bc' := 0) (bs' := 0) (bcr := bc) (bsr := bs) dX11_of_92 zs_X11_189 zi_X8_ringsSeen zcl_8 (hS.has (a := 67) rfl rfl) rfl rfl (Nat.le_of_ble_eq_true rfl) (Nat.le_of_ble_eq_true rfl) (Nat.le_of_ble_eq_true rfl) (Nat.le_refl _) (Nat.le_refl _) ?_
            refine ZC.mono (fun w S' I4 L4 k => ?_) k
            obtain ⟨r4, rfl, rfl, k⟩ := k
            show ZW G mX11_of fX11_of lX11_of 95 [zo G 0, .int v1, .int v2] [.int r4] S I4 L4 bc bs Q
            exact zr_ireturn dX11_of_95 rfl rfl k
          · by_cases h4 : v2 = 4
            · have k := k.2.2.2.2.1 h4
              refine zr_tabIn (off := 85) (tgt := 96) dX11_of_11 (by rw [h4]; decide) (by rw [h4]; decide) (by rw [h4]; rfl) (by decide) ?_
              refine zr_aload_n dX11_of_96 rfl rfl ?_
              refine zr_getR dX11_of_97 zf_X11_68 rfl (hS.has (a := 0) rfl rfl) (hS.ref (a := 67) rfl) ?_
              refine zr_iload_n dX11_of_100 rfl rfl ?_
              refine zr_callV (As := [.int v1]) (fr' := fX8_sapTold) (lo' := lX8_sapTold) (bc' := 0) (bs' := 0) (bcr := bc) (bsr := bs) dX11_of_101 zs_X11_192 zi_X8_sapTold zcl_8 (hS.has (a := 67) rfl rfl) rfl rfl (Nat.le_of_ble_eq_true rfl) (Nat.le_of_ble_eq_true rfl) (Nat.le_of_ble_eq_true rfl) (Nat.le_refl _) (Nat.le_refl _) ?_
              refine sp_X8_sapTold hS  ?_
              show ZW G mX11_of fX11_of lX11_of 104 [zo G 0, .int v1, .int v2] [.int (p_X8_sapTold I1 v1)] S I1 L1 bc bs Q
              exact zr_ireturn dX11_of_104 rfl rfl k
            · by_cases h5 : v2 = 5
              · have k := k.2.2.2.2.2.1 h5
                refine zr_tabIn (off := 94) (tgt := 105) dX11_of_11 (by rw [h5]; decide) (by rw [h5]; decide) (by rw [h5]; rfl) (by decide) ?_
                refine zr_aload_n dX11_of_105 rfl rfl ?_
                refine zr_getR dX11_of_106 zf_X11_68 rfl (hS.has (a := 0) rfl rfl) (hS.ref (a := 67) rfl) ?_
                refine zr_iload_n dX11_of_109 rfl rfl ?_
                refine zr_callV (As := [.int v1]) (fr' := fX8_barkTold) (lo' := lX8_barkTold) (bc' := 0) (bs' := 0) (bcr := bc) (bsr := bs) dX11_of_110 zs_X11_195 zi_X8_barkTold zcl_8 (hS.has (a := 67) rfl rfl) rfl rfl (Nat.le_of_ble_eq_true rfl) (Nat.le_of_ble_eq_true rfl) (Nat.le_of_ble_eq_true rfl) (Nat.le_refl _) (Nat.le_refl _) ?_
                refine sp_X8_barkTold hS  ?_
                show ZW G mX11_of fX11_of lX11_of 113 [zo G 0, .int v1, .int v2] [.int (p_X8_barkTold I1 v1)] S I1 L1 bc bs Q
                refine zr_ifeq (tgt := 120) dX11_of_113 (by decide) (fun hb => ?_) (fun hb => ?_)
                · have k := k.1 hb
                  refine zr_iconst (v := 0) dX11_of_120 (by decide) ?_
                  exact zr_ireturn dX11_of_121 rfl rfl k
                · have k := k.2 hb
                  refine zr_iconst (v := 1) dX11_of_116 (by decide) ?_
                  refine zr_goto (tgt := 121) dX11_of_117 (by decide) ?_
                  exact zr_ireturn dX11_of_121 rfl rfl k
              · by_cases h6 : v2 = 6
                · have k := k.2.2.2.2.2.2.1 h6
                  refine zr_tabIn (off := 111) (tgt := 122) dX11_of_11 (by rw [h6]; decide) (by rw [h6]; decide) (by rw [h6]; rfl) (by decide) ?_
                  refine zr_aload_n dX11_of_122 rfl rfl ?_
                  refine zr_getR dX11_of_123 zf_X11_33 rfl (hS.has (a := 0) rfl rfl) (hS.ref (a := 10) rfl) ?_
                  refine zr_iload_n dX11_of_126 rfl rfl ?_
                  refine zr_callV (As := [.int v1]) (fr' := fX10_dayOf) (lo' := lX10_dayOf) (bc' := 0) (bs' := 0) (bcr := bc) (bsr := bs) dX11_of_127 zs_X11_198 zi_X10_dayOf zcl_10 (hS.has (a := 10) rfl rfl) rfl rfl (Nat.le_of_ble_eq_true rfl) (Nat.le_of_ble_eq_true rfl) (Nat.le_of_ble_eq_true rfl) (Nat.le_refl _) (Nat.le_refl _) ?_
                  refine sp_X10_dayOf hS  ?_
                  show ZW G mX11_of fX11_of lX11_of 130 [zo G 0, .int v1, .int v2] [.int (p_X10_dayOf I1 v1)] S I1 L1 bc bs Q
                  exact zr_ireturn dX11_of_130 rfl rfl k
                · have k := k.2.2.2.2.2.2.2 h0 h1 h2 h3 h4 h5 h6
                  refine zr_tabOut (tgt := 131) dX11_of_11 ?_ (by decide) ?_
                  · have e0 := ztab_ne h0; have e1 := ztab_ne h1; have e2 := ztab_ne h2; have e3 := ztab_ne h3; have e4 := ztab_ne h4; have e5 := ztab_ne h5; have e6 := ztab_ne h6; simp only [ztabv_0, ztabv_1, ztabv_2, ztabv_3, ztabv_4, ztabv_5, ztabv_6] at e0 e1 e2 e3 e4 e5 e6; omega
                  refine zr_iconst (v := -1) dX11_of_131 (by decide) ?_
                  exact zr_ireturn dX11_of_132 rfl rfl k
  · have k := k.2 hb
    refine zr_iconst (v := -1) dX11_of_8 (by decide) ?_
    exact zr_ireturn dX11_of_9 rfl rfl k
set_option maxHeartbeats 2000000 in
theorem vX11_isJoint_0 {G : Gp} {bc bs : Nat} {Q : zPost} {S : zSh} {I : zFI} {L : zFL} {v1 : Int32} (hS : zStd S)  (k : ((v1 < 0 → Q (some (.int (0 : Int32))) S I L) ∧ (¬ v1 < 0 → ZC G mX11_jointsSeen fX11_jointsSeen lX11_jointsSeen [zo G 0] S I L 0 0 (fun w S' I1 L1 => ∃ r1 : Int32, w = some (.int r1) ∧ S = S' ∧ ((r1 ≤ v1 → Q (some (.int (0 : Int32))) S I1 L1) ∧ (¬ r1 ≤ v1 → Q (some (.int (1 : Int32))) S I1 L1)))))) : ZW G mX11_isJoint fX11_isJoint lX11_isJoint 0 [zo G 0, .int v1] [] S I L bc bs Q := by
  refine zr_iload_n dX11_isJoint_0 rfl rfl ?_
  refine zr_iflt (tgt := 16) dX11_isJoint_1 (by decide) (fun hb => ?_) (fun hb => ?_)
  · have k := k.1 hb
    refine zr_iconst (v := 0) dX11_isJoint_16 (by decide) ?_
    exact zr_ireturn dX11_isJoint_17 rfl rfl k
  · have k := k.2 hb
    refine zr_iload_n dX11_isJoint_4 rfl rfl ?_
    refine zr_aload_n dX11_isJoint_5 rfl rfl ?_
    refine zr_callV (As := []) (fr' := fX11_jointsSeen) (lo' := lX11_jointsSeen) (bc' := 0) (bs' := 0) (bcr := bc) (bsr := bs) dX11_isJoint_6 zs_X11_163 zi_X11_jointsSeen zcl_11 (hS.has (a := 0) rfl rfl) rfl rfl (Nat.le_of_ble_eq_true rfl) (Nat.le_of_ble_eq_true rfl) (Nat.le_of_ble_eq_true rfl) (Nat.le_refl _) (Nat.le_refl _) ?_
    refine ZC.mono (fun w S' I1 L1 k => ?_) k
    obtain ⟨r1, rfl, rfl, k⟩ := k
    show ZW G mX11_isJoint fX11_isJoint lX11_isJoint 9 [zo G 0, .int v1] [.int r1, .int v1] S I1 L1 bc bs Q
    refine zr_icge (tgt := 16) dX11_isJoint_9 (by decide) (fun hb => ?_) (fun hb => ?_)
    · have k := k.1 hb
      refine zr_iconst (v := 0) dX11_isJoint_16 (by decide) ?_
      exact zr_ireturn dX11_isJoint_17 rfl rfl k
    · have k := k.2 hb
      refine zr_iconst (v := 1) dX11_isJoint_12 (by decide) ?_
      refine zr_goto (tgt := 17) dX11_isJoint_13 (by decide) ?_
      exact zr_ireturn dX11_isJoint_17 rfl rfl k
set_option maxHeartbeats 2000000 in
theorem vX11_at_0 {G : Gp} {bc bs : Nat} {Q : zPost} {S : zSh} {I : zFI} {L : zFL} {v1 : Int32} {v2 : Int32} (hS : zStd S)  (k : ZC G mX11_isJoint fX11_isJoint lX11_isJoint [zo G 0, .int v1] S I L 0 0 (fun w S' I1 L1 => ∃ r1 : Int32, w = some (.int r1) ∧ S = S' ∧ ((¬ r1 = 0 → ((v2 = 0 → Q (some (.int (p_X10_timberOf I1 v1))) S I1 L1) ∧ (v2 = 1 → Q (some (.int (p_X10_placeOf I1 v1))) S I1 L1) ∧ (v2 = 2 → Q (some (.int (p_X10_sortOf I1 v1))) S I1 L1) ∧ (v2 = 3 → Q (some (.int (p_X10_sizeOf I1 v1))) S I1 L1) ∧ (v2 = 4 → Q (some (.int (p_X6_signsOn I1 v1))) S I1 L1) ∧ (v2 = 5 → Q (some (.int (p_X6_sideOf I1 v1))) S I1 L1) ∧ (¬ v2 = 0 → ¬ v2 = 1 → ¬ v2 = 2 → ¬ v2 = 3 → ¬ v2 = 4 → ¬ v2 = 5 → ((v2 < (10 : Int32) → Q (some (.int (-1 : Int32))) S I1 L1) ∧ (¬ v2 < (10 : Int32) → Q (some (.int (p_X6_signAt I1 v1 (v2 - (10 : Int32))))) S I1 L1))))) ∧ (r1 = 0 → Q (some (.int (-1 : Int32))) S I1 L1)))) : ZW G mX11_at fX11_at lX11_at 0 [zo G 0, .int v1, .int v2] [] S I L bc bs Q := by
  refine zr_aload_n dX11_at_0 rfl rfl ?_
  refine zr_iload_n dX11_at_1 rfl rfl ?_
  refine zr_callV (As := [.int v1]) (fr' := fX11_isJoint) (lo' := lX11_isJoint) (bc' := 0) (bs' := 0) (bcr := bc) (bsr := bs) dX11_at_2 zs_X11_201 zi_X11_isJoint zcl_11 (hS.has (a := 0) rfl rfl) rfl rfl (Nat.le_of_ble_eq_true rfl) (Nat.le_of_ble_eq_true rfl) (Nat.le_of_ble_eq_true rfl) (Nat.le_refl _) (Nat.le_refl _) ?_
  refine ZC.mono (fun w S' I1 L1 k => ?_) k
  obtain ⟨r1, rfl, rfl, k⟩ := k
  show ZW G mX11_at fX11_at lX11_at 5 [zo G 0, .int v1, .int v2] [.int r1] S I1 L1 bc bs Q
  refine zr_ifne (tgt := 10) dX11_at_5 (by decide) (fun hb => ?_) (fun hb => ?_)
  · have k := k.1 hb
    refine zr_iload_n dX11_at_10 rfl rfl ?_
    by_cases h0 : v2 = 0
    · have k := k.1 h0
      refine zr_tabIn (off := 37) (tgt := 48) dX11_at_11 (by rw [h0]; decide) (by rw [h0]; decide) (by rw [h0]; rfl) (by decide) ?_
      refine zr_aload_n dX11_at_48 rfl rfl ?_
      refine zr_getR dX11_at_49 zf_X11_33 rfl (hS.has (a := 0) rfl rfl) (hS.ref (a := 10) rfl) ?_
      refine zr_iload_n dX11_at_52 rfl rfl ?_
      refine zr_callV (As := [.int v1]) (fr' := fX10_timberOf) (lo' := lX10_timberOf) (bc' := 0) (bs' := 0) (bcr := bc) (bsr := bs) dX11_at_53 zs_X11_204 zi_X10_timberOf zcl_10 (hS.has (a := 10) rfl rfl) rfl rfl (Nat.le_of_ble_eq_true rfl) (Nat.le_of_ble_eq_true rfl) (Nat.le_of_ble_eq_true rfl) (Nat.le_refl _) (Nat.le_refl _) ?_
      refine sp_X10_timberOf hS  ?_
      show ZW G mX11_at fX11_at lX11_at 56 [zo G 0, .int v1, .int v2] [.int (p_X10_timberOf I1 v1)] S I1 L1 bc bs Q
      exact zr_ireturn dX11_at_56 rfl rfl k
    · by_cases h1 : v2 = 1
      · have k := k.2.1 h1
        refine zr_tabIn (off := 46) (tgt := 57) dX11_at_11 (by rw [h1]; decide) (by rw [h1]; decide) (by rw [h1]; rfl) (by decide) ?_
        refine zr_aload_n dX11_at_57 rfl rfl ?_
        refine zr_getR dX11_at_58 zf_X11_33 rfl (hS.has (a := 0) rfl rfl) (hS.ref (a := 10) rfl) ?_
        refine zr_iload_n dX11_at_61 rfl rfl ?_
        refine zr_callV (As := [.int v1]) (fr' := fX10_placeOf) (lo' := lX10_placeOf) (bc' := 0) (bs' := 0) (bcr := bc) (bsr := bs) dX11_at_62 zs_X11_207 zi_X10_placeOf zcl_10 (hS.has (a := 10) rfl rfl) rfl rfl (Nat.le_of_ble_eq_true rfl) (Nat.le_of_ble_eq_true rfl) (Nat.le_of_ble_eq_true rfl) (Nat.le_refl _) (Nat.le_refl _) ?_
        refine sp_X10_placeOf hS  ?_
        show ZW G mX11_at fX11_at lX11_at 65 [zo G 0, .int v1, .int v2] [.int (p_X10_placeOf I1 v1)] S I1 L1 bc bs Q
        exact zr_ireturn dX11_at_65 rfl rfl k
      · by_cases h2 : v2 = 2
        · have k := k.2.2.1 h2
          refine zr_tabIn (off := 55) (tgt := 66) dX11_at_11 (by rw [h2]; decide) (by rw [h2]; decide) (by rw [h2]; rfl) (by decide) ?_
          refine zr_aload_n dX11_at_66 rfl rfl ?_
          refine zr_getR dX11_at_67 zf_X11_33 rfl (hS.has (a := 0) rfl rfl) (hS.ref (a := 10) rfl) ?_
          refine zr_iload_n dX11_at_70 rfl rfl ?_
          refine zr_callV (As := [.int v1]) (fr' := fX10_sortOf) (lo' := lX10_sortOf) (bc' := 0) (bs' := 0) (bcr := bc) (bsr := bs) dX11_at_71 zs_X11_210 zi_X10_sortOf zcl_10 (hS.has (a := 10) rfl rfl) rfl rfl (Nat.le_of_ble_eq_true rfl) (Nat.le_of_ble_eq_true rfl) (Nat.le_of_ble_eq_true rfl) (Nat.le_refl _) (Nat.le_refl _) ?_
          refine sp_X10_sortOf hS  ?_
          show ZW G mX11_at fX11_at lX11_at 74 [zo G 0, .int v1, .int v2] [.int (p_X10_sortOf I1 v1)] S I1 L1 bc bs Q
          exact zr_ireturn dX11_at_74 rfl rfl k
        · by_cases h3 : v2 = 3
          · have k := k.2.2.2.1 h3
            refine zr_tabIn (off := 64) (tgt := 75) dX11_at_11 (by rw [h3]; decide) (by rw [h3]; decide) (by rw [h3]; rfl) (by decide) ?_
            refine zr_aload_n dX11_at_75 rfl rfl ?_
            refine zr_getR dX11_at_76 zf_X11_33 rfl (hS.has (a := 0) rfl rfl) (hS.ref (a := 10) rfl) ?_
            refine zr_iload_n dX11_at_79 rfl rfl ?_
            refine zr_callV (As := [.int v1]) (fr' := fX10_sizeOf) (lo' := lX10_sizeOf) (bc' := 0) (bs' := 0) (bcr := bc) (bsr := bs) dX11_at_80 zs_X11_213 zi_X10_sizeOf zcl_10 (hS.has (a := 10) rfl rfl) rfl rfl (Nat.le_of_ble_eq_true rfl) (Nat.le_of_ble_eq_true rfl) (Nat.le_of_ble_eq_true rfl) (Nat.le_refl _) (Nat.le_refl _) ?_
            refine sp_X10_sizeOf hS  ?_
            show ZW G mX11_at fX11_at lX11_at 83 [zo G 0, .int v1, .int v2] [.int (p_X10_sizeOf I1 v1)] S I1 L1 bc bs Q
            exact zr_ireturn dX11_at_83 rfl rfl k
          · by_cases h4 : v2 = 4
            · have k := k.2.2.2.2.1 h4
              refine zr_tabIn (off := 73) (tgt := 84) dX11_at_11 (by rw [h4]; decide) (by rw [h4]; decide) (by rw [h4]; rfl) (by decide) ?_
              refine zr_aload_n dX11_at_84 rfl rfl ?_
              refine zr_getR dX11_at_85 zf_X11_40 rfl (hS.has (a := 0) rfl rfl) (hS.ref (a := 19) rfl) ?_
              refine zr_iload_n dX11_at_88 rfl rfl ?_
              refine zr_callV (As := [.int v1]) (fr' := fX6_signsOn) (lo' := lX6_signsOn) (bc' := 0) (bs' := 0) (bcr := bc) (bsr := bs) dX11_at_89 zs_X11_216 zi_X6_signsOn zcl_6 (hS.has (a := 19) rfl rfl) rfl rfl (Nat.le_of_ble_eq_true rfl) (Nat.le_of_ble_eq_true rfl) (Nat.le_of_ble_eq_true rfl) (Nat.le_refl _) (Nat.le_refl _) ?_
              refine sp_X6_signsOn hS  ?_
              show ZW G mX11_at fX11_at lX11_at 92 [zo G 0, .int v1, .int v2] [.int (p_X6_signsOn I1 v1)] S I1 L1 bc bs Q
              exact zr_ireturn dX11_at_92 rfl rfl k
            · by_cases h5 : v2 = 5
              · have k := k.2.2.2.2.2.1 h5
                refine zr_tabIn (off := 82) (tgt := 93) dX11_at_11 (by rw [h5]; decide) (by rw [h5]; decide) (by rw [h5]; rfl) (by decide) ?_
                refine zr_aload_n dX11_at_93 rfl rfl ?_
                refine zr_getR dX11_at_94 zf_X11_40 rfl (hS.has (a := 0) rfl rfl) (hS.ref (a := 19) rfl) ?_
                refine zr_iload_n dX11_at_97 rfl rfl ?_
                refine zr_callV (As := [.int v1]) (fr' := fX6_sideOf) (lo' := lX6_sideOf) (bc' := 0) (bs' := 0) (bcr := bc) (bsr := bs) dX11_at_98 zs_X11_219 zi_X6_sideOf zcl_6 (hS.has (a := 19) rfl rfl) rfl rfl (Nat.le_of_ble_eq_true rfl) (Nat.le_of_ble_eq_true rfl) (Nat.le_of_ble_eq_true rfl) (Nat.le_refl _) (Nat.le_refl _) ?_
                refine sp_X6_sideOf hS  ?_
                show ZW G mX11_at fX11_at lX11_at 101 [zo G 0, .int v1, .int v2] [.int (p_X6_sideOf I1 v1)] S I1 L1 bc bs Q
                exact zr_ireturn dX11_at_101 rfl rfl k
              · have k := k.2.2.2.2.2.2 h0 h1 h2 h3 h4 h5
                refine zr_tabOut (tgt := 102) dX11_at_11 ?_ (by decide) ?_
                · have e0 := ztab_ne h0; have e1 := ztab_ne h1; have e2 := ztab_ne h2; have e3 := ztab_ne h3; have e4 := ztab_ne h4; have e5 := ztab_ne h5; simp only [ztabv_0, ztabv_1, ztabv_2, ztabv_3, ztabv_4, ztabv_5] at e0 e1 e2 e3 e4 e5; omega
                refine zr_iload_n dX11_at_102 rfl rfl ?_
                refine zr_bipush (v := 10) dX11_at_103 (by decide) ?_
                refine zr_iclt (tgt := 123) dX11_at_105 (by decide) (fun hb => ?_) (fun hb => ?_)
                · have k := k.1 hb
                  refine zr_iconst (v := -1) dX11_at_123 (by decide) ?_
                  exact zr_ireturn dX11_at_124 rfl rfl k
                · have k := k.2 hb
                  refine zr_aload_n dX11_at_108 rfl rfl ?_
                  refine zr_getR dX11_at_109 zf_X11_40 rfl (hS.has (a := 0) rfl rfl) (hS.ref (a := 19) rfl) ?_
                  refine zr_iload_n dX11_at_112 rfl rfl ?_
                  refine zr_iload_n dX11_at_113 rfl rfl ?_
                  refine zr_bipush (v := 10) dX11_at_114 (by decide) ?_
                  refine zr_isub dX11_at_116 ?_
                  refine zr_callV (As := [.int v1, .int (v2 - (10 : Int32))]) (fr' := fX6_signAt) (lo' := lX6_signAt) (bc' := 0) (bs' := 0) (bcr := bc) (bsr := bs) dX11_at_117 zs_X11_222 zi_X6_signAt zcl_6 (hS.has (a := 19) rfl rfl) rfl rfl (Nat.le_of_ble_eq_true rfl) (Nat.le_of_ble_eq_true rfl) (Nat.le_of_ble_eq_true rfl) (Nat.le_refl _) (Nat.le_refl _) ?_
                  refine sp_X6_signAt hS  ?_
                  show ZW G mX11_at fX11_at lX11_at 120 [zo G 0, .int v1, .int v2] [.int (p_X6_signAt I1 v1 (v2 - (10 : Int32)))] S I1 L1 bc bs Q
                  refine zr_goto (tgt := 124) dX11_at_120 (by decide) ?_
                  exact zr_ireturn dX11_at_124 rfl rfl k
  · have k := k.2 hb
    refine zr_iconst (v := -1) dX11_at_8 (by decide) ?_
    exact zr_ireturn dX11_at_9 rfl rfl k
set_option maxHeartbeats 2000000 in
theorem vX11_reads_0 {G : Gp} {bc bs : Nat} {Q : zPost} {S : zSh} {I : zFI} {L : zFL} {v1 : Int32} {v2 : Int32} (hS : zStd S)  (k : (((p_X11_isCustom v1) = 0 → Q (some (.long (-1 : Int64))) S I L) ∧ (¬ (p_X11_isCustom v1) = 0 → ZC G mX11_isJoint fX11_isJoint lX11_isJoint [zo G 0, .int v2] S I L 0 0 (fun w S' I1 L1 => ∃ r1 : Int32, w = some (.int r1) ∧ S = S' ∧ ((r1 = 0 → Q (some (.long (-1 : Int64))) S I1 L1) ∧ (¬ r1 = 0 → (v1 = 0 ∨ v1 = 1) ∧ ZC G mX6_numbersOn fX6_numbersOn lX6_numbersOn [zo G 19, .int v2, zo G (zrl S v1)] S I1 L1 0 0 (fun w S' I2 L2 => ∃ r2 : Int64, w = some (.long r2) ∧ S = S' ∧ Q (some (.long r2)) S I2 L2))))))) : ZW G mX11_reads fX11_reads lX11_reads 0 [zo G 0, .int v1, .int v2] [] S I L bc bs Q := by
  refine zr_aload_n dX11_reads_0 rfl rfl ?_
  refine zr_iload_n dX11_reads_1 rfl rfl ?_
  refine zr_callV (As := [.int v1]) (fr' := fX11_isCustom) (lo' := lX11_isCustom) (bc' := 0) (bs' := 0) (bcr := bc) (bsr := bs) dX11_reads_2 zs_X11_147 zi_X11_isCustom zcl_11 (hS.has (a := 0) rfl rfl) rfl rfl (Nat.le_of_ble_eq_true rfl) (Nat.le_of_ble_eq_true rfl) (Nat.le_of_ble_eq_true rfl) (Nat.le_refl _) (Nat.le_refl _) ?_
  refine sp_X11_isCustom hS  ?_
  show ZW G mX11_reads fX11_reads lX11_reads 5 [zo G 0, .int v1, .int v2] [.int (p_X11_isCustom v1)] S I L bc bs Q
  refine zr_ifeq (tgt := 33) dX11_reads_5 (by decide) (fun hb => ?_) (fun hb => ?_)
  · have k := k.1 hb
    refine zr_ldc2_w dX11_reads_33 zk_X11_229 ?_
    exact zr_lreturn dX11_reads_36 rfl k
  · have k := k.2 hb
    refine zr_aload_n dX11_reads_8 rfl rfl ?_
    refine zr_iload_n dX11_reads_9 rfl rfl ?_
    refine zr_callV (As := [.int v2]) (fr' := fX11_isJoint) (lo' := lX11_isJoint) (bc' := 0) (bs' := 0) (bcr := bc) (bsr := bs) dX11_reads_10 zs_X11_201 zi_X11_isJoint zcl_11 (hS.has (a := 0) rfl rfl) rfl rfl (Nat.le_of_ble_eq_true rfl) (Nat.le_of_ble_eq_true rfl) (Nat.le_of_ble_eq_true rfl) (Nat.le_refl _) (Nat.le_refl _) ?_
    refine ZC.mono (fun w S' I1 L1 k => ?_) k
    obtain ⟨r1, rfl, rfl, k⟩ := k
    show ZW G mX11_reads fX11_reads lX11_reads 13 [zo G 0, .int v1, .int v2] [.int r1] S I1 L1 bc bs Q
    refine zr_ifeq (tgt := 33) dX11_reads_13 (by decide) (fun hb => ?_) (fun hb => ?_)
    · have k := k.1 hb
      refine zr_ldc2_w dX11_reads_33 zk_X11_229 ?_
      exact zr_lreturn dX11_reads_36 rfl k
    · have k := k.2 hb
      refine zr_aload_n dX11_reads_16 rfl rfl ?_
      refine zr_getR dX11_reads_17 zf_X11_40 rfl (hS.has (a := 0) rfl rfl) (hS.ref (a := 19) rfl) ?_
      refine zr_iload_n dX11_reads_20 rfl rfl ?_
      refine zr_aload_n dX11_reads_21 rfl rfl ?_
      refine zr_getR dX11_reads_22 zf_X11_26 rfl (hS.has (a := 0) rfl rfl) (hS.ref (a := 7) rfl) ?_
      refine zr_iload_n dX11_reads_25 rfl rfl ?_
      obtain ⟨hx1, k⟩ := k
      refine zr_aald dX11_reads_26 (hS.has (a := 7) rfl rfl) (by decide) (zin2 hx1) (hS.rl hx1).1 ?_
      refine zr_callV (As := [.int v2, zo G (zrl S v1)]) (fr' := fX6_numbersOn) (lo' := lX6_numbersOn) (bc' := 0) (bs' := 0) (bcr := bc) (bsr := bs) dX11_reads_27 zs_X11_225 zi_X6_numbersOn zcl_6 (hS.has (a := 19) rfl rfl) rfl rfl (Nat.le_of_ble_eq_true rfl) (Nat.le_of_ble_eq_true rfl) (Nat.le_of_ble_eq_true rfl) (Nat.le_refl _) (Nat.le_refl _) ?_
      refine ZC.mono (fun w S' I2 L2 k => ?_) k
      obtain ⟨r2, rfl, rfl, k⟩ := k
      show ZW G mX11_reads fX11_reads lX11_reads 30 [zo G 0, .int v1, .int v2] [.long r2] S I2 L2 bc bs Q
      refine zr_goto (tgt := 36) dX11_reads_30 (by decide) ?_
      exact zr_lreturn dX11_reads_36 rfl k
set_option maxHeartbeats 2000000 in
theorem vX11_agreeInNumbers_0 {G : Gp} {bc bs : Nat} {Q : zPost} {S : zSh} {I : zFI} {L : zFL} {c1 : Nat} {v2 : Int32} {v3 : Int32} (hS : zStd S) (hc1 : zCu c1) (k : ZC G mX6_numbersOn fX6_numbersOn lX6_numbersOn [zo G 19, .int v2, zo G c1] S I L 0 0 (fun w S' I1 L1 => ∃ r1 : Int64, w = some (.long r1) ∧ S = S' ∧ ZC G mX6_numbersOn fX6_numbersOn lX6_numbersOn [zo G 19, .int v3, zo G c1] S I1 L1 0 0 (fun w S' I2 L2 => ∃ r2 : Int64, w = some (.long r2) ∧ S = S' ∧ (((lg_cmp (r1 &&& r2) (0 : Int64)) = 0 → Q (some (.int (0 : Int32))) S I2 L2) ∧ (¬ (lg_cmp (r1 &&& r2) (0 : Int64)) = 0 → Q (some (.int (1 : Int32))) S I2 L2))))) : ZW G mX11_agreeInNumbers fX11_agreeInNumbers lX11_agreeInNumbers 0 [zo G 0, zo G c1, .int v2, .int v3] [] S I L bc bs Q := by
  refine zr_aload_n dX11_agreeInNumbers_0 rfl rfl ?_
  refine zr_getR dX11_agreeInNumbers_1 zf_X11_40 rfl (hS.has (a := 0) rfl rfl) (hS.ref (a := 19) rfl) ?_
  refine zr_iload_n dX11_agreeInNumbers_4 rfl rfl ?_
  refine zr_aload_n dX11_agreeInNumbers_5 rfl rfl ?_
  refine zr_callV (As := [.int v2, zo G c1]) (fr' := fX6_numbersOn) (lo' := lX6_numbersOn) (bc' := 0) (bs' := 0) (bcr := bc) (bsr := bs) dX11_agreeInNumbers_6 zs_X11_225 zi_X6_numbersOn zcl_6 (hS.has (a := 19) rfl rfl) rfl rfl (Nat.le_of_ble_eq_true rfl) (Nat.le_of_ble_eq_true rfl) (Nat.le_of_ble_eq_true rfl) (Nat.le_refl _) (Nat.le_refl _) ?_
  refine ZC.mono (fun w S' I1 L1 k => ?_) k
  obtain ⟨r1, rfl, rfl, k⟩ := k
  show ZW G mX11_agreeInNumbers fX11_agreeInNumbers lX11_agreeInNumbers 9 [zo G 0, zo G c1, .int v2, .int v3] [.long r1] S I1 L1 bc bs Q
  refine zr_aload_n dX11_agreeInNumbers_9 rfl rfl ?_
  refine zr_getR dX11_agreeInNumbers_10 zf_X11_40 rfl (hS.has (a := 0) rfl rfl) (hS.ref (a := 19) rfl) ?_
  refine zr_iload_n dX11_agreeInNumbers_13 rfl rfl ?_
  refine zr_aload_n dX11_agreeInNumbers_14 rfl rfl ?_
  refine zr_callV (As := [.int v3, zo G c1]) (fr' := fX6_numbersOn) (lo' := lX6_numbersOn) (bc' := 0) (bs' := 0) (bcr := bc) (bsr := bs) dX11_agreeInNumbers_15 zs_X11_225 zi_X6_numbersOn zcl_6 (hS.has (a := 19) rfl rfl) rfl rfl (Nat.le_of_ble_eq_true rfl) (Nat.le_of_ble_eq_true rfl) (Nat.le_of_ble_eq_true rfl) (Nat.le_refl _) (Nat.le_refl _) ?_
  refine ZC.mono (fun w S' I2 L2 k => ?_) k
  obtain ⟨r2, rfl, rfl, k⟩ := k
  show ZW G mX11_agreeInNumbers fX11_agreeInNumbers lX11_agreeInNumbers 18 [zo G 0, zo G c1, .int v2, .int v3] [.long r2, .long r1] S I2 L2 bc bs Q
  refine zr_land dX11_agreeInNumbers_18 ?_
  refine zr_lconst (v := 0) dX11_agreeInNumbers_19 (by decide) ?_
  refine zr_lcmp dX11_agreeInNumbers_20 ?_
  refine zr_ifeq (tgt := 28) dX11_agreeInNumbers_21 (by decide) (fun hb => ?_) (fun hb => ?_)
  · have k := k.1 hb
    refine zr_iconst (v := 0) dX11_agreeInNumbers_28 (by decide) ?_
    exact zr_ireturn dX11_agreeInNumbers_29 rfl rfl k
  · have k := k.2 hb
    refine zr_iconst (v := 1) dX11_agreeInNumbers_24 (by decide) ?_
    refine zr_goto (tgt := 29) dX11_agreeInNumbers_25 (by decide) ?_
    exact zr_ireturn dX11_agreeInNumbers_29 rfl rfl k
set_option maxHeartbeats 2000000 in
theorem vX11_fits_0 {G : Gp} {bc bs : Nat} {Q : zPost} {S : zSh} {I : zFI} {L : zFL} {v1 : Int32} {v2 : Int32} {v3 : Int32} (hS : zStd S)  (k : (((p_X11_isCustom v1) = 0 → Q (some (.int (-1 : Int32))) S I L) ∧ (¬ (p_X11_isCustom v1) = 0 → ZC G mX11_isJoint fX11_isJoint lX11_isJoint [zo G 0, .int v2] S I L 0 0 (fun w S' I1 L1 => ∃ r1 : Int32, w = some (.int r1) ∧ S = S' ∧ ((r1 = 0 → Q (some (.int (-1 : Int32))) S I1 L1) ∧ (¬ r1 = 0 → ZC G mX11_isJoint fX11_isJoint lX11_isJoint [zo G 0, .int v3] S I1 L1 0 0 (fun w S' I2 L2 => ∃ r2 : Int32, w = some (.int r2) ∧ S = S' ∧ ((r2 = 0 → Q (some (.int (-1 : Int32))) S I2 L2) ∧ (¬ r2 = 0 → ((¬ (p_X10_sortOf I2 v2) = 0 → Q (some (.int (-1 : Int32))) S I2 L2) ∧ ((p_X10_sortOf I2 v2) = 0 → (((p_X10_sortOf I2 v3) = (1 : Int32) → (v1 = 0 ∨ v1 = 1) ∧ ZC G mX11_agreeInNumbers fX11_agreeInNumbers lX11_agreeInNumbers [zo G 0, zo G (zrl S v1), .int v2, .int v3] S I2 L2 0 0 (fun w S' I3 L3 => ∃ r3 : Int32, w = some (.int r3) ∧ S = S' ∧ ((r3 = 0 → Q (some (.int (0 : Int32))) S I3 L3) ∧ (¬ r3 = 0 → (v1 = 0 ∨ v1 = 1) ∧ (((p_X11_canFit I3 (zrl S v1) v2 v3) = 0 → Q (some (.int (0 : Int32))) S I3 L3) ∧ (¬ (p_X11_canFit I3 (zrl S v1) v2 v3) = 0 → Q (some (.int (1 : Int32))) S I3 L3)))))) ∧ (¬ (p_X10_sortOf I2 v3) = (1 : Int32) → Q (some (.int (-1 : Int32))) S I2 L2))))))))))))) : ZW G mX11_fits fX11_fits lX11_fits 0 [zo G 0, .int v1, .int v2, .int v3] [] S I L bc bs Q := by
  refine zr_aload_n dX11_fits_0 rfl rfl ?_
  refine zr_iload_n dX11_fits_1 rfl rfl ?_
  refine zr_callV (As := [.int v1]) (fr' := fX11_isCustom) (lo' := lX11_isCustom) (bc' := 0) (bs' := 0) (bcr := bc) (bsr := bs) dX11_fits_2 zs_X11_147 zi_X11_isCustom zcl_11 (hS.has (a := 0) rfl rfl) rfl rfl (Nat.le_of_ble_eq_true rfl) (Nat.le_of_ble_eq_true rfl) (Nat.le_of_ble_eq_true rfl) (Nat.le_refl _) (Nat.le_refl _) ?_
  refine sp_X11_isCustom hS  ?_
  show ZW G mX11_fits fX11_fits lX11_fits 5 [zo G 0, .int v1, .int v2, .int v3] [.int (p_X11_isCustom v1)] S I L bc bs Q
  refine zr_ifeq (tgt := 47) dX11_fits_5 (by decide) (fun hb => ?_) (fun hb => ?_)
  · have k := k.1 hb
    refine zr_iconst (v := -1) dX11_fits_47 (by decide) ?_
    exact zr_ireturn dX11_fits_48 rfl rfl k
  · have k := k.2 hb
    refine zr_aload_n dX11_fits_8 rfl rfl ?_
    refine zr_iload_n dX11_fits_9 rfl rfl ?_
    refine zr_callV (As := [.int v2]) (fr' := fX11_isJoint) (lo' := lX11_isJoint) (bc' := 0) (bs' := 0) (bcr := bc) (bsr := bs) dX11_fits_10 zs_X11_201 zi_X11_isJoint zcl_11 (hS.has (a := 0) rfl rfl) rfl rfl (Nat.le_of_ble_eq_true rfl) (Nat.le_of_ble_eq_true rfl) (Nat.le_of_ble_eq_true rfl) (Nat.le_refl _) (Nat.le_refl _) ?_
    refine ZC.mono (fun w S' I1 L1 k => ?_) k
    obtain ⟨r1, rfl, rfl, k⟩ := k
    show ZW G mX11_fits fX11_fits lX11_fits 13 [zo G 0, .int v1, .int v2, .int v3] [.int r1] S I1 L1 bc bs Q
    refine zr_ifeq (tgt := 47) dX11_fits_13 (by decide) (fun hb => ?_) (fun hb => ?_)
    · have k := k.1 hb
      refine zr_iconst (v := -1) dX11_fits_47 (by decide) ?_
      exact zr_ireturn dX11_fits_48 rfl rfl k
    · have k := k.2 hb
      refine zr_aload_n dX11_fits_16 rfl rfl ?_
      refine zr_iload_n dX11_fits_17 rfl rfl ?_
      refine zr_callV (As := [.int v3]) (fr' := fX11_isJoint) (lo' := lX11_isJoint) (bc' := 0) (bs' := 0) (bcr := bc) (bsr := bs) dX11_fits_18 zs_X11_201 zi_X11_isJoint zcl_11 (hS.has (a := 0) rfl rfl) rfl rfl (Nat.le_of_ble_eq_true rfl) (Nat.le_of_ble_eq_true rfl) (Nat.le_of_ble_eq_true rfl) (Nat.le_refl _) (Nat.le_refl _) ?_
      refine ZC.mono (fun w S' I2 L2 k => ?_) k
      obtain ⟨r2, rfl, rfl, k⟩ := k
      show ZW G mX11_fits fX11_fits lX11_fits 21 [zo G 0, .int v1, .int v2, .int v3] [.int r2] S I2 L2 bc bs Q
      refine zr_ifeq (tgt := 47) dX11_fits_21 (by decide) (fun hb => ?_) (fun hb => ?_)
      · have k := k.1 hb
        refine zr_iconst (v := -1) dX11_fits_47 (by decide) ?_
        exact zr_ireturn dX11_fits_48 rfl rfl k
      · have k := k.2 hb
        refine zr_aload_n dX11_fits_24 rfl rfl ?_
        refine zr_getR dX11_fits_25 zf_X11_33 rfl (hS.has (a := 0) rfl rfl) (hS.ref (a := 10) rfl) ?_
        refine zr_iload_n dX11_fits_28 rfl rfl ?_
        refine zr_callV (As := [.int v2]) (fr' := fX10_sortOf) (lo' := lX10_sortOf) (bc' := 0) (bs' := 0) (bcr := bc) (bsr := bs) dX11_fits_29 zs_X11_210 zi_X10_sortOf zcl_10 (hS.has (a := 10) rfl rfl) rfl rfl (Nat.le_of_ble_eq_true rfl) (Nat.le_of_ble_eq_true rfl) (Nat.le_of_ble_eq_true rfl) (Nat.le_refl _) (Nat.le_refl _) ?_
        refine sp_X10_sortOf hS  ?_
        show ZW G mX11_fits fX11_fits lX11_fits 32 [zo G 0, .int v1, .int v2, .int v3] [.int (p_X10_sortOf I2 v2)] S I2 L2 bc bs Q
        refine zr_ifne (tgt := 47) dX11_fits_32 (by decide) (fun hb => ?_) (fun hb => ?_)
        · have k := k.1 hb
          refine zr_iconst (v := -1) dX11_fits_47 (by decide) ?_
          exact zr_ireturn dX11_fits_48 rfl rfl k
        · have k := k.2 hb
          refine zr_aload_n dX11_fits_35 rfl rfl ?_
          refine zr_getR dX11_fits_36 zf_X11_33 rfl (hS.has (a := 0) rfl rfl) (hS.ref (a := 10) rfl) ?_
          refine zr_iload_n dX11_fits_39 rfl rfl ?_
          refine zr_callV (As := [.int v3]) (fr' := fX10_sortOf) (lo' := lX10_sortOf) (bc' := 0) (bs' := 0) (bcr := bc) (bsr := bs) dX11_fits_40 zs_X11_210 zi_X10_sortOf zcl_10 (hS.has (a := 10) rfl rfl) rfl rfl (Nat.le_of_ble_eq_true rfl) (Nat.le_of_ble_eq_true rfl) (Nat.le_of_ble_eq_true rfl) (Nat.le_refl _) (Nat.le_refl _) ?_
          refine sp_X10_sortOf hS  ?_
          show ZW G mX11_fits fX11_fits lX11_fits 43 [zo G 0, .int v1, .int v2, .int v3] [.int (p_X10_sortOf I2 v3)] S I2 L2 bc bs Q
          refine zr_iconst (v := 1) dX11_fits_43 (by decide) ?_
          refine zr_iceq (tgt := 49) dX11_fits_44 (by decide) (fun hb => ?_) (fun hb => ?_)
          · have k := k.1 hb
            refine zr_aload_n dX11_fits_49 rfl rfl ?_
            refine zr_aload_n dX11_fits_50 rfl rfl ?_
            refine zr_getR dX11_fits_51 zf_X11_26 rfl (hS.has (a := 0) rfl rfl) (hS.ref (a := 7) rfl) ?_
            refine zr_iload_n dX11_fits_54 rfl rfl ?_
            obtain ⟨hx1, k⟩ := k
            refine zr_aald dX11_fits_55 (hS.has (a := 7) rfl rfl) (by decide) (zin2 hx1) (hS.rl hx1).1 ?_
            refine zr_iload_n dX11_fits_56 rfl rfl ?_
            refine zr_iload_n dX11_fits_57 rfl rfl ?_
            refine zr_callV (As := [zo G (zrl S v1), .int v2, .int v3]) (fr' := fX11_agreeInNumbers) (lo' := lX11_agreeInNumbers) (bc' := 0) (bs' := 0) (bcr := bc) (bsr := bs) dX11_fits_58 zs_X11_231 zi_X11_agreeInNumbers zcl_11 (hS.has (a := 0) rfl rfl) rfl rfl (Nat.le_of_ble_eq_true rfl) (Nat.le_of_ble_eq_true rfl) (Nat.le_of_ble_eq_true rfl) (Nat.le_refl _) (Nat.le_refl _) ?_
            refine ZC.mono (fun w S' I3 L3 k => ?_) k
            obtain ⟨r3, rfl, rfl, k⟩ := k
            show ZW G mX11_fits fX11_fits lX11_fits 61 [zo G 0, .int v1, .int v2, .int v3] [.int r3] S I3 L3 bc bs Q
            refine zr_ifeq (tgt := 83) dX11_fits_61 (by decide) (fun hb => ?_) (fun hb => ?_)
            · have k := k.1 hb
              refine zr_iconst (v := 0) dX11_fits_83 (by decide) ?_
              exact zr_ireturn dX11_fits_84 rfl rfl k
            · have k := k.2 hb
              refine zr_aload_n dX11_fits_64 rfl rfl ?_
              refine zr_aload_n dX11_fits_65 rfl rfl ?_
              refine zr_getR dX11_fits_66 zf_X11_26 rfl (hS.has (a := 0) rfl rfl) (hS.ref (a := 7) rfl) ?_
              refine zr_iload_n dX11_fits_69 rfl rfl ?_
              obtain ⟨hx2, k⟩ := k
              refine zr_aald dX11_fits_70 (hS.has (a := 7) rfl rfl) (by decide) (zin2 hx2) (hS.rl hx2).1 ?_
              refine zr_iload_n dX11_fits_71 rfl rfl ?_
              refine zr_iload_n dX11_fits_72 rfl rfl ?_
              refine zr_callV (As := [zo G (zrl S v1), .int v2, .int v3]) (fr' := fX11_canFit) (lo' := lX11_canFit) (bc' := 0) (bs' := 0) (bcr := bc) (bsr := bs) dX11_fits_73 zs_X11_235 zi_X11_canFit zcl_11 (hS.has (a := 0) rfl rfl) rfl rfl (Nat.le_of_ble_eq_true rfl) (Nat.le_of_ble_eq_true rfl) (Nat.le_of_ble_eq_true rfl) (Nat.le_refl _) (Nat.le_refl _) ?_
              refine sp_X11_canFit hS (hS.rl hx2).2 ?_
              show ZW G mX11_fits fX11_fits lX11_fits 76 [zo G 0, .int v1, .int v2, .int v3] [.int (p_X11_canFit I3 (zrl S v1) v2 v3)] S I3 L3 bc bs Q
              refine zr_ifeq (tgt := 83) dX11_fits_76 (by decide) (fun hb => ?_) (fun hb => ?_)
              · have k := k.1 hb
                refine zr_iconst (v := 0) dX11_fits_83 (by decide) ?_
                exact zr_ireturn dX11_fits_84 rfl rfl k
              · have k := k.2 hb
                refine zr_iconst (v := 1) dX11_fits_79 (by decide) ?_
                refine zr_goto (tgt := 84) dX11_fits_80 (by decide) ?_
                exact zr_ireturn dX11_fits_84 rfl rfl k
          · have k := k.2 hb
            refine zr_iconst (v := -1) dX11_fits_47 (by decide) ?_
            exact zr_ireturn dX11_fits_48 rfl rfl k
set_option maxHeartbeats 2000000 in
theorem vX11_join_0 {G : Gp} {bc bs : Nat} {Q : zPost} {S : zSh} {I : zFI} {L : zFL} {v1 : Int32} {v2 : Int32} (hS : zStd S)  (k : ((¬ (p_X11_isCustom v1) = 0 → ZC G mX11_refresh fX11_refresh lX11_refresh [zo G 0] S I L 0 0 (fun w S' I1 L1 => w = none ∧ S = S' ∧ ((v2 = 0 → (v1 = 0 ∨ v1 = 1) ∧ Q (some (.int (p_X4_pairCount I1 (zjid v1)))) S I1 L1) ∧ (v2 = 1 → (v1 = 0 ∨ v1 = 1) ∧ Q (some (.int (p_X4_moreInAll I1 (zjid v1)))) S I1 L1) ∧ (v2 = 2 → (v1 = 0 ∨ v1 = 1) ∧ ZC G mX4_forcedCount fX4_forcedCount lX4_forcedCount [zo G (zjid v1)] S I1 L1 0 0 (fun w S' I2 L2 => ∃ r2 : Int32, w = some (.int r2) ∧ S = S' ∧ Q (some (.int r2)) S I2 L2)) ∧ (v2 = 3 → (v1 = 0 ∨ v1 = 1) ∧ Q (some (.int (p_X3_size I1 (zgid v1)))) S I1 L1) ∧ (¬ v2 = 0 → ¬ v2 = 1 → ¬ v2 = 2 → ¬ v2 = 3 → Q (some (.int (-1 : Int32))) S I1 L1)))) ∧ ((p_X11_isCustom v1) = 0 → Q (some (.int (-1 : Int32))) S I L))) : ZW G mX11_join fX11_join lX11_join 0 [zo G 0, .int v1, .int v2] [] S I L bc bs Q := by
  refine zr_aload_n dX11_join_0 rfl rfl ?_
  refine zr_iload_n dX11_join_1 rfl rfl ?_
  refine zr_callV (As := [.int v1]) (fr' := fX11_isCustom) (lo' := lX11_isCustom) (bc' := 0) (bs' := 0) (bcr := bc) (bsr := bs) dX11_join_2 zs_X11_147 zi_X11_isCustom zcl_11 (hS.has (a := 0) rfl rfl) rfl rfl (Nat.le_of_ble_eq_true rfl) (Nat.le_of_ble_eq_true rfl) (Nat.le_of_ble_eq_true rfl) (Nat.le_refl _) (Nat.le_refl _) ?_
  refine sp_X11_isCustom hS  ?_
  show ZW G mX11_join fX11_join lX11_join 5 [zo G 0, .int v1, .int v2] [.int (p_X11_isCustom v1)] S I L bc bs Q
  refine zr_ifne (tgt := 10) dX11_join_5 (by decide) (fun hb => ?_) (fun hb => ?_)
  · have k := k.1 hb
    refine zr_aload_n dX11_join_10 rfl rfl ?_
    refine zr_callV (As := []) (fr' := fX11_refresh) (lo' := lX11_refresh) (bc' := 0) (bs' := 0) (bcr := bc) (bsr := bs) dX11_join_11 zs_X11_238 zi_X11_refresh zcl_11 (hS.has (a := 0) rfl rfl) rfl rfl (Nat.le_of_ble_eq_true rfl) (Nat.le_of_ble_eq_true rfl) (Nat.le_of_ble_eq_true rfl) (Nat.le_refl _) (Nat.le_refl _) ?_
    refine ZC.mono (fun w S' I1 L1 k => ?_) k
    obtain ⟨rfl, rfl, k⟩ := k
    show ZW G mX11_join fX11_join lX11_join 14 [zo G 0, .int v1, .int v2] [] S I1 L1 bc bs Q
    refine zr_iload_n dX11_join_14 rfl rfl ?_
    by_cases h0 : v2 = 0
    · have k := k.1 h0
      refine zr_tabIn (off := 29) (tgt := 44) dX11_join_15 (by rw [h0]; decide) (by rw [h0]; decide) (by rw [h0]; rfl) (by decide) ?_
      refine zr_aload_n dX11_join_44 rfl rfl ?_
      refine zr_getR dX11_join_45 zf_X11_47 rfl (hS.has (a := 0) rfl rfl) (hS.ref (a := 26) rfl) ?_
      refine zr_iload_n dX11_join_48 rfl rfl ?_
      obtain ⟨hx, k⟩ := k
      refine zr_aald dX11_join_49 (hS.has (a := 26) rfl rfl) (by decide) (zin2 hx) (zjid_ref hS hx) ?_
      refine zr_callV (As := []) (fr' := fX4_pairCount) (lo' := lX4_pairCount) (bc' := 0) (bs' := 0) (bcr := bc) (bsr := bs) dX11_join_50 zs_X11_241 zi_X4_pairCount zcl_4 (hS.hasJ (zjid_or v1) 0 rfl rfl rfl) rfl rfl (Nat.le_of_ble_eq_true rfl) (Nat.le_of_ble_eq_true rfl) (Nat.le_of_ble_eq_true rfl) (Nat.le_refl _) (Nat.le_refl _) ?_
      refine sp_X4_pairCount hS (zjid_or v1) ?_
      show ZW G mX11_join fX11_join lX11_join 53 [zo G 0, .int v1, .int v2] [.int (p_X4_pairCount I1 (zjid v1))] S I1 L1 bc bs Q
      exact zr_ireturn dX11_join_53 rfl rfl k
    · by_cases h1 : v2 = 1
      · have k := k.2.1 h1
        refine zr_tabIn (off := 39) (tgt := 54) dX11_join_15 (by rw [h1]; decide) (by rw [h1]; decide) (by rw [h1]; rfl) (by decide) ?_
        refine zr_aload_n dX11_join_54 rfl rfl ?_
        refine zr_getR dX11_join_55 zf_X11_47 rfl (hS.has (a := 0) rfl rfl) (hS.ref (a := 26) rfl) ?_
        refine zr_iload_n dX11_join_58 rfl rfl ?_
        obtain ⟨hx, k⟩ := k
        refine zr_aald dX11_join_59 (hS.has (a := 26) rfl rfl) (by decide) (zin2 hx) (zjid_ref hS hx) ?_
        refine zr_callV (As := []) (fr' := fX4_moreInAll) (lo' := lX4_moreInAll) (bc' := 0) (bs' := 0) (bcr := bc) (bsr := bs) dX11_join_60 zs_X11_244 zi_X4_moreInAll zcl_4 (hS.hasJ (zjid_or v1) 0 rfl rfl rfl) rfl rfl (Nat.le_of_ble_eq_true rfl) (Nat.le_of_ble_eq_true rfl) (Nat.le_of_ble_eq_true rfl) (Nat.le_refl _) (Nat.le_refl _) ?_
        refine sp_X4_moreInAll hS (zjid_or v1) ?_
        show ZW G mX11_join fX11_join lX11_join 63 [zo G 0, .int v1, .int v2] [.int (p_X4_moreInAll I1 (zjid v1))] S I1 L1 bc bs Q
        exact zr_ireturn dX11_join_63 rfl rfl k
      · by_cases h2 : v2 = 2
        · have k := k.2.2.1 h2
          refine zr_tabIn (off := 49) (tgt := 64) dX11_join_15 (by rw [h2]; decide) (by rw [h2]; decide) (by rw [h2]; rfl) (by decide) ?_
          refine zr_aload_n dX11_join_64 rfl rfl ?_
          refine zr_getR dX11_join_65 zf_X11_47 rfl (hS.has (a := 0) rfl rfl) (hS.ref (a := 26) rfl) ?_
          refine zr_iload_n dX11_join_68 rfl rfl ?_
          obtain ⟨hx, k⟩ := k
          refine zr_aald dX11_join_69 (hS.has (a := 26) rfl rfl) (by decide) (zin2 hx) (zjid_ref hS hx) ?_
          refine zr_callV (As := []) (fr' := fX4_forcedCount) (lo' := lX4_forcedCount) (bc' := 0) (bs' := 0) (bcr := bc) (bsr := bs) dX11_join_70 zs_X11_247 zi_X4_forcedCount zcl_4 (hS.hasJ (zjid_or v1) 0 rfl rfl rfl) rfl rfl (Nat.le_of_ble_eq_true rfl) (Nat.le_of_ble_eq_true rfl) (Nat.le_of_ble_eq_true rfl) (Nat.le_refl _) (Nat.le_refl _) ?_
          refine ZC.mono (fun w S' I2 L2 k => ?_) k
          obtain ⟨r2, rfl, rfl, k⟩ := k
          show ZW G mX11_join fX11_join lX11_join 73 [zo G 0, .int v1, .int v2] [.int r2] S I2 L2 bc bs Q
          exact zr_ireturn dX11_join_73 rfl rfl k
        · by_cases h3 : v2 = 3
          · have k := k.2.2.2.1 h3
            refine zr_tabIn (off := 59) (tgt := 74) dX11_join_15 (by rw [h3]; decide) (by rw [h3]; decide) (by rw [h3]; rfl) (by decide) ?_
            refine zr_aload_n dX11_join_74 rfl rfl ?_
            refine zr_getR dX11_join_75 zf_X11_54 rfl (hS.has (a := 0) rfl rfl) (hS.ref (a := 43) rfl) ?_
            refine zr_iload_n dX11_join_78 rfl rfl ?_
            obtain ⟨hx, k⟩ := k
            refine zr_aald dX11_join_79 (hS.has (a := 43) rfl rfl) (by decide) (zin2 hx) (zgid_ref hS hx) ?_
            refine zr_callV (As := []) (fr' := fX3_size) (lo' := lX3_size) (bc' := 0) (bs' := 0) (bcr := bc) (bsr := bs) dX11_join_80 zs_X11_250 zi_X3_size zcl_3 (hS.hasF (zgid_or v1) 0 rfl rfl rfl) rfl rfl (Nat.le_of_ble_eq_true rfl) (Nat.le_of_ble_eq_true rfl) (Nat.le_of_ble_eq_true rfl) (Nat.le_refl _) (Nat.le_refl _) ?_
            refine sp_X3_size hS (zgid_or v1) ?_
            show ZW G mX11_join fX11_join lX11_join 83 [zo G 0, .int v1, .int v2] [.int (p_X3_size I1 (zgid v1))] S I1 L1 bc bs Q
            exact zr_ireturn dX11_join_83 rfl rfl k
          · have k := k.2.2.2.2 h0 h1 h2 h3
            refine zr_tabOut (tgt := 84) dX11_join_15 ?_ (by decide) ?_
            · have e0 := ztab_ne h0; have e1 := ztab_ne h1; have e2 := ztab_ne h2; have e3 := ztab_ne h3; simp only [ztabv_0, ztabv_1, ztabv_2, ztabv_3] at e0 e1 e2 e3; omega
            refine zr_iconst (v := -1) dX11_join_84 (by decide) ?_
            exact zr_ireturn dX11_join_85 rfl rfl k
  · have k := k.2 hb
    refine zr_iconst (v := -1) dX11_join_8 (by decide) ?_
    exact zr_ireturn dX11_join_9 rfl rfl k
set_option maxHeartbeats 2000000 in
theorem vX11_mate_0 {G : Gp} {bc bs : Nat} {Q : zPost} {S : zSh} {I : zFI} {L : zFL} {v1 : Int32} {v2 : Int32} (hS : zStd S)  (k : (((p_X11_isCustom v1) = 0 → Q (some (.int (-1 : Int32))) S I L) ∧ (¬ (p_X11_isCustom v1) = 0 → ZC G mX11_isJoint fX11_isJoint lX11_isJoint [zo G 0, .int v2] S I L 0 0 (fun w S' I1 L1 => ∃ r1 : Int32, w = some (.int r1) ∧ S = S' ∧ ((¬ r1 = 0 → ZC G mX11_refresh fX11_refresh lX11_refresh [zo G 0] S I1 L1 0 0 (fun w S' I2 L2 => w = none ∧ S = S' ∧ (v1 = 0 ∨ v1 = 1) ∧ Q (some (.int (p_X4_partnerOf I2 (zjid v1) v2))) S I2 L2)) ∧ (r1 = 0 → Q (some (.int (-1 : Int32))) S I1 L1)))))) : ZW G mX11_mate fX11_mate lX11_mate 0 [zo G 0, .int v1, .int v2] [] S I L bc bs Q := by
  refine zr_aload_n dX11_mate_0 rfl rfl ?_
  refine zr_iload_n dX11_mate_1 rfl rfl ?_
  refine zr_callV (As := [.int v1]) (fr' := fX11_isCustom) (lo' := lX11_isCustom) (bc' := 0) (bs' := 0) (bcr := bc) (bsr := bs) dX11_mate_2 zs_X11_147 zi_X11_isCustom zcl_11 (hS.has (a := 0) rfl rfl) rfl rfl (Nat.le_of_ble_eq_true rfl) (Nat.le_of_ble_eq_true rfl) (Nat.le_of_ble_eq_true rfl) (Nat.le_refl _) (Nat.le_refl _) ?_
  refine sp_X11_isCustom hS  ?_
  show ZW G mX11_mate fX11_mate lX11_mate 5 [zo G 0, .int v1, .int v2] [.int (p_X11_isCustom v1)] S I L bc bs Q
  refine zr_ifeq (tgt := 16) dX11_mate_5 (by decide) (fun hb => ?_) (fun hb => ?_)
  · have k := k.1 hb
    refine zr_iconst (v := -1) dX11_mate_16 (by decide) ?_
    exact zr_ireturn dX11_mate_17 rfl rfl k
  · have k := k.2 hb
    refine zr_aload_n dX11_mate_8 rfl rfl ?_
    refine zr_iload_n dX11_mate_9 rfl rfl ?_
    refine zr_callV (As := [.int v2]) (fr' := fX11_isJoint) (lo' := lX11_isJoint) (bc' := 0) (bs' := 0) (bcr := bc) (bsr := bs) dX11_mate_10 zs_X11_201 zi_X11_isJoint zcl_11 (hS.has (a := 0) rfl rfl) rfl rfl (Nat.le_of_ble_eq_true rfl) (Nat.le_of_ble_eq_true rfl) (Nat.le_of_ble_eq_true rfl) (Nat.le_refl _) (Nat.le_refl _) ?_
    refine ZC.mono (fun w S' I1 L1 k => ?_) k
    obtain ⟨r1, rfl, rfl, k⟩ := k
    show ZW G mX11_mate fX11_mate lX11_mate 13 [zo G 0, .int v1, .int v2] [.int r1] S I1 L1 bc bs Q
    refine zr_ifne (tgt := 18) dX11_mate_13 (by decide) (fun hb => ?_) (fun hb => ?_)
    · have k := k.1 hb
      refine zr_aload_n dX11_mate_18 rfl rfl ?_
      refine zr_callV (As := []) (fr' := fX11_refresh) (lo' := lX11_refresh) (bc' := 0) (bs' := 0) (bcr := bc) (bsr := bs) dX11_mate_19 zs_X11_238 zi_X11_refresh zcl_11 (hS.has (a := 0) rfl rfl) rfl rfl (Nat.le_of_ble_eq_true rfl) (Nat.le_of_ble_eq_true rfl) (Nat.le_of_ble_eq_true rfl) (Nat.le_refl _) (Nat.le_refl _) ?_
      refine ZC.mono (fun w S' I2 L2 k => ?_) k
      obtain ⟨rfl, rfl, k⟩ := k
      show ZW G mX11_mate fX11_mate lX11_mate 22 [zo G 0, .int v1, .int v2] [] S I2 L2 bc bs Q
      refine zr_aload_n dX11_mate_22 rfl rfl ?_
      refine zr_getR dX11_mate_23 zf_X11_47 rfl (hS.has (a := 0) rfl rfl) (hS.ref (a := 26) rfl) ?_
      refine zr_iload_n dX11_mate_26 rfl rfl ?_
      obtain ⟨hx, k⟩ := k
      refine zr_aald dX11_mate_27 (hS.has (a := 26) rfl rfl) (by decide) (zin2 hx) (zjid_ref hS hx) ?_
      refine zr_iload_n dX11_mate_28 rfl rfl ?_
      refine zr_callV (As := [.int v2]) (fr' := fX4_partnerOf) (lo' := lX4_partnerOf) (bc' := 0) (bs' := 0) (bcr := bc) (bsr := bs) dX11_mate_29 zs_X11_251 zi_X4_partnerOf zcl_4 (hS.hasJ (zjid_or v1) 0 rfl rfl rfl) rfl rfl (Nat.le_of_ble_eq_true rfl) (Nat.le_of_ble_eq_true rfl) (Nat.le_of_ble_eq_true rfl) (Nat.le_refl _) (Nat.le_refl _) ?_
      refine sp_X4_partnerOf hS (zjid_or v1) ?_
      show ZW G mX11_mate fX11_mate lX11_mate 32 [zo G 0, .int v1, .int v2] [.int (p_X4_partnerOf I2 (zjid v1) v2)] S I2 L2 bc bs Q
      exact zr_ireturn dX11_mate_32 rfl rfl k
    · have k := k.2 hb
      refine zr_iconst (v := -1) dX11_mate_16 (by decide) ?_
      exact zr_ireturn dX11_mate_17 rfl rfl k
set_option maxHeartbeats 2000000 in
theorem vX11_forced_0 {G : Gp} {bc bs : Nat} {Q : zPost} {S : zSh} {I : zFI} {L : zFL} {v1 : Int32} {v2 : Int32} (hS : zStd S)  (k : (((p_X11_isCustom v1) = 0 → Q (some (.int (-1 : Int32))) S I L) ∧ (¬ (p_X11_isCustom v1) = 0 → ZC G mX11_isJoint fX11_isJoint lX11_isJoint [zo G 0, .int v2] S I L 0 0 (fun w S' I1 L1 => ∃ r1 : Int32, w = some (.int r1) ∧ S = S' ∧ ((¬ r1 = 0 → ZC G mX11_refresh fX11_refresh lX11_refresh [zo G 0] S I1 L1 0 0 (fun w S' I2 L2 => w = none ∧ S = S' ∧ (v1 = 0 ∨ v1 = 1) ∧ ((¬ (p_X4_partnerOf I2 (zjid v1) v2) = (-1 : Int32) → (v1 = 0 ∨ v1 = 1) ∧ (((p_X4_isForced L2 (zjid v1) v2) = 0 → Q (some (.int (0 : Int32))) S I2 L2) ∧ (¬ (p_X4_isForced L2 (zjid v1) v2) = 0 → Q (some (.int (1 : Int32))) S I2 L2))) ∧ ((p_X4_partnerOf I2 (zjid v1) v2) = (-1 : Int32) → Q (some (.int (-1 : Int32))) S I2 L2)))) ∧ (r1 = 0 → Q (some (.int (-1 : Int32))) S I1 L1)))))) : ZW G mX11_forced fX11_forced lX11_forced 0 [zo G 0, .int v1, .int v2] [] S I L bc bs Q := by
  refine zr_aload_n dX11_forced_0 rfl rfl ?_
  refine zr_iload_n dX11_forced_1 rfl rfl ?_
  refine zr_callV (As := [.int v1]) (fr' := fX11_isCustom) (lo' := lX11_isCustom) (bc' := 0) (bs' := 0) (bcr := bc) (bsr := bs) dX11_forced_2 zs_X11_147 zi_X11_isCustom zcl_11 (hS.has (a := 0) rfl rfl) rfl rfl (Nat.le_of_ble_eq_true rfl) (Nat.le_of_ble_eq_true rfl) (Nat.le_of_ble_eq_true rfl) (Nat.le_refl _) (Nat.le_refl _) ?_
  refine sp_X11_isCustom hS  ?_
  show ZW G mX11_forced fX11_forced lX11_forced 5 [zo G 0, .int v1, .int v2] [.int (p_X11_isCustom v1)] S I L bc bs Q
  refine zr_ifeq (tgt := 16) dX11_forced_5 (by decide) (fun hb => ?_) (fun hb => ?_)
  · have k := k.1 hb
    refine zr_iconst (v := -1) dX11_forced_16 (by decide) ?_
    exact zr_ireturn dX11_forced_17 rfl rfl k
  · have k := k.2 hb
    refine zr_aload_n dX11_forced_8 rfl rfl ?_
    refine zr_iload_n dX11_forced_9 rfl rfl ?_
    refine zr_callV (As := [.int v2]) (fr' := fX11_isJoint) (lo' := lX11_isJoint) (bc' := 0) (bs' := 0) (bcr := bc) (bsr := bs) dX11_forced_10 zs_X11_201 zi_X11_isJoint zcl_11 (hS.has (a := 0) rfl rfl) rfl rfl (Nat.le_of_ble_eq_true rfl) (Nat.le_of_ble_eq_true rfl) (Nat.le_of_ble_eq_true rfl) (Nat.le_refl _) (Nat.le_refl _) ?_
    refine ZC.mono (fun w S' I1 L1 k => ?_) k
    obtain ⟨r1, rfl, rfl, k⟩ := k
    show ZW G mX11_forced fX11_forced lX11_forced 13 [zo G 0, .int v1, .int v2] [.int r1] S I1 L1 bc bs Q
    refine zr_ifne (tgt := 18) dX11_forced_13 (by decide) (fun hb => ?_) (fun hb => ?_)
    · have k := k.1 hb
      refine zr_aload_n dX11_forced_18 rfl rfl ?_
      refine zr_callV (As := []) (fr' := fX11_refresh) (lo' := lX11_refresh) (bc' := 0) (bs' := 0) (bcr := bc) (bsr := bs) dX11_forced_19 zs_X11_238 zi_X11_refresh zcl_11 (hS.has (a := 0) rfl rfl) rfl rfl (Nat.le_of_ble_eq_true rfl) (Nat.le_of_ble_eq_true rfl) (Nat.le_of_ble_eq_true rfl) (Nat.le_refl _) (Nat.le_refl _) ?_
      refine ZC.mono (fun w S' I2 L2 k => ?_) k
      obtain ⟨rfl, rfl, k⟩ := k
      show ZW G mX11_forced fX11_forced lX11_forced 22 [zo G 0, .int v1, .int v2] [] S I2 L2 bc bs Q
      refine zr_aload_n dX11_forced_22 rfl rfl ?_
      refine zr_getR dX11_forced_23 zf_X11_47 rfl (hS.has (a := 0) rfl rfl) (hS.ref (a := 26) rfl) ?_
      refine zr_iload_n dX11_forced_26 rfl rfl ?_
      obtain ⟨hx, k⟩ := k
      refine zr_aald dX11_forced_27 (hS.has (a := 26) rfl rfl) (by decide) (zin2 hx) (zjid_ref hS hx) ?_
      refine zr_iload_n dX11_forced_28 rfl rfl ?_
      refine zr_callV (As := [.int v2]) (fr' := fX4_partnerOf) (lo' := lX4_partnerOf) (bc' := 0) (bs' := 0) (bcr := bc) (bsr := bs) dX11_forced_29 zs_X11_251 zi_X4_partnerOf zcl_4 (hS.hasJ (zjid_or v1) 0 rfl rfl rfl) rfl rfl (Nat.le_of_ble_eq_true rfl) (Nat.le_of_ble_eq_true rfl) (Nat.le_of_ble_eq_true rfl) (Nat.le_refl _) (Nat.le_refl _) ?_
      refine sp_X4_partnerOf hS (zjid_or v1) ?_
      show ZW G mX11_forced fX11_forced lX11_forced 32 [zo G 0, .int v1, .int v2] [.int (p_X4_partnerOf I2 (zjid v1) v2)] S I2 L2 bc bs Q
      refine zr_iconst (v := -1) dX11_forced_32 (by decide) ?_
      refine zr_icne (tgt := 38) dX11_forced_33 (by decide) (fun hb => ?_) (fun hb => ?_)
      · have k := k.1 hb
        refine zr_aload_n dX11_forced_38 rfl rfl ?_
        refine zr_getR dX11_forced_39 zf_X11_47 rfl (hS.has (a := 0) rfl rfl) (hS.ref (a := 26) rfl) ?_
        refine zr_iload_n dX11_forced_42 rfl rfl ?_
        obtain ⟨hx, k⟩ := k
        refine zr_aald dX11_forced_43 (hS.has (a := 26) rfl rfl) (by decide) (zin2 hx) (zjid_ref hS hx) ?_
        refine zr_iload_n dX11_forced_44 rfl rfl ?_
        refine zr_callV (As := [.int v2]) (fr' := fX4_isForced) (lo' := lX4_isForced) (bc' := 0) (bs' := 0) (bcr := bc) (bsr := bs) dX11_forced_45 zs_X11_254 zi_X4_isForced zcl_4 (hS.hasJ (zjid_or v1) 0 rfl rfl rfl) rfl rfl (Nat.le_of_ble_eq_true rfl) (Nat.le_of_ble_eq_true rfl) (Nat.le_of_ble_eq_true rfl) (Nat.le_refl _) (Nat.le_refl _) ?_
        refine sp_X4_isForced hS (zjid_or v1) ?_
        show ZW G mX11_forced fX11_forced lX11_forced 48 [zo G 0, .int v1, .int v2] [.int (p_X4_isForced L2 (zjid v1) v2)] S I2 L2 bc bs Q
        refine zr_ifeq (tgt := 55) dX11_forced_48 (by decide) (fun hb => ?_) (fun hb => ?_)
        · have k := k.1 hb
          refine zr_iconst (v := 0) dX11_forced_55 (by decide) ?_
          exact zr_ireturn dX11_forced_56 rfl rfl k
        · have k := k.2 hb
          refine zr_iconst (v := 1) dX11_forced_51 (by decide) ?_
          refine zr_goto (tgt := 56) dX11_forced_52 (by decide) ?_
          exact zr_ireturn dX11_forced_56 rfl rfl k
      · have k := k.2 hb
        refine zr_iconst (v := -1) dX11_forced_36 (by decide) ?_
        exact zr_ireturn dX11_forced_37 rfl rfl k
    · have k := k.2 hb
      refine zr_iconst (v := -1) dX11_forced_16 (by decide) ?_
      exact zr_ireturn dX11_forced_17 rfl rfl k
set_option maxHeartbeats 2000000 in
theorem vX11_frameOf_0 {G : Gp} {bc bs : Nat} {Q : zPost} {S : zSh} {I : zFI} {L : zFL} {v1 : Int32} {v2 : Int32} (hS : zStd S)  (k : (((p_X11_isCustom v1) = 0 → Q (some (.int (-1 : Int32))) S I L) ∧ (¬ (p_X11_isCustom v1) = 0 → ZC G mX11_isTimber fX11_isTimber lX11_isTimber [zo G 0, .int v2] S I L 0 0 (fun w S' I1 L1 => ∃ r1 : Int32, w = some (.int r1) ∧ S = S' ∧ ((¬ r1 = 0 → ZC G mX11_refresh fX11_refresh lX11_refresh [zo G 0] S I1 L1 0 0 (fun w S' I2 L2 => w = none ∧ S = S' ∧ (v1 = 0 ∨ v1 = 1) ∧ Q (some (.int (p_X3_holding I2 (zgid v1) v2))) S I2 L2)) ∧ (r1 = 0 → Q (some (.int (-1 : Int32))) S I1 L1)))))) : ZW G mX11_frameOf fX11_frameOf lX11_frameOf 0 [zo G 0, .int v1, .int v2] [] S I L bc bs Q := by
  refine zr_aload_n dX11_frameOf_0 rfl rfl ?_
  refine zr_iload_n dX11_frameOf_1 rfl rfl ?_
  refine zr_callV (As := [.int v1]) (fr' := fX11_isCustom) (lo' := lX11_isCustom) (bc' := 0) (bs' := 0) (bcr := bc) (bsr := bs) dX11_frameOf_2 zs_X11_147 zi_X11_isCustom zcl_11 (hS.has (a := 0) rfl rfl) rfl rfl (Nat.le_of_ble_eq_true rfl) (Nat.le_of_ble_eq_true rfl) (Nat.le_of_ble_eq_true rfl) (Nat.le_refl _) (Nat.le_refl _) ?_
  refine sp_X11_isCustom hS  ?_
  show ZW G mX11_frameOf fX11_frameOf lX11_frameOf 5 [zo G 0, .int v1, .int v2] [.int (p_X11_isCustom v1)] S I L bc bs Q
  refine zr_ifeq (tgt := 16) dX11_frameOf_5 (by decide) (fun hb => ?_) (fun hb => ?_)
  · have k := k.1 hb
    refine zr_iconst (v := -1) dX11_frameOf_16 (by decide) ?_
    exact zr_ireturn dX11_frameOf_17 rfl rfl k
  · have k := k.2 hb
    refine zr_aload_n dX11_frameOf_8 rfl rfl ?_
    refine zr_iload_n dX11_frameOf_9 rfl rfl ?_
    refine zr_callV (As := [.int v2]) (fr' := fX11_isTimber) (lo' := lX11_isTimber) (bc' := 0) (bs' := 0) (bcr := bc) (bsr := bs) dX11_frameOf_10 zs_X11_176 zi_X11_isTimber zcl_11 (hS.has (a := 0) rfl rfl) rfl rfl (Nat.le_of_ble_eq_true rfl) (Nat.le_of_ble_eq_true rfl) (Nat.le_of_ble_eq_true rfl) (Nat.le_refl _) (Nat.le_refl _) ?_
    refine ZC.mono (fun w S' I1 L1 k => ?_) k
    obtain ⟨r1, rfl, rfl, k⟩ := k
    show ZW G mX11_frameOf fX11_frameOf lX11_frameOf 13 [zo G 0, .int v1, .int v2] [.int r1] S I1 L1 bc bs Q
    refine zr_ifne (tgt := 18) dX11_frameOf_13 (by decide) (fun hb => ?_) (fun hb => ?_)
    · have k := k.1 hb
      refine zr_aload_n dX11_frameOf_18 rfl rfl ?_
      refine zr_callV (As := []) (fr' := fX11_refresh) (lo' := lX11_refresh) (bc' := 0) (bs' := 0) (bcr := bc) (bsr := bs) dX11_frameOf_19 zs_X11_238 zi_X11_refresh zcl_11 (hS.has (a := 0) rfl rfl) rfl rfl (Nat.le_of_ble_eq_true rfl) (Nat.le_of_ble_eq_true rfl) (Nat.le_of_ble_eq_true rfl) (Nat.le_refl _) (Nat.le_refl _) ?_
      refine ZC.mono (fun w S' I2 L2 k => ?_) k
      obtain ⟨rfl, rfl, k⟩ := k
      show ZW G mX11_frameOf fX11_frameOf lX11_frameOf 22 [zo G 0, .int v1, .int v2] [] S I2 L2 bc bs Q
      refine zr_aload_n dX11_frameOf_22 rfl rfl ?_
      refine zr_getR dX11_frameOf_23 zf_X11_54 rfl (hS.has (a := 0) rfl rfl) (hS.ref (a := 43) rfl) ?_
      refine zr_iload_n dX11_frameOf_26 rfl rfl ?_
      obtain ⟨hx, k⟩ := k
      refine zr_aald dX11_frameOf_27 (hS.has (a := 43) rfl rfl) (by decide) (zin2 hx) (zgid_ref hS hx) ?_
      refine zr_iload_n dX11_frameOf_28 rfl rfl ?_
      refine zr_callV (As := [.int v2]) (fr' := fX3_holding) (lo' := lX3_holding) (bc' := 0) (bs' := 0) (bcr := bc) (bsr := bs) dX11_frameOf_29 zs_X11_257 zi_X3_holding zcl_3 (hS.hasF (zgid_or v1) 0 rfl rfl rfl) rfl rfl (Nat.le_of_ble_eq_true rfl) (Nat.le_of_ble_eq_true rfl) (Nat.le_of_ble_eq_true rfl) (Nat.le_refl _) (Nat.le_refl _) ?_
      refine sp_X3_holding hS (zgid_or v1) ?_
      show ZW G mX11_frameOf fX11_frameOf lX11_frameOf 32 [zo G 0, .int v1, .int v2] [.int (p_X3_holding I2 (zgid v1) v2)] S I2 L2 bc bs Q
      exact zr_ireturn dX11_frameOf_32 rfl rfl k
    · have k := k.2 hb
      refine zr_iconst (v := -1) dX11_frameOf_16 (by decide) ?_
      exact zr_ireturn dX11_frameOf_17 rfl rfl k
set_option maxHeartbeats 2000000 in
theorem vX11_isFrame_0 {G : Gp} {bc bs : Nat} {Q : zPost} {S : zSh} {I : zFI} {L : zFL} {v1 : Int32} {v2 : Int32} (hS : zStd S)  (k : ((¬ (p_X11_isCustom v1) = 0 → ZC G mX11_refresh fX11_refresh lX11_refresh [zo G 0] S I L 0 0 (fun w S' I1 L1 => w = none ∧ S = S' ∧ ((v2 < 0 → Q (some (.int (0 : Int32))) S I1 L1) ∧ (¬ v2 < 0 → (v1 = 0 ∨ v1 = 1) ∧ (((p_X3_size I1 (zgid v1)) ≤ v2 → Q (some (.int (0 : Int32))) S I1 L1) ∧ (¬ (p_X3_size I1 (zgid v1)) ≤ v2 → Q (some (.int (1 : Int32))) S I1 L1)))))) ∧ ((p_X11_isCustom v1) = 0 → Q (some (.int (0 : Int32))) S I L))) : ZW G mX11_isFrame fX11_isFrame lX11_isFrame 0 [zo G 0, .int v1, .int v2] [] S I L bc bs Q := by
  refine zr_aload_n dX11_isFrame_0 rfl rfl ?_
  refine zr_iload_n dX11_isFrame_1 rfl rfl ?_
  refine zr_callV (As := [.int v1]) (fr' := fX11_isCustom) (lo' := lX11_isCustom) (bc' := 0) (bs' := 0) (bcr := bc) (bsr := bs) dX11_isFrame_2 zs_X11_147 zi_X11_isCustom zcl_11 (hS.has (a := 0) rfl rfl) rfl rfl (Nat.le_of_ble_eq_true rfl) (Nat.le_of_ble_eq_true rfl) (Nat.le_of_ble_eq_true rfl) (Nat.le_refl _) (Nat.le_refl _) ?_
  refine sp_X11_isCustom hS  ?_
  show ZW G mX11_isFrame fX11_isFrame lX11_isFrame 5 [zo G 0, .int v1, .int v2] [.int (p_X11_isCustom v1)] S I L bc bs Q
  refine zr_ifne (tgt := 10) dX11_isFrame_5 (by decide) (fun hb => ?_) (fun hb => ?_)
  · have k := k.1 hb
    refine zr_aload_n dX11_isFrame_10 rfl rfl ?_
    refine zr_callV (As := []) (fr' := fX11_refresh) (lo' := lX11_refresh) (bc' := 0) (bs' := 0) (bcr := bc) (bsr := bs) dX11_isFrame_11 zs_X11_238 zi_X11_refresh zcl_11 (hS.has (a := 0) rfl rfl) rfl rfl (Nat.le_of_ble_eq_true rfl) (Nat.le_of_ble_eq_true rfl) (Nat.le_of_ble_eq_true rfl) (Nat.le_refl _) (Nat.le_refl _) ?_
    refine ZC.mono (fun w S' I1 L1 k => ?_) k
    obtain ⟨rfl, rfl, k⟩ := k
    show ZW G mX11_isFrame fX11_isFrame lX11_isFrame 14 [zo G 0, .int v1, .int v2] [] S I1 L1 bc bs Q
    refine zr_iload_n dX11_isFrame_14 rfl rfl ?_
    refine zr_iflt (tgt := 35) dX11_isFrame_15 (by decide) (fun hb => ?_) (fun hb => ?_)
    · have k := k.1 hb
      refine zr_iconst (v := 0) dX11_isFrame_35 (by decide) ?_
      exact zr_ireturn dX11_isFrame_36 rfl rfl k
    · have k := k.2 hb
      refine zr_iload_n dX11_isFrame_18 rfl rfl ?_
      refine zr_aload_n dX11_isFrame_19 rfl rfl ?_
      refine zr_getR dX11_isFrame_20 zf_X11_54 rfl (hS.has (a := 0) rfl rfl) (hS.ref (a := 43) rfl) ?_
      refine zr_iload_n dX11_isFrame_23 rfl rfl ?_
      obtain ⟨hx, k⟩ := k
      refine zr_aald dX11_isFrame_24 (hS.has (a := 43) rfl rfl) (by decide) (zin2 hx) (zgid_ref hS hx) ?_
      refine zr_callV (As := []) (fr' := fX3_size) (lo' := lX3_size) (bc' := 0) (bs' := 0) (bcr := bc) (bsr := bs) dX11_isFrame_25 zs_X11_250 zi_X3_size zcl_3 (hS.hasF (zgid_or v1) 0 rfl rfl rfl) rfl rfl (Nat.le_of_ble_eq_true rfl) (Nat.le_of_ble_eq_true rfl) (Nat.le_of_ble_eq_true rfl) (Nat.le_refl _) (Nat.le_refl _) ?_
      refine sp_X3_size hS (zgid_or v1) ?_
      show ZW G mX11_isFrame fX11_isFrame lX11_isFrame 28 [zo G 0, .int v1, .int v2] [.int (p_X3_size I1 (zgid v1)), .int v2] S I1 L1 bc bs Q
      refine zr_icge (tgt := 35) dX11_isFrame_28 (by decide) (fun hb => ?_) (fun hb => ?_)
      · have k := k.1 hb
        refine zr_iconst (v := 0) dX11_isFrame_35 (by decide) ?_
        exact zr_ireturn dX11_isFrame_36 rfl rfl k
      · have k := k.2 hb
        refine zr_iconst (v := 1) dX11_isFrame_31 (by decide) ?_
        refine zr_goto (tgt := 36) dX11_isFrame_32 (by decide) ?_
        exact zr_ireturn dX11_isFrame_36 rfl rfl k
  · have k := k.2 hb
    refine zr_iconst (v := 0) dX11_isFrame_8 (by decide) ?_
    exact zr_ireturn dX11_isFrame_9 rfl rfl k
set_option maxHeartbeats 2000000 in
theorem vX11_raise_0 {G : Gp} {bc bs : Nat} {Q : zPost} {S : zSh} {I : zFI} {L : zFL} {v1 : Int32} {v2 : Int32} (hS : zStd S)  (k : ((¬ v1 = (1 : Int32) → ((¬ (p_X3_isRaised I 44 v2) = 0 → Q (some (zo G 44)) S I L) ∧ ((p_X3_isRaised I 44 v2) = 0 → ((¬ v1 = (1 : Int32) → ZC G mX7_raise fX7_raise lX7_raise [zo G 60, zo G 44, .int v2, zo G 10, zo G (zrl S 0)] S I L 0 0 (fun w S' I1 L1 => w = none ∧ S = S' ∧ Q (some (zo G 44)) S I1 L1)) ∧ (v1 = (1 : Int32) → ZC G mX7_raise fX7_raise lX7_raise [zo G 60, zo G 44, .int v2, zo G 10, zo G (zrl S 1)] S I L 0 0 (fun w S' I2 L2 => w = none ∧ S = S' ∧ Q (some (zo G 44)) S I2 L2)))))) ∧ (v1 = (1 : Int32) → ((¬ (p_X3_isRaised I 52 v2) = 0 → Q (some (zo G 52)) S I L) ∧ ((p_X3_isRaised I 52 v2) = 0 → ((¬ v1 = (1 : Int32) → ZC G mX7_raise fX7_raise lX7_raise [zo G 60, zo G 52, .int v2, zo G 10, zo G (zrl S 0)] S I L 0 0 (fun w S' I3 L3 => w = none ∧ S = S' ∧ Q (some (zo G 52)) S I3 L3)) ∧ (v1 = (1 : Int32) → ZC G mX7_raise fX7_raise lX7_raise [zo G 60, zo G 52, .int v2, zo G 10, zo G (zrl S 1)] S I L 0 0 (fun w S' I4 L4 => w = none ∧ S = S' ∧ Q (some (zo G 52)) S I4 L4)))))))) : ZW G mX11_raise fX11_raise lX11_raise 0 [zo G 0, .int v1, .int v2, .null] [] S I L bc bs Q := by
  refine zr_aload_n dX11_raise_0 rfl rfl ?_
  refine zr_getR dX11_raise_1 zf_X11_54 rfl (hS.has (a := 0) rfl rfl) (hS.ref (a := 43) rfl) ?_
  refine zr_iload_n dX11_raise_4 rfl rfl ?_
  refine zr_iconst (v := 1) dX11_raise_5 (by decide) ?_
  refine zr_icne (tgt := 13) dX11_raise_6 (by decide) (fun hb => ?_) (fun hb => ?_)
  · have k := k.1 hb
    refine zr_iconst (v := 0) dX11_raise_13 (by decide) ?_
    refine zr_aald (q := 44) dX11_raise_14 (hS.has (a := 43) rfl rfl) (by decide) (zvl (by decide)) (by rcases hS with ⟨-, -, hr, -⟩; exact hr 43 0 44 rfl) ?_
    refine zr_astore_n dX11_raise_15 rfl (Nat.le_of_ble_eq_true rfl) rfl ?_
    refine zr_aload_n dX11_raise_16 rfl rfl ?_
    refine zr_iload_n dX11_raise_17 rfl rfl ?_
    refine zr_callV (As := [.int v2]) (fr' := fX3_isRaised) (lo' := lX3_isRaised) (bc' := 0) (bs' := 0) (bcr := bc) (bsr := bs) dX11_raise_18 zs_X11_379 zi_X3_isRaised zcl_3 (hS.has (a := 44) rfl rfl) rfl rfl (Nat.le_of_ble_eq_true rfl) (Nat.le_of_ble_eq_true rfl) (Nat.le_of_ble_eq_true rfl) (Nat.le_refl _) (Nat.le_refl _) ?_
    refine sp_X3_isRaised hS (show zFm 44 from Or.inl rfl) ?_
    show ZW G mX11_raise fX11_raise lX11_raise 21 [zo G 0, .int v1, .int v2, zo G 44] [.int (p_X3_isRaised I 44 v2)] S I L bc bs Q
    refine zr_ifne (tgt := 52) dX11_raise_21 (by decide) (fun hb => ?_) (fun hb => ?_)
    · have k := k.1 hb
      refine zr_aload_n dX11_raise_52 rfl rfl ?_
      exact zr_areturn dX11_raise_53 rfl k
    · have k := k.2 hb
      refine zr_aload_n dX11_raise_24 rfl rfl ?_
      refine zr_getR dX11_raise_25 zf_X11_61 rfl (hS.has (a := 0) rfl rfl) (hS.ref (a := 60) rfl) ?_
      refine zr_aload_n dX11_raise_28 rfl rfl ?_
      refine zr_iload_n dX11_raise_29 rfl rfl ?_
      refine zr_aload_n dX11_raise_30 rfl rfl ?_
      refine zr_getR dX11_raise_31 zf_X11_33 rfl (hS.has (a := 0) rfl rfl) (hS.ref (a := 10) rfl) ?_
      refine zr_aload_n dX11_raise_34 rfl rfl ?_
      refine zr_getR dX11_raise_35 zf_X11_26 rfl (hS.has (a := 0) rfl rfl) (hS.ref (a := 7) rfl) ?_
      refine zr_iload_n dX11_raise_38 rfl rfl ?_
      refine zr_iconst (v := 1) dX11_raise_39 (by decide) ?_
      refine zr_icne (tgt := 47) dX11_raise_40 (by decide) (fun hb => ?_) (fun hb => ?_)
      · have k := k.1 hb
        refine zr_iconst (v := 0) dX11_raise_47 (by decide) ?_
        refine zr_aald dX11_raise_48 (hS.has (a := 7) rfl rfl) (by decide) (zvl (by decide)) ((hS.rl (x := 0) (by decide)).1) ?_
        refine zr_callV (As := [zo G 44, .int v2, zo G 10, zo G (zrl S 0)]) (fr' := fX7_raise) (lo' := lX7_raise) (bc' := 0) (bs' := 0) (bcr := bc) (bsr := bs) dX11_raise_49 zs_X11_382 zi_X7_raise zcl_7 (hS.has (a := 60) rfl rfl) rfl rfl (Nat.le_of_ble_eq_true rfl) (Nat.le_of_ble_eq_true rfl) (Nat.le_of_ble_eq_true rfl) (Nat.le_refl _) (Nat.le_refl _) ?_
        refine ZC.mono (fun w S' I1 L1 k => ?_) k
        obtain ⟨rfl, rfl, k⟩ := k
        show ZW G mX11_raise fX11_raise lX11_raise 52 [zo G 0, .int v1, .int v2, zo G 44] [] S I1 L1 bc bs Q
        refine zr_aload_n dX11_raise_52 rfl rfl ?_
        exact zr_areturn dX11_raise_53 rfl k
      · have k := k.2 hb
        refine zr_iconst (v := 1) dX11_raise_43 (by decide) ?_
        refine zr_goto (tgt := 48) dX11_raise_44 (by decide) ?_
        refine zr_aald dX11_raise_48 (hS.has (a := 7) rfl rfl) (by decide) (zvl (by decide)) ((hS.rl (x := 1) (by decide)).1) ?_
        refine zr_callV (As := [zo G 44, .int v2, zo G 10, zo G (zrl S 1)]) (fr' := fX7_raise) (lo' := lX7_raise) (bc' := 0) (bs' := 0) (bcr := bc) (bsr := bs) dX11_raise_49 zs_X11_382 zi_X7_raise zcl_7 (hS.has (a := 60) rfl rfl) rfl rfl (Nat.le_of_ble_eq_true rfl) (Nat.le_of_ble_eq_true rfl) (Nat.le_of_ble_eq_true rfl) (Nat.le_refl _) (Nat.le_refl _) ?_
        refine ZC.mono (fun w S' I2 L2 k => ?_) k
        obtain ⟨rfl, rfl, k⟩ := k
        show ZW G mX11_raise fX11_raise lX11_raise 52 [zo G 0, .int v1, .int v2, zo G 44] [] S I2 L2 bc bs Q
        refine zr_aload_n dX11_raise_52 rfl rfl ?_
        exact zr_areturn dX11_raise_53 rfl k
  · have k := k.2 hb
    refine zr_iconst (v := 1) dX11_raise_9 (by decide) ?_
    refine zr_goto (tgt := 14) dX11_raise_10 (by decide) ?_
    refine zr_aald (q := 52) dX11_raise_14 (hS.has (a := 43) rfl rfl) (by decide) (zvl (by decide)) (by rcases hS with ⟨-, -, hr, -⟩; exact hr 43 1 52 rfl) ?_
    refine zr_astore_n dX11_raise_15 rfl (Nat.le_of_ble_eq_true rfl) rfl ?_
    refine zr_aload_n dX11_raise_16 rfl rfl ?_
    refine zr_iload_n dX11_raise_17 rfl rfl ?_
    refine zr_callV (As := [.int v2]) (fr' := fX3_isRaised) (lo' := lX3_isRaised) (bc' := 0) (bs' := 0) (bcr := bc) (bsr := bs) dX11_raise_18 zs_X11_379 zi_X3_isRaised zcl_3 (hS.has (a := 52) rfl rfl) rfl rfl (Nat.le_of_ble_eq_true rfl) (Nat.le_of_ble_eq_true rfl) (Nat.le_of_ble_eq_true rfl) (Nat.le_refl _) (Nat.le_refl _) ?_
    refine sp_X3_isRaised hS (show zFm 52 from Or.inr rfl) ?_
    show ZW G mX11_raise fX11_raise lX11_raise 21 [zo G 0, .int v1, .int v2, zo G 52] [.int (p_X3_isRaised I 52 v2)] S I L bc bs Q
    refine zr_ifne (tgt := 52) dX11_raise_21 (by decide) (fun hb => ?_) (fun hb => ?_)
    · have k := k.1 hb
      refine zr_aload_n dX11_raise_52 rfl rfl ?_
      exact zr_areturn dX11_raise_53 rfl k
    · have k := k.2 hb
      refine zr_aload_n dX11_raise_24 rfl rfl ?_
      refine zr_getR dX11_raise_25 zf_X11_61 rfl (hS.has (a := 0) rfl rfl) (hS.ref (a := 60) rfl) ?_
      refine zr_aload_n dX11_raise_28 rfl rfl ?_
      refine zr_iload_n dX11_raise_29 rfl rfl ?_
      refine zr_aload_n dX11_raise_30 rfl rfl ?_
      refine zr_getR dX11_raise_31 zf_X11_33 rfl (hS.has (a := 0) rfl rfl) (hS.ref (a := 10) rfl) ?_
      refine zr_aload_n dX11_raise_34 rfl rfl ?_
      refine zr_getR dX11_raise_35 zf_X11_26 rfl (hS.has (a := 0) rfl rfl) (hS.ref (a := 7) rfl) ?_
      refine zr_iload_n dX11_raise_38 rfl rfl ?_
      refine zr_iconst (v := 1) dX11_raise_39 (by decide) ?_
      refine zr_icne (tgt := 47) dX11_raise_40 (by decide) (fun hb => ?_) (fun hb => ?_)
      · have k := k.1 hb
        refine zr_iconst (v := 0) dX11_raise_47 (by decide) ?_
        refine zr_aald dX11_raise_48 (hS.has (a := 7) rfl rfl) (by decide) (zvl (by decide)) ((hS.rl (x := 0) (by decide)).1) ?_
        refine zr_callV (As := [zo G 52, .int v2, zo G 10, zo G (zrl S 0)]) (fr' := fX7_raise) (lo' := lX7_raise) (bc' := 0) (bs' := 0) (bcr := bc) (bsr := bs) dX11_raise_49 zs_X11_382 zi_X7_raise zcl_7 (hS.has (a := 60) rfl rfl) rfl rfl (Nat.le_of_ble_eq_true rfl) (Nat.le_of_ble_eq_true rfl) (Nat.le_of_ble_eq_true rfl) (Nat.le_refl _) (Nat.le_refl _) ?_
        refine ZC.mono (fun w S' I3 L3 k => ?_) k
        obtain ⟨rfl, rfl, k⟩ := k
        show ZW G mX11_raise fX11_raise lX11_raise 52 [zo G 0, .int v1, .int v2, zo G 52] [] S I3 L3 bc bs Q
        refine zr_aload_n dX11_raise_52 rfl rfl ?_
        exact zr_areturn dX11_raise_53 rfl k
      · have k := k.2 hb
        refine zr_iconst (v := 1) dX11_raise_43 (by decide) ?_
        refine zr_goto (tgt := 48) dX11_raise_44 (by decide) ?_
        refine zr_aald dX11_raise_48 (hS.has (a := 7) rfl rfl) (by decide) (zvl (by decide)) ((hS.rl (x := 1) (by decide)).1) ?_
        refine zr_callV (As := [zo G 52, .int v2, zo G 10, zo G (zrl S 1)]) (fr' := fX7_raise) (lo' := lX7_raise) (bc' := 0) (bs' := 0) (bcr := bc) (bsr := bs) dX11_raise_49 zs_X11_382 zi_X7_raise zcl_7 (hS.has (a := 60) rfl rfl) rfl rfl (Nat.le_of_ble_eq_true rfl) (Nat.le_of_ble_eq_true rfl) (Nat.le_of_ble_eq_true rfl) (Nat.le_refl _) (Nat.le_refl _) ?_
        refine ZC.mono (fun w S' I4 L4 k => ?_) k
        obtain ⟨rfl, rfl, k⟩ := k
        show ZW G mX11_raise fX11_raise lX11_raise 52 [zo G 0, .int v1, .int v2, zo G 52] [] S I4 L4 bc bs Q
        refine zr_aload_n dX11_raise_52 rfl rfl ?_
        exact zr_areturn dX11_raise_53 rfl k
set_option maxHeartbeats 2000000 in
theorem vX11_frame_0 {G : Gp} {bc bs : Nat} {Q : zPost} {S : zSh} {I : zFI} {L : zFL} {v1 : Int32} {v2 : Int32} {v3 : Int32} (hS : zStd S)  (k : ZC G mX11_isFrame fX11_isFrame lX11_isFrame [zo G 0, .int v1, .int v2] S I L 0 0 (fun w S' I1 L1 => ∃ r1 : Int32, w = some (.int r1) ∧ S = S' ∧ ((¬ r1 = 0 → ((v3 = 0 → (v1 = 0 ∨ v1 = 1) ∧ Q (some (.int (p_X3_membersOf I1 (zgid v1) v2))) S I1 L1) ∧ (v3 = 1 → (v1 = 0 ∨ v1 = 1) ∧ Q (some (.int (p_X3_pairsOf I1 (zgid v1) v2))) S I1 L1) ∧ (v3 = 2 → ZC G mX11_raise fX11_raise lX11_raise [zo G 0, .int v1, .int v2] S I1 L1 0 0 (fun w S' I2 L2 => ∃ r2 : Nat, zFm r2 ∧ w = some (zo G r2) ∧ S = S' ∧ Q (some (.int (p_X3_mostOf I2 r2 v2))) S I2 L2)) ∧ (v3 = 3 → ZC G mX11_raise fX11_raise lX11_raise [zo G 0, .int v1, .int v2] S I1 L1 0 0 (fun w S' I3 L3 => ∃ r3 : Nat, zFm r3 ∧ w = some (zo G r3) ∧ S = S' ∧ (((lg_cmp (p_X3_ordersOf L3 r3 v2) (0 : Int64)) ≤ 0 → Q (some (.int (0 : Int32))) S I3 L3) ∧ (¬ (lg_cmp (p_X3_ordersOf L3 r3 v2) (0 : Int64)) ≤ 0 → Q (some (.int (1 : Int32))) S I3 L3)))) ∧ (¬ v3 = 0 → ¬ v3 = 1 → ¬ v3 = 2 → ¬ v3 = 3 → Q (some (.int (-1 : Int32))) S I1 L1))) ∧ (r1 = 0 → Q (some (.int (-1 : Int32))) S I1 L1)))) : ZW G mX11_frame fX11_frame lX11_frame 0 [zo G 0, .int v1, .int v2, .int v3] [] S I L bc bs Q := by
  refine zr_aload_n dX11_frame_0 rfl rfl ?_
  refine zr_iload_n dX11_frame_1 rfl rfl ?_
  refine zr_iload_n dX11_frame_2 rfl rfl ?_
  refine zr_callV (As := [.int v1, .int v2]) (fr' := fX11_isFrame) (lo' := lX11_isFrame) (bc' := 0) (bs' := 0) (bcr := bc) (bsr := bs) dX11_frame_3 zs_X11_260 zi_X11_isFrame zcl_11 (hS.has (a := 0) rfl rfl) rfl rfl (Nat.le_of_ble_eq_true rfl) (Nat.le_of_ble_eq_true rfl) (Nat.le_of_ble_eq_true rfl) (Nat.le_refl _) (Nat.le_refl _) ?_
  refine ZC.mono (fun w S' I1 L1 k => ?_) k
  obtain ⟨r1, rfl, rfl, k⟩ := k
  show ZW G mX11_frame fX11_frame lX11_frame 6 [zo G 0, .int v1, .int v2, .int v3] [.int r1] S I1 L1 bc bs Q
  refine zr_ifne (tgt := 11) dX11_frame_6 (by decide) (fun hb => ?_) (fun hb => ?_)
  · have k := k.1 hb
    refine zr_iload_n dX11_frame_11 rfl rfl ?_
    by_cases h0 : v3 = 0
    · have k := k.1 h0
      refine zr_tabIn (off := 32) (tgt := 44) dX11_frame_12 (by rw [h0]; decide) (by rw [h0]; decide) (by rw [h0]; rfl) (by decide) ?_
      refine zr_aload_n dX11_frame_44 rfl rfl ?_
      refine zr_getR dX11_frame_45 zf_X11_54 rfl (hS.has (a := 0) rfl rfl) (hS.ref (a := 43) rfl) ?_
      refine zr_iload_n dX11_frame_48 rfl rfl ?_
      obtain ⟨hx, k⟩ := k
      refine zr_aald dX11_frame_49 (hS.has (a := 43) rfl rfl) (by decide) (zin2 hx) (zgid_ref hS hx) ?_
      refine zr_iload_n dX11_frame_50 rfl rfl ?_
      refine zr_callV (As := [.int v2]) (fr' := fX3_membersOf) (lo' := lX3_membersOf) (bc' := 0) (bs' := 0) (bcr := bc) (bsr := bs) dX11_frame_51 zs_X11_264 zi_X3_membersOf zcl_3 (hS.hasF (zgid_or v1) 0 rfl rfl rfl) rfl rfl (Nat.le_of_ble_eq_true rfl) (Nat.le_of_ble_eq_true rfl) (Nat.le_of_ble_eq_true rfl) (Nat.le_refl _) (Nat.le_refl _) ?_
      refine sp_X3_membersOf hS (zgid_or v1) ?_
      show ZW G mX11_frame fX11_frame lX11_frame 54 [zo G 0, .int v1, .int v2, .int v3] [.int (p_X3_membersOf I1 (zgid v1) v2)] S I1 L1 bc bs Q
      exact zr_ireturn dX11_frame_54 rfl rfl k
    · by_cases h1 : v3 = 1
      · have k := k.2.1 h1
        refine zr_tabIn (off := 43) (tgt := 55) dX11_frame_12 (by rw [h1]; decide) (by rw [h1]; decide) (by rw [h1]; rfl) (by decide) ?_
        refine zr_aload_n dX11_frame_55 rfl rfl ?_
        refine zr_getR dX11_frame_56 zf_X11_54 rfl (hS.has (a := 0) rfl rfl) (hS.ref (a := 43) rfl) ?_
        refine zr_iload_n dX11_frame_59 rfl rfl ?_
        obtain ⟨hx, k⟩ := k
        refine zr_aald dX11_frame_60 (hS.has (a := 43) rfl rfl) (by decide) (zin2 hx) (zgid_ref hS hx) ?_
        refine zr_iload_n dX11_frame_61 rfl rfl ?_
        refine zr_callV (As := [.int v2]) (fr' := fX3_pairsOf) (lo' := lX3_pairsOf) (bc' := 0) (bs' := 0) (bcr := bc) (bsr := bs) dX11_frame_62 zs_X11_267 zi_X3_pairsOf zcl_3 (hS.hasF (zgid_or v1) 0 rfl rfl rfl) rfl rfl (Nat.le_of_ble_eq_true rfl) (Nat.le_of_ble_eq_true rfl) (Nat.le_of_ble_eq_true rfl) (Nat.le_refl _) (Nat.le_refl _) ?_
        refine sp_X3_pairsOf hS (zgid_or v1) ?_
        show ZW G mX11_frame fX11_frame lX11_frame 65 [zo G 0, .int v1, .int v2, .int v3] [.int (p_X3_pairsOf I1 (zgid v1) v2)] S I1 L1 bc bs Q
        exact zr_ireturn dX11_frame_65 rfl rfl k
      · by_cases h2 : v3 = 2
        · have k := k.2.2.1 h2
          refine zr_tabIn (off := 54) (tgt := 66) dX11_frame_12 (by rw [h2]; decide) (by rw [h2]; decide) (by rw [h2]; rfl) (by decide) ?_
          refine zr_aload_n dX11_frame_66 rfl rfl ?_
          refine zr_iload_n dX11_frame_67 rfl rfl ?_
          refine zr_iload_n dX11_frame_68 rfl rfl ?_
          refine zr_callV (As := [.int v1, .int v2]) (fr' := fX11_raise) (lo' := lX11_raise) (bc' := 0) (bs' := 0) (bcr := bc) (bsr := bs) dX11_frame_69 zs_X11_270 zi_X11_raise zcl_11 (hS.has (a := 0) rfl rfl) rfl rfl (Nat.le_of_ble_eq_true rfl) (Nat.le_of_ble_eq_true rfl) (Nat.le_of_ble_eq_true rfl) (Nat.le_refl _) (Nat.le_refl _) ?_
          refine ZC.mono (fun w S' I2 L2 k => ?_) k
          obtain ⟨r2, hr2, rfl, rfl, k⟩ := k
          show ZW G mX11_frame fX11_frame lX11_frame 72 [zo G 0, .int v1, .int v2, .int v3] [zo G r2] S I2 L2 bc bs Q
          refine zr_iload_n dX11_frame_72 rfl rfl ?_
          refine zr_callV (As := [.int v2]) (fr' := fX3_mostOf) (lo' := lX3_mostOf) (bc' := 0) (bs' := 0) (bcr := bc) (bsr := bs) dX11_frame_73 zs_X11_274 zi_X3_mostOf zcl_3 (hS.hasF hr2 0 rfl rfl rfl) rfl rfl (Nat.le_of_ble_eq_true rfl) (Nat.le_of_ble_eq_true rfl) (Nat.le_of_ble_eq_true rfl) (Nat.le_refl _) (Nat.le_refl _) ?_
          refine sp_X3_mostOf hS hr2 ?_
          show ZW G mX11_frame fX11_frame lX11_frame 76 [zo G 0, .int v1, .int v2, .int v3] [.int (p_X3_mostOf I2 r2 v2)] S I2 L2 bc bs Q
          exact zr_ireturn dX11_frame_76 rfl rfl k
        · by_cases h3 : v3 = 3
          · have k := k.2.2.2.1 h3
            refine zr_tabIn (off := 65) (tgt := 77) dX11_frame_12 (by rw [h3]; decide) (by rw [h3]; decide) (by rw [h3]; rfl) (by decide) ?_
            refine zr_aload_n dX11_frame_77 rfl rfl ?_
            refine zr_iload_n dX11_frame_78 rfl rfl ?_
            refine zr_iload_n dX11_frame_79 rfl rfl ?_
            refine zr_callV (As := [.int v1, .int v2]) (fr' := fX11_raise) (lo' := lX11_raise) (bc' := 0) (bs' := 0) (bcr := bc) (bsr := bs) dX11_frame_80 zs_X11_270 zi_X11_raise zcl_11 (hS.has (a := 0) rfl rfl) rfl rfl (Nat.le_of_ble_eq_true rfl) (Nat.le_of_ble_eq_true rfl) (Nat.le_of_ble_eq_true rfl) (Nat.le_refl _) (Nat.le_refl _) ?_
            refine ZC.mono (fun w S' I3 L3 k => ?_) k
            obtain ⟨r3, hr3, rfl, rfl, k⟩ := k
            show ZW G mX11_frame fX11_frame lX11_frame 83 [zo G 0, .int v1, .int v2, .int v3] [zo G r3] S I3 L3 bc bs Q
            refine zr_iload_n dX11_frame_83 rfl rfl ?_
            refine zr_callV (As := [.int v2]) (fr' := fX3_ordersOf) (lo' := lX3_ordersOf) (bc' := 0) (bs' := 0) (bcr := bc) (bsr := bs) dX11_frame_84 zs_X11_277 zi_X3_ordersOf zcl_3 (hS.hasF hr3 0 rfl rfl rfl) rfl rfl (Nat.le_of_ble_eq_true rfl) (Nat.le_of_ble_eq_true rfl) (Nat.le_of_ble_eq_true rfl) (Nat.le_refl _) (Nat.le_refl _) ?_
            refine sp_X3_ordersOf hS hr3 ?_
            show ZW G mX11_frame fX11_frame lX11_frame 87 [zo G 0, .int v1, .int v2, .int v3] [.long (p_X3_ordersOf L3 r3 v2)] S I3 L3 bc bs Q
            refine zr_lconst (v := 0) dX11_frame_87 (by decide) ?_
            refine zr_lcmp dX11_frame_88 ?_
            refine zr_ifle (tgt := 96) dX11_frame_89 (by decide) (fun hb => ?_) (fun hb => ?_)
            · have k := k.1 hb
              refine zr_iconst (v := 0) dX11_frame_96 (by decide) ?_
              exact zr_ireturn dX11_frame_97 rfl rfl k
            · have k := k.2 hb
              refine zr_iconst (v := 1) dX11_frame_92 (by decide) ?_
              refine zr_goto (tgt := 97) dX11_frame_93 (by decide) ?_
              exact zr_ireturn dX11_frame_97 rfl rfl k
          · have k := k.2.2.2.2 h0 h1 h2 h3
            refine zr_tabOut (tgt := 98) dX11_frame_12 ?_ (by decide) ?_
            · have e0 := ztab_ne h0; have e1 := ztab_ne h1; have e2 := ztab_ne h2; have e3 := ztab_ne h3; simp only [ztabv_0, ztabv_1, ztabv_2, ztabv_3] at e0 e1 e2 e3; omega
            refine zr_iconst (v := -1) dX11_frame_98 (by decide) ?_
            exact zr_ireturn dX11_frame_99 rfl rfl k
  · have k := k.2 hb
    refine zr_iconst (v := -1) dX11_frame_9 (by decide) ?_
    exact zr_ireturn dX11_frame_10 rfl rfl k
set_option maxHeartbeats 2000000 in
theorem vX11_orders_0 {G : Gp} {bc bs : Nat} {Q : zPost} {S : zSh} {I : zFI} {L : zFL} {v1 : Int32} {v2 : Int32} (hS : zStd S)  (k : ZC G mX11_isFrame fX11_isFrame lX11_isFrame [zo G 0, .int v1, .int v2] S I L 0 0 (fun w S' I1 L1 => ∃ r1 : Int32, w = some (.int r1) ∧ S = S' ∧ ((r1 = 0 → Q (some (.long (-1 : Int64))) S I1 L1) ∧ (¬ r1 = 0 → ZC G mX11_raise fX11_raise lX11_raise [zo G 0, .int v1, .int v2] S I1 L1 0 0 (fun w S' I2 L2 => ∃ r2 : Nat, zFm r2 ∧ w = some (zo G r2) ∧ S = S' ∧ Q (some (.long (p_X3_ordersOf L2 r2 v2))) S I2 L2))))) : ZW G mX11_orders fX11_orders lX11_orders 0 [zo G 0, .int v1, .int v2] [] S I L bc bs Q := by
  refine zr_aload_n dX11_orders_0 rfl rfl ?_
  refine zr_iload_n dX11_orders_1 rfl rfl ?_
  refine zr_iload_n dX11_orders_2 rfl rfl ?_
  refine zr_callV (As := [.int v1, .int v2]) (fr' := fX11_isFrame) (lo' := lX11_isFrame) (bc' := 0) (bs' := 0) (bcr := bc) (bsr := bs) dX11_orders_3 zs_X11_260 zi_X11_isFrame zcl_11 (hS.has (a := 0) rfl rfl) rfl rfl (Nat.le_of_ble_eq_true rfl) (Nat.le_of_ble_eq_true rfl) (Nat.le_of_ble_eq_true rfl) (Nat.le_refl _) (Nat.le_refl _) ?_
  refine ZC.mono (fun w S' I1 L1 k => ?_) k
  obtain ⟨r1, rfl, rfl, k⟩ := k
  show ZW G mX11_orders fX11_orders lX11_orders 6 [zo G 0, .int v1, .int v2] [.int r1] S I1 L1 bc bs Q
  refine zr_ifeq (tgt := 22) dX11_orders_6 (by decide) (fun hb => ?_) (fun hb => ?_)
  · have k := k.1 hb
    refine zr_ldc2_w dX11_orders_22 zk_X11_229 ?_
    exact zr_lreturn dX11_orders_25 rfl k
  · have k := k.2 hb
    refine zr_aload_n dX11_orders_9 rfl rfl ?_
    refine zr_iload_n dX11_orders_10 rfl rfl ?_
    refine zr_iload_n dX11_orders_11 rfl rfl ?_
    refine zr_callV (As := [.int v1, .int v2]) (fr' := fX11_raise) (lo' := lX11_raise) (bc' := 0) (bs' := 0) (bcr := bc) (bsr := bs) dX11_orders_12 zs_X11_270 zi_X11_raise zcl_11 (hS.has (a := 0) rfl rfl) rfl rfl (Nat.le_of_ble_eq_true rfl) (Nat.le_of_ble_eq_true rfl) (Nat.le_of_ble_eq_true rfl) (Nat.le_refl _) (Nat.le_refl _) ?_
    refine ZC.mono (fun w S' I2 L2 k => ?_) k
    obtain ⟨r2, hr2, rfl, rfl, k⟩ := k
    show ZW G mX11_orders fX11_orders lX11_orders 15 [zo G 0, .int v1, .int v2] [zo G r2] S I2 L2 bc bs Q
    refine zr_iload_n dX11_orders_15 rfl rfl ?_
    refine zr_callV (As := [.int v2]) (fr' := fX3_ordersOf) (lo' := lX3_ordersOf) (bc' := 0) (bs' := 0) (bcr := bc) (bsr := bs) dX11_orders_16 zs_X11_277 zi_X3_ordersOf zcl_3 (hS.hasF hr2 0 rfl rfl rfl) rfl rfl (Nat.le_of_ble_eq_true rfl) (Nat.le_of_ble_eq_true rfl) (Nat.le_of_ble_eq_true rfl) (Nat.le_refl _) (Nat.le_refl _) ?_
    refine sp_X3_ordersOf hS hr2 ?_
    show ZW G mX11_orders fX11_orders lX11_orders 19 [zo G 0, .int v1, .int v2] [.long (p_X3_ordersOf L2 r2 v2)] S I2 L2 bc bs Q
    refine zr_goto (tgt := 25) dX11_orders_19 (by decide) ?_
    exact zr_lreturn dX11_orders_25 rfl k
set_option maxHeartbeats 2000000 in
theorem vX11_raised_0 {G : Gp} {bc bs : Nat} {Q : zPost} {S : zSh} {I : zFI} {L : zFL} {v1 : Int32} {v2 : Int32} {v3 : Int32} (hS : zStd S)  (k : ZC G mX11_isFrame fX11_isFrame lX11_isFrame [zo G 0, .int v1, .int v2] S I L 0 0 (fun w S' I1 L1 => ∃ r1 : Int32, w = some (.int r1) ∧ S = S' ∧ ((r1 = 0 → Q (some (.int (-1 : Int32))) S I1 L1) ∧ (¬ r1 = 0 → ZC G mX11_raise fX11_raise lX11_raise [zo G 0, .int v1, .int v2] S I1 L1 0 0 (fun w S' I2 L2 => ∃ r2 : Nat, zFm r2 ∧ w = some (zo G r2) ∧ S = S' ∧ Q (some (.int (p_X3_stepOf I2 r2 v2 v3))) S I2 L2))))) : ZW G mX11_raised fX11_raised lX11_raised 0 [zo G 0, .int v1, .int v2, .int v3] [] S I L bc bs Q := by
  refine zr_aload_n dX11_raised_0 rfl rfl ?_
  refine zr_iload_n dX11_raised_1 rfl rfl ?_
  refine zr_iload_n dX11_raised_2 rfl rfl ?_
  refine zr_callV (As := [.int v1, .int v2]) (fr' := fX11_isFrame) (lo' := lX11_isFrame) (bc' := 0) (bs' := 0) (bcr := bc) (bsr := bs) dX11_raised_3 zs_X11_260 zi_X11_isFrame zcl_11 (hS.has (a := 0) rfl rfl) rfl rfl (Nat.le_of_ble_eq_true rfl) (Nat.le_of_ble_eq_true rfl) (Nat.le_of_ble_eq_true rfl) (Nat.le_refl _) (Nat.le_refl _) ?_
  refine ZC.mono (fun w S' I1 L1 k => ?_) k
  obtain ⟨r1, rfl, rfl, k⟩ := k
  show ZW G mX11_raised fX11_raised lX11_raised 6 [zo G 0, .int v1, .int v2, .int v3] [.int r1] S I1 L1 bc bs Q
  refine zr_ifeq (tgt := 23) dX11_raised_6 (by decide) (fun hb => ?_) (fun hb => ?_)
  · have k := k.1 hb
    refine zr_iconst (v := -1) dX11_raised_23 (by decide) ?_
    exact zr_ireturn dX11_raised_24 rfl rfl k
  · have k := k.2 hb
    refine zr_aload_n dX11_raised_9 rfl rfl ?_
    refine zr_iload_n dX11_raised_10 rfl rfl ?_
    refine zr_iload_n dX11_raised_11 rfl rfl ?_
    refine zr_callV (As := [.int v1, .int v2]) (fr' := fX11_raise) (lo' := lX11_raise) (bc' := 0) (bs' := 0) (bcr := bc) (bsr := bs) dX11_raised_12 zs_X11_270 zi_X11_raise zcl_11 (hS.has (a := 0) rfl rfl) rfl rfl (Nat.le_of_ble_eq_true rfl) (Nat.le_of_ble_eq_true rfl) (Nat.le_of_ble_eq_true rfl) (Nat.le_refl _) (Nat.le_refl _) ?_
    refine ZC.mono (fun w S' I2 L2 k => ?_) k
    obtain ⟨r2, hr2, rfl, rfl, k⟩ := k
    show ZW G mX11_raised fX11_raised lX11_raised 15 [zo G 0, .int v1, .int v2, .int v3] [zo G r2] S I2 L2 bc bs Q
    refine zr_iload_n dX11_raised_15 rfl rfl ?_
    refine zr_iload_n dX11_raised_16 rfl rfl ?_
    refine zr_callV (As := [.int v2, .int v3]) (fr' := fX3_stepOf) (lo' := lX3_stepOf) (bc' := 0) (bs' := 0) (bcr := bc) (bsr := bs) dX11_raised_17 zs_X11_281 zi_X3_stepOf zcl_3 (hS.hasF hr2 0 rfl rfl rfl) rfl rfl (Nat.le_of_ble_eq_true rfl) (Nat.le_of_ble_eq_true rfl) (Nat.le_of_ble_eq_true rfl) (Nat.le_refl _) (Nat.le_refl _) ?_
    refine sp_X3_stepOf hS hr2 ?_
    show ZW G mX11_raised fX11_raised lX11_raised 20 [zo G 0, .int v1, .int v2, .int v3] [.int (p_X3_stepOf I2 r2 v2 v3)] S I2 L2 bc bs Q
    refine zr_goto (tgt := 24) dX11_raised_20 (by decide) ?_
    exact zr_ireturn dX11_raised_24 rfl rfl k
set_option maxHeartbeats 2000000 in
theorem vX11_master_0 {G : Gp} {bc bs : Nat} {Q : zPost} {S : zSh} {I : zFI} {L : zFL} {v1 : Int32} {v2 : Int32} (hS : zStd S)  (k : ZC G mX8_tellMaster fX8_tellMaster lX8_tellMaster [zo G 67, .int v1, .int v2] S I L 0 0 (fun w S' I1 L1 => ∃ r1 : Int32, w = some (.int r1) ∧ S = S' ∧ narrow .boolean (.int r1) = .int r1 ∧ Q (some (.int r1)) S I1 L1)) : ZW G mX11_master fX11_master lX11_master 0 [zo G 0, .int v1, .int v2] [] S I L bc bs Q := by
  refine zr_aload_n dX11_master_0 rfl rfl ?_
  refine zr_getR dX11_master_1 zf_X11_68 rfl (hS.has (a := 0) rfl rfl) (hS.ref (a := 67) rfl) ?_
  refine zr_iload_n dX11_master_4 rfl rfl ?_
  refine zr_iload_n dX11_master_5 rfl rfl ?_
  refine zr_callV (As := [.int v1, .int v2]) (fr' := fX8_tellMaster) (lo' := lX8_tellMaster) (bc' := 0) (bs' := 0) (bcr := bc) (bsr := bs) dX11_master_6 zs_X11_284 zi_X8_tellMaster zcl_8 (hS.has (a := 67) rfl rfl) rfl rfl (Nat.le_of_ble_eq_true rfl) (Nat.le_of_ble_eq_true rfl) (Nat.le_of_ble_eq_true rfl) (Nat.le_refl _) (Nat.le_refl _) ?_
  refine ZC.mono (fun w S' I1 L1 k => ?_) k
  obtain ⟨r1, rfl, rfl, k⟩ := k
  show ZW G mX11_master fX11_master lX11_master 9 [zo G 0, .int v1, .int v2] [.int r1] S I1 L1 bc bs Q
  exact zr_ireturn dX11_master_9 rfl k.1 k.2
set_option maxHeartbeats 2000000 in
theorem vX11_ring_0 {G : Gp} {bc bs : Nat} {Q : zPost} {S : zSh} {I : zFI} {L : zFL} {v1 : Int32} {v2 : Int32} (hS : zStd S)  (k : (((p_X10_hasTimber I v1) = 0 → Q (some (.int (-1 : Int32))) S I L) ∧ (¬ (p_X10_hasTimber I v1) = 0 → ZC G mX8_addRing fX8_addRing lX8_addRing [zo G 67, .int v1, .int v2, .int (I 0 14)] S I L 0 0 (fun w S' I1 L1 => ∃ r1 : Int32, w = some (.int r1) ∧ S = S' ∧ Q (some (.int r1)) S I1 L1)))) : ZW G mX11_ring fX11_ring lX11_ring 0 [zo G 0, .int v1, .int v2] [] S I L bc bs Q := by
  refine zr_aload_n dX11_ring_0 rfl rfl ?_
  refine zr_getR dX11_ring_1 zf_X11_33 rfl (hS.has (a := 0) rfl rfl) (hS.ref (a := 10) rfl) ?_
  refine zr_iload_n dX11_ring_4 rfl rfl ?_
  refine zr_callV (As := [.int v1]) (fr' := fX10_hasTimber) (lo' := lX10_hasTimber) (bc' := 0) (bs' := 0) (bcr := bc) (bsr := bs) dX11_ring_5 zs_X11_287 zi_X10_hasTimber zcl_10 (hS.has (a := 10) rfl rfl) rfl rfl (Nat.le_of_ble_eq_true rfl) (Nat.le_of_ble_eq_true rfl) (Nat.le_of_ble_eq_true rfl) (Nat.le_refl _) (Nat.le_refl _) ?_
  refine sp_X10_hasTimber hS  ?_
  show ZW G mX11_ring fX11_ring lX11_ring 8 [zo G 0, .int v1, .int v2] [.int (p_X10_hasTimber I v1)] S I L bc bs Q
  refine zr_ifeq (tgt := 27) dX11_ring_8 (by decide) (fun hb => ?_) (fun hb => ?_)
  · have k := k.1 hb
    refine zr_iconst (v := -1) dX11_ring_27 (by decide) ?_
    exact zr_ireturn dX11_ring_28 rfl rfl k
  · have k := k.2 hb
    refine zr_aload_n dX11_ring_11 rfl rfl ?_
    refine zr_getR dX11_ring_12 zf_X11_68 rfl (hS.has (a := 0) rfl rfl) (hS.ref (a := 67) rfl) ?_
    refine zr_iload_n dX11_ring_15 rfl rfl ?_
    refine zr_iload_n dX11_ring_16 rfl rfl ?_
    refine zr_aload_n dX11_ring_17 rfl rfl ?_
    refine zr_getIv (x := (I 0 14)) dX11_ring_18 zf_X11_98 rfl (hS.has (a := 0) rfl rfl) rfl ?_
    refine zr_callV (As := [.int v1, .int v2, .int (I 0 14)]) (fr' := fX8_addRing) (lo' := lX8_addRing) (bc' := 0) (bs' := 0) (bcr := bc) (bsr := bs) dX11_ring_21 zs_X11_290 zi_X8_addRing zcl_8 (hS.has (a := 67) rfl rfl) rfl rfl (Nat.le_of_ble_eq_true rfl) (Nat.le_of_ble_eq_true rfl) (Nat.le_of_ble_eq_true rfl) (Nat.le_refl _) (Nat.le_refl _) ?_
    refine ZC.mono (fun w S' I1 L1 k => ?_) k
    obtain ⟨r1, rfl, rfl, k⟩ := k
    show ZW G mX11_ring fX11_ring lX11_ring 24 [zo G 0, .int v1, .int v2] [.int r1] S I1 L1 bc bs Q
    refine zr_goto (tgt := 28) dX11_ring_24 (by decide) ?_
    exact zr_ireturn dX11_ring_28 rfl rfl k
set_option maxHeartbeats 2000000 in
theorem vX11_sap_0 {G : Gp} {bc bs : Nat} {Q : zPost} {S : zSh} {I : zFI} {L : zFL} {v1 : Int32} {v2 : Int32} {v3 : Int32} (hS : zStd S)  (k : (((p_X10_hasTimber I v1) = 0 → Q (some (.int (0 : Int32))) S I L) ∧ (¬ (p_X10_hasTimber I v1) = 0 → ZC G mX8_tellSap fX8_tellSap lX8_tellSap [zo G 67, .int v1, .int v2, .int v3] S I L 0 0 (fun w S' I1 L1 => ∃ r1 : Int32, w = some (.int r1) ∧ S = S' ∧ ((r1 = 0 → Q (some (.int (0 : Int32))) S I1 L1) ∧ (¬ r1 = 0 → Q (some (.int (1 : Int32))) S I1 L1)))))) : ZW G mX11_sap fX11_sap lX11_sap 0 [zo G 0, .int v1, .int v2, .int v3] [] S I L bc bs Q := by
  refine zr_aload_n dX11_sap_0 rfl rfl ?_
  refine zr_getR dX11_sap_1 zf_X11_33 rfl (hS.has (a := 0) rfl rfl) (hS.ref (a := 10) rfl) ?_
  refine zr_iload_n dX11_sap_4 rfl rfl ?_
  refine zr_callV (As := [.int v1]) (fr' := fX10_hasTimber) (lo' := lX10_hasTimber) (bc' := 0) (bs' := 0) (bcr := bc) (bsr := bs) dX11_sap_5 zs_X11_287 zi_X10_hasTimber zcl_10 (hS.has (a := 10) rfl rfl) rfl rfl (Nat.le_of_ble_eq_true rfl) (Nat.le_of_ble_eq_true rfl) (Nat.le_of_ble_eq_true rfl) (Nat.le_refl _) (Nat.le_refl _) ?_
  refine sp_X10_hasTimber hS  ?_
  show ZW G mX11_sap fX11_sap lX11_sap 8 [zo G 0, .int v1, .int v2, .int v3] [.int (p_X10_hasTimber I v1)] S I L bc bs Q
  refine zr_ifeq (tgt := 28) dX11_sap_8 (by decide) (fun hb => ?_) (fun hb => ?_)
  · have k := k.1 hb
    refine zr_iconst (v := 0) dX11_sap_28 (by decide) ?_
    exact zr_ireturn dX11_sap_29 rfl rfl k
  · have k := k.2 hb
    refine zr_aload_n dX11_sap_11 rfl rfl ?_
    refine zr_getR dX11_sap_12 zf_X11_68 rfl (hS.has (a := 0) rfl rfl) (hS.ref (a := 67) rfl) ?_
    refine zr_iload_n dX11_sap_15 rfl rfl ?_
    refine zr_iload_n dX11_sap_16 rfl rfl ?_
    refine zr_iload_n dX11_sap_17 rfl rfl ?_
    refine zr_callV (As := [.int v1, .int v2, .int v3]) (fr' := fX8_tellSap) (lo' := lX8_tellSap) (bc' := 0) (bs' := 0) (bcr := bc) (bsr := bs) dX11_sap_18 zs_X11_293 zi_X8_tellSap zcl_8 (hS.has (a := 67) rfl rfl) rfl rfl (Nat.le_of_ble_eq_true rfl) (Nat.le_of_ble_eq_true rfl) (Nat.le_of_ble_eq_true rfl) (Nat.le_refl _) (Nat.le_refl _) ?_
    refine ZC.mono (fun w S' I1 L1 k => ?_) k
    obtain ⟨r1, rfl, rfl, k⟩ := k
    show ZW G mX11_sap fX11_sap lX11_sap 21 [zo G 0, .int v1, .int v2, .int v3] [.int r1] S I1 L1 bc bs Q
    refine zr_ifeq (tgt := 28) dX11_sap_21 (by decide) (fun hb => ?_) (fun hb => ?_)
    · have k := k.1 hb
      refine zr_iconst (v := 0) dX11_sap_28 (by decide) ?_
      exact zr_ireturn dX11_sap_29 rfl rfl k
    · have k := k.2 hb
      refine zr_iconst (v := 1) dX11_sap_24 (by decide) ?_
      refine zr_goto (tgt := 29) dX11_sap_25 (by decide) ?_
      exact zr_ireturn dX11_sap_29 rfl rfl k
set_option maxHeartbeats 2000000 in
theorem vX11_date_0 {G : Gp} {bc bs : Nat} {Q : zPost} {S : zSh} {I : zFI} {L : zFL} {v1 : Int32} {v2 : Int32} {v3 : Int32} (hS : zStd S)  (k : (((p_X11_isCustom v1) = 0 → Q (some (.int (-1 : Int32))) S I L) ∧ (¬ (p_X11_isCustom v1) = 0 → ZC G mX11_isTimber fX11_isTimber lX11_isTimber [zo G 0, .int v2] S I L 0 0 (fun w S' I1 L1 => ∃ r1 : Int32, w = some (.int r1) ∧ S = S' ∧ ((¬ r1 = 0 → (v1 = 0 ∨ v1 = 1) ∧ ZC G mX8_dateBy fX8_dateBy lX8_dateBy [zo G 67, zo G (zrl S v1), .int v2, .int (p_X11_lastDaySeen I1)] S I1 L1 0 0 (fun w S' I2 L2 => w = none ∧ S = S' ∧ Q (some (.int (p_X8_dated I2 v3))) S I2 L2)) ∧ (r1 = 0 → Q (some (.int (-1 : Int32))) S I1 L1)))))) : ZW G mX11_date fX11_date lX11_date 0 [zo G 0, .int v1, .int v2, .int v3] [] S I L bc bs Q := by
  refine zr_aload_n dX11_date_0 rfl rfl ?_
  refine zr_iload_n dX11_date_1 rfl rfl ?_
  refine zr_callV (As := [.int v1]) (fr' := fX11_isCustom) (lo' := lX11_isCustom) (bc' := 0) (bs' := 0) (bcr := bc) (bsr := bs) dX11_date_2 zs_X11_147 zi_X11_isCustom zcl_11 (hS.has (a := 0) rfl rfl) rfl rfl (Nat.le_of_ble_eq_true rfl) (Nat.le_of_ble_eq_true rfl) (Nat.le_of_ble_eq_true rfl) (Nat.le_refl _) (Nat.le_refl _) ?_
  refine sp_X11_isCustom hS  ?_
  show ZW G mX11_date fX11_date lX11_date 5 [zo G 0, .int v1, .int v2, .int v3] [.int (p_X11_isCustom v1)] S I L bc bs Q
  refine zr_ifeq (tgt := 16) dX11_date_5 (by decide) (fun hb => ?_) (fun hb => ?_)
  · have k := k.1 hb
    refine zr_iconst (v := -1) dX11_date_16 (by decide) ?_
    exact zr_ireturn dX11_date_17 rfl rfl k
  · have k := k.2 hb
    refine zr_aload_n dX11_date_8 rfl rfl ?_
    refine zr_iload_n dX11_date_9 rfl rfl ?_
    refine zr_callV (As := [.int v2]) (fr' := fX11_isTimber) (lo' := lX11_isTimber) (bc' := 0) (bs' := 0) (bcr := bc) (bsr := bs) dX11_date_10 zs_X11_176 zi_X11_isTimber zcl_11 (hS.has (a := 0) rfl rfl) rfl rfl (Nat.le_of_ble_eq_true rfl) (Nat.le_of_ble_eq_true rfl) (Nat.le_of_ble_eq_true rfl) (Nat.le_refl _) (Nat.le_refl _) ?_
    refine ZC.mono (fun w S' I1 L1 k => ?_) k
    obtain ⟨r1, rfl, rfl, k⟩ := k
    show ZW G mX11_date fX11_date lX11_date 13 [zo G 0, .int v1, .int v2, .int v3] [.int r1] S I1 L1 bc bs Q
    refine zr_ifne (tgt := 18) dX11_date_13 (by decide) (fun hb => ?_) (fun hb => ?_)
    · have k := k.1 hb
      refine zr_aload_n dX11_date_18 rfl rfl ?_
      refine zr_getR dX11_date_19 zf_X11_68 rfl (hS.has (a := 0) rfl rfl) (hS.ref (a := 67) rfl) ?_
      refine zr_aload_n dX11_date_22 rfl rfl ?_
      refine zr_getR dX11_date_23 zf_X11_26 rfl (hS.has (a := 0) rfl rfl) (hS.ref (a := 7) rfl) ?_
      refine zr_iload_n dX11_date_26 rfl rfl ?_
      obtain ⟨hx1, k⟩ := k
      refine zr_aald dX11_date_27 (hS.has (a := 7) rfl rfl) (by decide) (zin2 hx1) (hS.rl hx1).1 ?_
      refine zr_iload_n dX11_date_28 rfl rfl ?_
      refine zr_aload_n dX11_date_29 rfl rfl ?_
      refine zr_callV (As := []) (fr' := fX11_lastDaySeen) (lo' := lX11_lastDaySeen) (bc' := 0) (bs' := 0) (bcr := bc) (bsr := bs) dX11_date_30 zs_X11_108 zi_X11_lastDaySeen zcl_11 (hS.has (a := 0) rfl rfl) rfl rfl (Nat.le_of_ble_eq_true rfl) (Nat.le_of_ble_eq_true rfl) (Nat.le_of_ble_eq_true rfl) (Nat.le_refl _) (Nat.le_refl _) ?_
      refine sp_X11_lastDaySeen hS  ?_
      show ZW G mX11_date fX11_date lX11_date 33 [zo G 0, .int v1, .int v2, .int v3] [.int (p_X11_lastDaySeen I1), .int v2, zo G (zrl S v1), zo G 67] S I1 L1 bc bs Q
      refine zr_callV (As := [zo G (zrl S v1), .int v2, .int (p_X11_lastDaySeen I1)]) (fr' := fX8_dateBy) (lo' := lX8_dateBy) (bc' := 0) (bs' := 0) (bcr := bc) (bsr := bs) dX11_date_33 zs_X11_297 zi_X8_dateBy zcl_8 (hS.has (a := 67) rfl rfl) rfl rfl (Nat.le_of_ble_eq_true rfl) (Nat.le_of_ble_eq_true rfl) (Nat.le_of_ble_eq_true rfl) (Nat.le_refl _) (Nat.le_refl _) ?_
      refine ZC.mono (fun w S' I2 L2 k => ?_) k
      obtain ⟨rfl, rfl, k⟩ := k
      show ZW G mX11_date fX11_date lX11_date 36 [zo G 0, .int v1, .int v2, .int v3] [] S I2 L2 bc bs Q
      refine zr_aload_n dX11_date_36 rfl rfl ?_
      refine zr_getR dX11_date_37 zf_X11_68 rfl (hS.has (a := 0) rfl rfl) (hS.ref (a := 67) rfl) ?_
      refine zr_iload_n dX11_date_40 rfl rfl ?_
      refine zr_callV (As := [.int v3]) (fr' := fX8_dated) (lo' := lX8_dated) (bc' := 0) (bs' := 0) (bcr := bc) (bsr := bs) dX11_date_41 zs_X11_301 zi_X8_dated zcl_8 (hS.has (a := 67) rfl rfl) rfl rfl (Nat.le_of_ble_eq_true rfl) (Nat.le_of_ble_eq_true rfl) (Nat.le_of_ble_eq_true rfl) (Nat.le_refl _) (Nat.le_refl _) ?_
      refine sp_X8_dated hS  ?_
      show ZW G mX11_date fX11_date lX11_date 44 [zo G 0, .int v1, .int v2, .int v3] [.int (p_X8_dated I2 v3)] S I2 L2 bc bs Q
      exact zr_ireturn dX11_date_44 rfl rfl k
    · have k := k.2 hb
      refine zr_iconst (v := -1) dX11_date_16 (by decide) ?_
      exact zr_ireturn dX11_date_17 rfl rfl k
set_option maxHeartbeats 2000000 in
theorem vX11_built_0 {G : Gp} {bc bs : Nat} {Q : zPost} {S : zSh} {I : zFI} {L : zFL} {v1 : Int32} {v2 : Int32} {v3 : Int32} (hS : zStd S)  (k : ZC G mX11_isFrame fX11_isFrame lX11_isFrame [zo G 0, .int v1, .int v2] S I L 0 0 (fun w S' I1 L1 => ∃ r1 : Int32, w = some (.int r1) ∧ S = S' ∧ ((¬ r1 = 0 → ZC G mX0_begin fX0_begin lX0_begin [zo G 74] S I1 L1 0 0 (fun w S' I2 L2 => w = none ∧ S = S' ∧ ZW G mX11_built fX11_built lX11_built 21 [zo G 0, .int v1, .int v2, .int v3, .int (0 : Int32)] [] S I2 L2 bc bs Q)) ∧ (r1 = 0 → Q (some (.int (-1 : Int32))) S I1 L1)))) : ZW G mX11_built fX11_built lX11_built 0 [zo G 0, .int v1, .int v2, .int v3, .null] [] S I L bc bs Q := by
  refine zr_aload_n dX11_built_0 rfl rfl ?_
  refine zr_iload_n dX11_built_1 rfl rfl ?_
  refine zr_iload_n dX11_built_2 rfl rfl ?_
  refine zr_callV (As := [.int v1, .int v2]) (fr' := fX11_isFrame) (lo' := lX11_isFrame) (bc' := 0) (bs' := 0) (bcr := bc) (bsr := bs) dX11_built_3 zs_X11_260 zi_X11_isFrame zcl_11 (hS.has (a := 0) rfl rfl) rfl rfl (Nat.le_of_ble_eq_true rfl) (Nat.le_of_ble_eq_true rfl) (Nat.le_of_ble_eq_true rfl) (Nat.le_refl _) (Nat.le_refl _) ?_
  refine ZC.mono (fun w S' I1 L1 k => ?_) k
  obtain ⟨r1, rfl, rfl, k⟩ := k
  show ZW G mX11_built fX11_built lX11_built 6 [zo G 0, .int v1, .int v2, .int v3, .null] [.int r1] S I1 L1 bc bs Q
  refine zr_ifne (tgt := 11) dX11_built_6 (by decide) (fun hb => ?_) (fun hb => ?_)
  · have k := k.1 hb
    refine zr_aload_n dX11_built_11 rfl rfl ?_
    refine zr_getR dX11_built_12 zf_X11_75 rfl (hS.has (a := 0) rfl rfl) (hS.ref (a := 74) rfl) ?_
    refine zr_callV (As := []) (fr' := fX0_begin) (lo' := lX0_begin) (bc' := 0) (bs' := 0) (bcr := bc) (bsr := bs) dX11_built_15 zs_X11_304 zi_X0_begin zcl_0 (hS.has (a := 74) rfl rfl) rfl rfl (Nat.le_of_ble_eq_true rfl) (Nat.le_of_ble_eq_true rfl) (Nat.le_of_ble_eq_true rfl) (Nat.le_refl _) (Nat.le_refl _) ?_
    refine ZC.mono (fun w S' I2 L2 k => ?_) k
    obtain ⟨rfl, rfl, k⟩ := k
    show ZW G mX11_built fX11_built lX11_built 18 [zo G 0, .int v1, .int v2, .int v3, .null] [] S I2 L2 bc bs Q
    refine zr_iconst (v := 0) dX11_built_18 (by decide) ?_
    refine zr_istore dX11_built_19 (Nat.le_of_ble_eq_true rfl) rfl ?_
    exact k
  · have k := k.2 hb
    refine zr_iconst (v := -1) dX11_built_9 (by decide) ?_
    exact zr_ireturn dX11_built_10 rfl rfl k
set_option maxHeartbeats 2000000 in
theorem vX11_built_21 {G : Gp} {bc bs : Nat} {Q : zPost} {S : zSh} {I : zFI} {L : zFL} {v1 : Int32} {v2 : Int32} {v3 : Int32} {v4 : Int32} (hS : zStd S)  (k : (((16 : Int32) ≤ v4 → ZC G mX0_settle fX0_settle lX0_settle [zo G 74] S I L 0 0 (fun w S' I1 L1 => w = none ∧ S = S' ∧ Q (some (.int (p_X0_found I1 v3))) S I1 L1)) ∧ (¬ (16 : Int32) ≤ v4 → (v1 = 0 ∨ v1 = 1) ∧ ((¬ (((p_X3_membersOf I (zgid v1) v2) >>> (v4 &&& 31)) &&& (1 : Int32)) = (1 : Int32) → ZW G mX11_built fX11_built lX11_built 21 [zo G 0, .int v1, .int v2, .int v3, .int (v4 + 1)] [] S I L bc bs Q) ∧ ((((p_X3_membersOf I (zgid v1) v2) >>> (v4 &&& 31)) &&& (1 : Int32)) = (1 : Int32) → (v1 = 0 ∨ v1 = 1) ∧ ZC G mX8_dateBy fX8_dateBy lX8_dateBy [zo G 67, zo G (zrl S v1), .int v4, .int (p_X11_lastDaySeen I)] S I L 0 0 (fun w S' I2 L2 => w = none ∧ S = S' ∧ (narrow .boolean (.int (I2 67 8)) = .int (I2 67 8)) ∧ (((p_X8_isSure I2) = 0 → ZW G mX11_built fX11_built lX11_built 21 [zo G 0, .int v1, .int v2, .int v3, .int (v4 + 1)] [] S I2 L2 bc bs Q) ∧ (¬ (p_X8_isSure I2) = 0 → ZC G mX0_addSpan fX0_addSpan lX0_addSpan [zo G 74, .int (p_X8_dated I2 (5 : Int32)), .int (p_X8_dated I2 (6 : Int32))] S I2 L2 0 0 (fun w S' I3 L3 => w = none ∧ S = S' ∧ ZW G mX11_built fX11_built lX11_built 21 [zo G 0, .int v1, .int v2, .int v3, .int (v4 + 1)] [] S I3 L3 bc bs Q))))))))) : ZW G mX11_built fX11_built lX11_built 21 [zo G 0, .int v1, .int v2, .int v3, .int v4] [] S I L bc bs Q := by
  refine zr_iload dX11_built_21 rfl ?_
  refine zr_bipush (v := 16) dX11_built_23 (by decide) ?_
  refine zr_icge (tgt := 106) dX11_built_25 (by decide) (fun hb => ?_) (fun hb => ?_)
  · have k := k.1 hb
    refine zr_aload_n dX11_built_106 rfl rfl ?_
    refine zr_getR dX11_built_107 zf_X11_75 rfl (hS.has (a := 0) rfl rfl) (hS.ref (a := 74) rfl) ?_
    refine zr_callV (As := []) (fr' := fX0_settle) (lo' := lX0_settle) (bc' := 0) (bs' := 0) (bcr := bc) (bsr := bs) dX11_built_110 zs_X11_315 zi_X0_settle zcl_0 (hS.has (a := 74) rfl rfl) rfl rfl (Nat.le_of_ble_eq_true rfl) (Nat.le_of_ble_eq_true rfl) (Nat.le_of_ble_eq_true rfl) (Nat.le_refl _) (Nat.le_refl _) ?_
    refine ZC.mono (fun w S' I1 L1 k => ?_) k
    obtain ⟨rfl, rfl, k⟩ := k
    show ZW G mX11_built fX11_built lX11_built 113 [zo G 0, .int v1, .int v2, .int v3, .int v4] [] S I1 L1 bc bs Q
    refine zr_aload_n dX11_built_113 rfl rfl ?_
    refine zr_getR dX11_built_114 zf_X11_75 rfl (hS.has (a := 0) rfl rfl) (hS.ref (a := 74) rfl) ?_
    refine zr_iload_n dX11_built_117 rfl rfl ?_
    refine zr_callV (As := [.int v3]) (fr' := fX0_found) (lo' := lX0_found) (bc' := 0) (bs' := 0) (bcr := bc) (bsr := bs) dX11_built_118 zs_X11_318 zi_X0_found zcl_0 (hS.has (a := 74) rfl rfl) rfl rfl (Nat.le_of_ble_eq_true rfl) (Nat.le_of_ble_eq_true rfl) (Nat.le_of_ble_eq_true rfl) (Nat.le_refl _) (Nat.le_refl _) ?_
    refine sp_X0_found hS  ?_
    show ZW G mX11_built fX11_built lX11_built 121 [zo G 0, .int v1, .int v2, .int v3, .int v4] [.int (p_X0_found I1 v3)] S I1 L1 bc bs Q
    exact zr_ireturn dX11_built_121 rfl rfl k
  · have k := k.2 hb
    refine zr_aload_n dX11_built_28 rfl rfl ?_
    refine zr_getR dX11_built_29 zf_X11_54 rfl (hS.has (a := 0) rfl rfl) (hS.ref (a := 43) rfl) ?_
    refine zr_iload_n dX11_built_32 rfl rfl ?_
    obtain ⟨hx, k⟩ := k
    refine zr_aald dX11_built_33 (hS.has (a := 43) rfl rfl) (by decide) (zin2 hx) (zgid_ref hS hx) ?_
    refine zr_iload_n dX11_built_34 rfl rfl ?_
    refine zr_callV (As := [.int v2]) (fr' := fX3_membersOf) (lo' := lX3_membersOf) (bc' := 0) (bs' := 0) (bcr := bc) (bsr := bs) dX11_built_35 zs_X11_264 zi_X3_membersOf zcl_3 (hS.hasF (zgid_or v1) 0 rfl rfl rfl) rfl rfl (Nat.le_of_ble_eq_true rfl) (Nat.le_of_ble_eq_true rfl) (Nat.le_of_ble_eq_true rfl) (Nat.le_refl _) (Nat.le_refl _) ?_
    refine sp_X3_membersOf hS (zgid_or v1) ?_
    show ZW G mX11_built fX11_built lX11_built 38 [zo G 0, .int v1, .int v2, .int v3, .int v4] [.int (p_X3_membersOf I (zgid v1) v2)] S I L bc bs Q
    refine zr_iload dX11_built_38 rfl ?_
    refine zr_ishr dX11_built_40 ?_
    refine zr_iconst (v := 1) dX11_built_41 (by decide) ?_
    refine zr_iand dX11_built_42 ?_
    refine zr_iconst (v := 1) dX11_built_43 (by decide) ?_
    refine zr_icne (tgt := 100) dX11_built_44 (by decide) (fun hb => ?_) (fun hb => ?_)
    · have k := k.1 hb
      refine zr_iinc (v := (v4 + 1)) dX11_built_100 rfl rfl (Nat.le_of_ble_eq_true rfl) rfl ?_
      refine zr_goto (tgt := 21) dX11_built_103 (by decide) ?_
      exact k
    · have k := k.2 hb
      refine zr_aload_n dX11_built_47 rfl rfl ?_
      refine zr_getR dX11_built_48 zf_X11_68 rfl (hS.has (a := 0) rfl rfl) (hS.ref (a := 67) rfl) ?_
      refine zr_aload_n dX11_built_51 rfl rfl ?_
      refine zr_getR dX11_built_52 zf_X11_26 rfl (hS.has (a := 0) rfl rfl) (hS.ref (a := 7) rfl) ?_
      refine zr_iload_n dX11_built_55 rfl rfl ?_
      obtain ⟨hx1, k⟩ := k
      refine zr_aald dX11_built_56 (hS.has (a := 7) rfl rfl) (by decide) (zin2 hx1) (hS.rl hx1).1 ?_
      refine zr_iload dX11_built_57 rfl ?_
      refine zr_aload_n dX11_built_59 rfl rfl ?_
      refine zr_callV (As := []) (fr' := fX11_lastDaySeen) (lo' := lX11_lastDaySeen) (bc' := 0) (bs' := 0) (bcr := bc) (bsr := bs) dX11_built_60 zs_X11_108 zi_X11_lastDaySeen zcl_11 (hS.has (a := 0) rfl rfl) rfl rfl (Nat.le_of_ble_eq_true rfl) (Nat.le_of_ble_eq_true rfl) (Nat.le_of_ble_eq_true rfl) (Nat.le_refl _) (Nat.le_refl _) ?_
      refine sp_X11_lastDaySeen hS  ?_
      show ZW G mX11_built fX11_built lX11_built 63 [zo G 0, .int v1, .int v2, .int v3, .int v4] [.int (p_X11_lastDaySeen I), .int v4, zo G (zrl S v1), zo G 67] S I L bc bs Q
      refine zr_callV (As := [zo G (zrl S v1), .int v4, .int (p_X11_lastDaySeen I)]) (fr' := fX8_dateBy) (lo' := lX8_dateBy) (bc' := 0) (bs' := 0) (bcr := bc) (bsr := bs) dX11_built_63 zs_X11_297 zi_X8_dateBy zcl_8 (hS.has (a := 67) rfl rfl) rfl rfl (Nat.le_of_ble_eq_true rfl) (Nat.le_of_ble_eq_true rfl) (Nat.le_of_ble_eq_true rfl) (Nat.le_refl _) (Nat.le_refl _) ?_
      refine ZC.mono (fun w S' I2 L2 k => ?_) k
      obtain ⟨rfl, rfl, k⟩ := k
      show ZW G mX11_built fX11_built lX11_built 66 [zo G 0, .int v1, .int v2, .int v3, .int v4] [] S I2 L2 bc bs Q
      refine zr_aload_n dX11_built_66 rfl rfl ?_
      refine zr_getR dX11_built_67 zf_X11_68 rfl (hS.has (a := 0) rfl rfl) (hS.ref (a := 67) rfl) ?_
      refine zr_callV (As := []) (fr' := fX8_isSure) (lo' := lX8_isSure) (bc' := 0) (bs' := 0) (bcr := bc) (bsr := bs) dX11_built_70 zs_X11_307 zi_X8_isSure zcl_8 (hS.has (a := 67) rfl rfl) rfl rfl (Nat.le_of_ble_eq_true rfl) (Nat.le_of_ble_eq_true rfl) (Nat.le_of_ble_eq_true rfl) (Nat.le_refl _) (Nat.le_refl _) ?_
      obtain ⟨hq0, k⟩ := k
      refine sp_X8_isSure hS hq0 ?_
      show ZW G mX11_built fX11_built lX11_built 73 [zo G 0, .int v1, .int v2, .int v3, .int v4] [.int (p_X8_isSure I2)] S I2 L2 bc bs Q
      refine zr_ifeq (tgt := 100) dX11_built_73 (by decide) (fun hb => ?_) (fun hb => ?_)
      · have k := k.1 hb
        refine zr_iinc (v := (v4 + 1)) dX11_built_100 rfl rfl (Nat.le_of_ble_eq_true rfl) rfl ?_
        refine zr_goto (tgt := 21) dX11_built_103 (by decide) ?_
        exact k
      · have k := k.2 hb
        refine zr_aload_n dX11_built_76 rfl rfl ?_
        refine zr_getR dX11_built_77 zf_X11_75 rfl (hS.has (a := 0) rfl rfl) (hS.ref (a := 74) rfl) ?_
        refine zr_aload_n dX11_built_80 rfl rfl ?_
        refine zr_getR dX11_built_81 zf_X11_68 rfl (hS.has (a := 0) rfl rfl) (hS.ref (a := 67) rfl) ?_
        refine zr_iconst (v := 5) dX11_built_84 (by decide) ?_
        refine zr_callV (As := [.int (5 : Int32)]) (fr' := fX8_dated) (lo' := lX8_dated) (bc' := 0) (bs' := 0) (bcr := bc) (bsr := bs) dX11_built_85 zs_X11_301 zi_X8_dated zcl_8 (hS.has (a := 67) rfl rfl) rfl rfl (Nat.le_of_ble_eq_true rfl) (Nat.le_of_ble_eq_true rfl) (Nat.le_of_ble_eq_true rfl) (Nat.le_refl _) (Nat.le_refl _) ?_
        refine sp_X8_dated hS  ?_
        show ZW G mX11_built fX11_built lX11_built 88 [zo G 0, .int v1, .int v2, .int v3, .int v4] [.int (p_X8_dated I2 (5 : Int32)), zo G 74] S I2 L2 bc bs Q
        refine zr_aload_n dX11_built_88 rfl rfl ?_
        refine zr_getR dX11_built_89 zf_X11_68 rfl (hS.has (a := 0) rfl rfl) (hS.ref (a := 67) rfl) ?_
        refine zr_bipush (v := 6) dX11_built_92 (by decide) ?_
        refine zr_callV (As := [.int (6 : Int32)]) (fr' := fX8_dated) (lo' := lX8_dated) (bc' := 0) (bs' := 0) (bcr := bc) (bsr := bs) dX11_built_94 zs_X11_301 zi_X8_dated zcl_8 (hS.has (a := 67) rfl rfl) rfl rfl (Nat.le_of_ble_eq_true rfl) (Nat.le_of_ble_eq_true rfl) (Nat.le_of_ble_eq_true rfl) (Nat.le_refl _) (Nat.le_refl _) ?_
        refine sp_X8_dated hS  ?_
        show ZW G mX11_built fX11_built lX11_built 97 [zo G 0, .int v1, .int v2, .int v3, .int v4] [.int (p_X8_dated I2 (6 : Int32)), .int (p_X8_dated I2 (5 : Int32)), zo G 74] S I2 L2 bc bs Q
        refine zr_callV (As := [.int (p_X8_dated I2 (5 : Int32)), .int (p_X8_dated I2 (6 : Int32))]) (fr' := fX0_addSpan) (lo' := lX0_addSpan) (bc' := 0) (bs' := 0) (bcr := bc) (bsr := bs) dX11_built_97 zs_X11_311 zi_X0_addSpan zcl_0 (hS.has (a := 74) rfl rfl) rfl rfl (Nat.le_of_ble_eq_true rfl) (Nat.le_of_ble_eq_true rfl) (Nat.le_of_ble_eq_true rfl) (Nat.le_refl _) (Nat.le_refl _) ?_
        refine ZC.mono (fun w S' I3 L3 k => ?_) k
        obtain ⟨rfl, rfl, k⟩ := k
        show ZW G mX11_built fX11_built lX11_built 100 [zo G 0, .int v1, .int v2, .int v3, .int v4] [] S I3 L3 bc bs Q
        refine zr_iinc (v := (v4 + 1)) dX11_built_100 rfl rfl (Nat.le_of_ble_eq_true rfl) rfl ?_
        refine zr_goto (tgt := 21) dX11_built_103 (by decide) ?_
        exact k
set_option maxHeartbeats 2000000 in
theorem vX11_lean_0 {G : Gp} {bc bs : Nat} {Q : zPost} {S : zSh} {I : zFI} {L : zFL} {v1 : Int32} {v2 : Int32} {v3 : Int32} (hS : zStd S)  (k : (((p_X10_hasTimber I v1) = 0 → Q (some (.int (0 : Int32))) S I L) ∧ (¬ (p_X10_hasTimber I v1) = 0 → ZC G mX5_tell fX5_tell lX5_tell [zo G 77, .int v1, .int v2, .int v3, .int (I 0 14)] S I L 0 0 (fun w S' I1 L1 => ∃ r1 : Int32, w = some (.int r1) ∧ S = S' ∧ ((r1 = 0 → Q (some (.int (0 : Int32))) S I1 L1) ∧ (¬ r1 = 0 → Q (some (.int (1 : Int32))) S I1 L1)))))) : ZW G mX11_lean fX11_lean lX11_lean 0 [zo G 0, .int v1, .int v2, .int v3] [] S I L bc bs Q := by
  refine zr_aload_n dX11_lean_0 rfl rfl ?_
  refine zr_getR dX11_lean_1 zf_X11_33 rfl (hS.has (a := 0) rfl rfl) (hS.ref (a := 10) rfl) ?_
  refine zr_iload_n dX11_lean_4 rfl rfl ?_
  refine zr_callV (As := [.int v1]) (fr' := fX10_hasTimber) (lo' := lX10_hasTimber) (bc' := 0) (bs' := 0) (bcr := bc) (bsr := bs) dX11_lean_5 zs_X11_287 zi_X10_hasTimber zcl_10 (hS.has (a := 10) rfl rfl) rfl rfl (Nat.le_of_ble_eq_true rfl) (Nat.le_of_ble_eq_true rfl) (Nat.le_of_ble_eq_true rfl) (Nat.le_refl _) (Nat.le_refl _) ?_
  refine sp_X10_hasTimber hS  ?_
  show ZW G mX11_lean fX11_lean lX11_lean 8 [zo G 0, .int v1, .int v2, .int v3] [.int (p_X10_hasTimber I v1)] S I L bc bs Q
  refine zr_ifeq (tgt := 32) dX11_lean_8 (by decide) (fun hb => ?_) (fun hb => ?_)
  · have k := k.1 hb
    refine zr_iconst (v := 0) dX11_lean_32 (by decide) ?_
    exact zr_ireturn dX11_lean_33 rfl rfl k
  · have k := k.2 hb
    refine zr_aload_n dX11_lean_11 rfl rfl ?_
    refine zr_getR dX11_lean_12 zf_X11_82 rfl (hS.has (a := 0) rfl rfl) (hS.ref (a := 77) rfl) ?_
    refine zr_iload_n dX11_lean_15 rfl rfl ?_
    refine zr_iload_n dX11_lean_16 rfl rfl ?_
    refine zr_iload_n dX11_lean_17 rfl rfl ?_
    refine zr_aload_n dX11_lean_18 rfl rfl ?_
    refine zr_getIv (x := (I 0 14)) dX11_lean_19 zf_X11_98 rfl (hS.has (a := 0) rfl rfl) rfl ?_
    refine zr_callV (As := [.int v1, .int v2, .int v3, .int (I 0 14)]) (fr' := fX5_tell) (lo' := lX5_tell) (bc' := 0) (bs' := 0) (bcr := bc) (bsr := bs) dX11_lean_22 zs_X11_321 zi_X5_tell zcl_5 (hS.has (a := 77) rfl rfl) rfl rfl (Nat.le_of_ble_eq_true rfl) (Nat.le_of_ble_eq_true rfl) (Nat.le_of_ble_eq_true rfl) (Nat.le_refl _) (Nat.le_refl _) ?_
    refine ZC.mono (fun w S' I1 L1 k => ?_) k
    obtain ⟨r1, rfl, rfl, k⟩ := k
    show ZW G mX11_lean fX11_lean lX11_lean 25 [zo G 0, .int v1, .int v2, .int v3] [.int r1] S I1 L1 bc bs Q
    refine zr_ifeq (tgt := 32) dX11_lean_25 (by decide) (fun hb => ?_) (fun hb => ?_)
    · have k := k.1 hb
      refine zr_iconst (v := 0) dX11_lean_32 (by decide) ?_
      exact zr_ireturn dX11_lean_33 rfl rfl k
    · have k := k.2 hb
      refine zr_iconst (v := 1) dX11_lean_28 (by decide) ?_
      refine zr_goto (tgt := 33) dX11_lean_29 (by decide) ?_
      exact zr_ireturn dX11_lean_33 rfl rfl k
set_option maxHeartbeats 2000000 in
theorem vX11_leans_0 {G : Gp} {bc bs : Nat} {Q : zPost} {S : zSh} {I : zFI} {L : zFL} {v1 : Int32} {v2 : Int32} (hS : zStd S)  (k : ZC G mX11_isTimber fX11_isTimber lX11_isTimber [zo G 0, .int v1] S I L 0 0 (fun w S' I1 L1 => ∃ r1 : Int32, w = some (.int r1) ∧ S = S' ∧ ((¬ r1 = 0 → ZC G mX5_measure fX5_measure lX5_measure [zo G 77, .int v1, .int (p_X11_lastDaySeen I1)] S I1 L1 0 0 (fun w S' I2 L2 => w = none ∧ S = S' ∧ Q (some (.int (p_X5_measured I2 v2))) S I2 L2)) ∧ (r1 = 0 → Q (some (.int (-1000 : Int32))) S I1 L1)))) : ZW G mX11_leans fX11_leans lX11_leans 0 [zo G 0, .int v1, .int v2] [] S I L bc bs Q := by
  refine zr_aload_n dX11_leans_0 rfl rfl ?_
  refine zr_iload_n dX11_leans_1 rfl rfl ?_
  refine zr_callV (As := [.int v1]) (fr' := fX11_isTimber) (lo' := lX11_isTimber) (bc' := 0) (bs' := 0) (bcr := bc) (bsr := bs) dX11_leans_2 zs_X11_176 zi_X11_isTimber zcl_11 (hS.has (a := 0) rfl rfl) rfl rfl (Nat.le_of_ble_eq_true rfl) (Nat.le_of_ble_eq_true rfl) (Nat.le_of_ble_eq_true rfl) (Nat.le_refl _) (Nat.le_refl _) ?_
  refine ZC.mono (fun w S' I1 L1 k => ?_) k
  obtain ⟨r1, rfl, rfl, k⟩ := k
  show ZW G mX11_leans fX11_leans lX11_leans 5 [zo G 0, .int v1, .int v2] [.int r1] S I1 L1 bc bs Q
  refine zr_ifne (tgt := 12) dX11_leans_5 (by decide) (fun hb => ?_) (fun hb => ?_)
  · have k := k.1 hb
    refine zr_aload_n dX11_leans_12 rfl rfl ?_
    refine zr_getR dX11_leans_13 zf_X11_82 rfl (hS.has (a := 0) rfl rfl) (hS.ref (a := 77) rfl) ?_
    refine zr_iload_n dX11_leans_16 rfl rfl ?_
    refine zr_aload_n dX11_leans_17 rfl rfl ?_
    refine zr_callV (As := []) (fr' := fX11_lastDaySeen) (lo' := lX11_lastDaySeen) (bc' := 0) (bs' := 0) (bcr := bc) (bsr := bs) dX11_leans_18 zs_X11_108 zi_X11_lastDaySeen zcl_11 (hS.has (a := 0) rfl rfl) rfl rfl (Nat.le_of_ble_eq_true rfl) (Nat.le_of_ble_eq_true rfl) (Nat.le_of_ble_eq_true rfl) (Nat.le_refl _) (Nat.le_refl _) ?_
    refine sp_X11_lastDaySeen hS  ?_
    show ZW G mX11_leans fX11_leans lX11_leans 21 [zo G 0, .int v1, .int v2] [.int (p_X11_lastDaySeen I1), .int v1, zo G 77] S I1 L1 bc bs Q
    refine zr_callV (As := [.int v1, .int (p_X11_lastDaySeen I1)]) (fr' := fX5_measure) (lo' := lX5_measure) (bc' := 0) (bs' := 0) (bcr := bc) (bsr := bs) dX11_leans_21 zs_X11_324 zi_X5_measure zcl_5 (hS.has (a := 77) rfl rfl) rfl rfl (Nat.le_of_ble_eq_true rfl) (Nat.le_of_ble_eq_true rfl) (Nat.le_of_ble_eq_true rfl) (Nat.le_refl _) (Nat.le_refl _) ?_
    refine ZC.mono (fun w S' I2 L2 k => ?_) k
    obtain ⟨rfl, rfl, k⟩ := k
    show ZW G mX11_leans fX11_leans lX11_leans 24 [zo G 0, .int v1, .int v2] [] S I2 L2 bc bs Q
    refine zr_aload_n dX11_leans_24 rfl rfl ?_
    refine zr_getR dX11_leans_25 zf_X11_82 rfl (hS.has (a := 0) rfl rfl) (hS.ref (a := 77) rfl) ?_
    refine zr_iload_n dX11_leans_28 rfl rfl ?_
    refine zr_callV (As := [.int v2]) (fr' := fX5_measured) (lo' := lX5_measured) (bc' := 0) (bs' := 0) (bcr := bc) (bsr := bs) dX11_leans_29 zs_X11_327 zi_X5_measured zcl_5 (hS.has (a := 77) rfl rfl) rfl rfl (Nat.le_of_ble_eq_true rfl) (Nat.le_of_ble_eq_true rfl) (Nat.le_of_ble_eq_true rfl) (Nat.le_refl _) (Nat.le_refl _) ?_
    refine sp_X5_measured hS  ?_
    show ZW G mX11_leans fX11_leans lX11_leans 32 [zo G 0, .int v1, .int v2] [.int (p_X5_measured I2 v2)] S I2 L2 bc bs Q
    exact zr_ireturn dX11_leans_32 rfl rfl k
  · have k := k.2 hb
    refine zr_sipush (v := -1000) dX11_leans_8 (by decide) ?_
    exact zr_ireturn dX11_leans_11 rfl rfl k
set_option maxHeartbeats 2000000 in
theorem vX11_falls_0 {G : Gp} {bc bs : Nat} {Q : zPost} {S : zSh} {I : zFI} {L : zFL} {v1 : Int32} {v2 : Int32} (hS : zStd S)  (k : ZC G mX11_isTimber fX11_isTimber lX11_isTimber [zo G 0, .int v1] S I L 0 0 (fun w S' I1 L1 => ∃ r1 : Int32, w = some (.int r1) ∧ S = S' ∧ ((r1 = 0 → Q (some (.int (-1 : Int32))) S I1 L1) ∧ (¬ r1 = 0 → ((v2 < 0 → Q (some (.int (-1 : Int32))) S I1 L1) ∧ (¬ v2 < 0 → ((v2 ≤ (999 : Int32) → ZC G mX5_measure fX5_measure lX5_measure [zo G 77, .int v1, .int (p_X11_lastDaySeen I1)] S I1 L1 0 0 (fun w S' I2 L2 => w = none ∧ S = S' ∧ ZC G mX5_fallYear fX5_fallYear lX5_fallYear [zo G 77, .int v2] S I2 L2 0 0 (fun w S' I3 L3 => ∃ r3 : Int32, w = some (.int r3) ∧ S = S' ∧ Q (some (.int r3)) S I3 L3))) ∧ (¬ v2 ≤ (999 : Int32) → Q (some (.int (-1 : Int32))) S I1 L1)))))))) : ZW G mX11_falls fX11_falls lX11_falls 0 [zo G 0, .int v1, .int v2] [] S I L bc bs Q := by
  refine zr_aload_n dX11_falls_0 rfl rfl ?_
  refine zr_iload_n dX11_falls_1 rfl rfl ?_
  refine zr_callV (As := [.int v1]) (fr' := fX11_isTimber) (lo' := lX11_isTimber) (bc' := 0) (bs' := 0) (bcr := bc) (bsr := bs) dX11_falls_2 zs_X11_176 zi_X11_isTimber zcl_11 (hS.has (a := 0) rfl rfl) rfl rfl (Nat.le_of_ble_eq_true rfl) (Nat.le_of_ble_eq_true rfl) (Nat.le_of_ble_eq_true rfl) (Nat.le_refl _) (Nat.le_refl _) ?_
  refine ZC.mono (fun w S' I1 L1 k => ?_) k
  obtain ⟨r1, rfl, rfl, k⟩ := k
  show ZW G mX11_falls fX11_falls lX11_falls 5 [zo G 0, .int v1, .int v2] [.int r1] S I1 L1 bc bs Q
  refine zr_ifeq (tgt := 19) dX11_falls_5 (by decide) (fun hb => ?_) (fun hb => ?_)
  · have k := k.1 hb
    refine zr_iconst (v := -1) dX11_falls_19 (by decide) ?_
    exact zr_ireturn dX11_falls_20 rfl rfl k
  · have k := k.2 hb
    refine zr_iload_n dX11_falls_8 rfl rfl ?_
    refine zr_iflt (tgt := 19) dX11_falls_9 (by decide) (fun hb => ?_) (fun hb => ?_)
    · have k := k.1 hb
      refine zr_iconst (v := -1) dX11_falls_19 (by decide) ?_
      exact zr_ireturn dX11_falls_20 rfl rfl k
    · have k := k.2 hb
      refine zr_iload_n dX11_falls_12 rfl rfl ?_
      refine zr_sipush (v := 999) dX11_falls_13 (by decide) ?_
      refine zr_icle (tgt := 21) dX11_falls_16 (by decide) (fun hb => ?_) (fun hb => ?_)
      · have k := k.1 hb
        refine zr_aload_n dX11_falls_21 rfl rfl ?_
        refine zr_getR dX11_falls_22 zf_X11_82 rfl (hS.has (a := 0) rfl rfl) (hS.ref (a := 77) rfl) ?_
        refine zr_iload_n dX11_falls_25 rfl rfl ?_
        refine zr_aload_n dX11_falls_26 rfl rfl ?_
        refine zr_callV (As := []) (fr' := fX11_lastDaySeen) (lo' := lX11_lastDaySeen) (bc' := 0) (bs' := 0) (bcr := bc) (bsr := bs) dX11_falls_27 zs_X11_108 zi_X11_lastDaySeen zcl_11 (hS.has (a := 0) rfl rfl) rfl rfl (Nat.le_of_ble_eq_true rfl) (Nat.le_of_ble_eq_true rfl) (Nat.le_of_ble_eq_true rfl) (Nat.le_refl _) (Nat.le_refl _) ?_
        refine sp_X11_lastDaySeen hS  ?_
        show ZW G mX11_falls fX11_falls lX11_falls 30 [zo G 0, .int v1, .int v2] [.int (p_X11_lastDaySeen I1), .int v1, zo G 77] S I1 L1 bc bs Q
        refine zr_callV (As := [.int v1, .int (p_X11_lastDaySeen I1)]) (fr' := fX5_measure) (lo' := lX5_measure) (bc' := 0) (bs' := 0) (bcr := bc) (bsr := bs) dX11_falls_30 zs_X11_324 zi_X5_measure zcl_5 (hS.has (a := 77) rfl rfl) rfl rfl (Nat.le_of_ble_eq_true rfl) (Nat.le_of_ble_eq_true rfl) (Nat.le_of_ble_eq_true rfl) (Nat.le_refl _) (Nat.le_refl _) ?_
        refine ZC.mono (fun w S' I2 L2 k => ?_) k
        obtain ⟨rfl, rfl, k⟩ := k
        show ZW G mX11_falls fX11_falls lX11_falls 33 [zo G 0, .int v1, .int v2] [] S I2 L2 bc bs Q
        refine zr_aload_n dX11_falls_33 rfl rfl ?_
        refine zr_getR dX11_falls_34 zf_X11_82 rfl (hS.has (a := 0) rfl rfl) (hS.ref (a := 77) rfl) ?_
        refine zr_iload_n dX11_falls_37 rfl rfl ?_
        refine zr_callV (As := [.int v2]) (fr' := fX5_fallYear) (lo' := lX5_fallYear) (bc' := 0) (bs' := 0) (bcr := bc) (bsr := bs) dX11_falls_38 zs_X11_330 zi_X5_fallYear zcl_5 (hS.has (a := 77) rfl rfl) rfl rfl (Nat.le_of_ble_eq_true rfl) (Nat.le_of_ble_eq_true rfl) (Nat.le_of_ble_eq_true rfl) (Nat.le_refl _) (Nat.le_refl _) ?_
        refine ZC.mono (fun w S' I3 L3 k => ?_) k
        obtain ⟨r3, rfl, rfl, k⟩ := k
        show ZW G mX11_falls fX11_falls lX11_falls 41 [zo G 0, .int v1, .int v2] [.int r3] S I3 L3 bc bs Q
        exact zr_ireturn dX11_falls_41 rfl rfl k
      · have k := k.2 hb
        refine zr_iconst (v := -1) dX11_falls_19 (by decide) ?_
        exact zr_ireturn dX11_falls_20 rfl rfl k
set_option maxHeartbeats 2000000 in
theorem vX11_putByte_0 {G : Gp} {bc bs : Nat} {Q : zPost} {S : zSh} {I : zFI} {L : zFL} {v1 : Int32} (hS : zStd S)  (k : (((200 : Int32) ≤ (I 0 12) → Q none S I L) ∧ (¬ (200 : Int32) ≤ (I 0 12) → vp_in (I 0 12) 200 ∧ Q none S (u2 (u2 I 82 (I 0 12).toNatClampNeg v1) 0 12 ((I 0 12) + (1 : Int32))) L))) : ZW G mX11_putByte fX11_putByte lX11_putByte 0 [zo G 0, .int v1] [] S I L bc bs Q := by
  refine zr_aload_n dX11_putByte_0 rfl rfl ?_
  refine zr_getIv (x := (I 0 12)) dX11_putByte_1 zf_X11_90 rfl (hS.has (a := 0) rfl rfl) rfl ?_
  refine zr_sipush (v := 200) dX11_putByte_4 (by decide) ?_
  refine zr_icge (tgt := 30) dX11_putByte_7 (by decide) (fun hb => ?_) (fun hb => ?_)
  · have k := k.1 hb
    exact zr_return_ dX11_putByte_30 rfl k
  · have k := k.2 hb
    refine zr_aload_n dX11_putByte_10 rfl rfl ?_
    refine zr_getR dX11_putByte_11 zf_X11_86 rfl (hS.has (a := 0) rfl rfl) (hS.ref (a := 82) rfl) ?_
    refine zr_aload_n dX11_putByte_14 rfl rfl ?_
    refine zr_getIv (x := (I 0 12)) dX11_putByte_15 zf_X11_90 rfl (hS.has (a := 0) rfl rfl) rfl ?_
    refine zr_iload_n dX11_putByte_18 rfl rfl ?_
    obtain ⟨hi1, k⟩ := k
    refine zr_iast dX11_putByte_19 (hS.has (a := 82) rfl rfl) hi1 ?_
    refine zr_aload_n dX11_putByte_20 rfl rfl ?_
    refine zr_dup dX11_putByte_21 rfl ?_
    refine zr_getIv (x := (I 0 12)) dX11_putByte_22 zf_X11_90 rfl (hS.has (a := 0) rfl rfl) rfl ?_
    refine zr_iconst (v := 1) dX11_putByte_25 (by decide) ?_
    refine zr_iadd dX11_putByte_26 ?_
    refine zr_putI dX11_putByte_27 zf_X11_90 rfl (hS.has (a := 0) rfl rfl) rfl rfl ?_
    exact zr_return_ dX11_putByte_30 rfl k
set_option maxHeartbeats 2000000 in
theorem vX11_putNumber_0 {G : Gp} {bc bs : Nat} {Q : zPost} {S : zSh} {I : zFI} {L : zFL} {v1 : Int32} (hS : zStd S)  (k : ((v1 < (10 : Int32) → ZC G mX11_putByte fX11_putByte lX11_putByte [zo G 0, .int ((48 : Int32) + (v1 - v1 / (10 : Int32) * (10 : Int32)))] S I L 0 0 (fun w S' I1 L1 => w = none ∧ S = S' ∧ Q none S I1 L1)) ∧ (¬ v1 < (10 : Int32) → ZC G mX11_putByte fX11_putByte lX11_putByte [zo G 0, .int ((48 : Int32) + (v1 / (10 : Int32)))] S I L 0 0 (fun w S' I2 L2 => w = none ∧ S = S' ∧ ZC G mX11_putByte fX11_putByte lX11_putByte [zo G 0, .int ((48 : Int32) + (v1 - v1 / (10 : Int32) * (10 : Int32)))] S I2 L2 0 0 (fun w S' I3 L3 => w = none ∧ S = S' ∧ Q none S I3 L3))))) : ZW G mX11_putNumber fX11_putNumber lX11_putNumber 0 [zo G 0, .int v1] [] S I L bc bs Q := by
  refine zr_iload_n dX11_putNumber_0 rfl rfl ?_
  refine zr_bipush (v := 10) dX11_putNumber_1 (by decide) ?_
  refine zr_iclt (tgt := 17) dX11_putNumber_3 (by decide) (fun hb => ?_) (fun hb => ?_)
  · have k := k.1 hb
    refine zr_aload_n dX11_putNumber_17 rfl rfl ?_
    refine zr_bipush (v := 48) dX11_putNumber_18 (by decide) ?_
    refine zr_iload_n dX11_putNumber_20 rfl rfl ?_
    refine zr_bipush (v := 10) dX11_putNumber_21 (by decide) ?_
    refine zr_irem dX11_putNumber_23 (by decide) ?_
    refine zr_iadd dX11_putNumber_24 ?_
    refine zr_callV (As := [.int ((48 : Int32) + (v1 - v1 / (10 : Int32) * (10 : Int32)))]) (fr' := fX11_putByte) (lo' := lX11_putByte) (bc' := 0) (bs' := 0) (bcr := bc) (bsr := bs) dX11_putNumber_25 zs_X11_336 zi_X11_putByte zcl_11 (hS.has (a := 0) rfl rfl) rfl rfl (Nat.le_of_ble_eq_true rfl) (Nat.le_of_ble_eq_true rfl) (Nat.le_of_ble_eq_true rfl) (Nat.le_refl _) (Nat.le_refl _) ?_
    refine ZC.mono (fun w S' I1 L1 k => ?_) k
    obtain ⟨rfl, rfl, k⟩ := k
    show ZW G mX11_putNumber fX11_putNumber lX11_putNumber 28 [zo G 0, .int v1] [] S I1 L1 bc bs Q
    exact zr_return_ dX11_putNumber_28 rfl k
  · have k := k.2 hb
    refine zr_aload_n dX11_putNumber_6 rfl rfl ?_
    refine zr_bipush (v := 48) dX11_putNumber_7 (by decide) ?_
    refine zr_iload_n dX11_putNumber_9 rfl rfl ?_
    refine zr_bipush (v := 10) dX11_putNumber_10 (by decide) ?_
    refine zr_idiv dX11_putNumber_12 (by decide) ?_
    refine zr_iadd dX11_putNumber_13 ?_
    refine zr_callV (As := [.int ((48 : Int32) + (v1 / (10 : Int32)))]) (fr' := fX11_putByte) (lo' := lX11_putByte) (bc' := 0) (bs' := 0) (bcr := bc) (bsr := bs) dX11_putNumber_14 zs_X11_336 zi_X11_putByte zcl_11 (hS.has (a := 0) rfl rfl) rfl rfl (Nat.le_of_ble_eq_true rfl) (Nat.le_of_ble_eq_true rfl) (Nat.le_of_ble_eq_true rfl) (Nat.le_refl _) (Nat.le_refl _) ?_
    refine ZC.mono (fun w S' I2 L2 k => ?_) k
    obtain ⟨rfl, rfl, k⟩ := k
    show ZW G mX11_putNumber fX11_putNumber lX11_putNumber 17 [zo G 0, .int v1] [] S I2 L2 bc bs Q
    refine zr_aload_n dX11_putNumber_17 rfl rfl ?_
    refine zr_bipush (v := 48) dX11_putNumber_18 (by decide) ?_
    refine zr_iload_n dX11_putNumber_20 rfl rfl ?_
    refine zr_bipush (v := 10) dX11_putNumber_21 (by decide) ?_
    refine zr_irem dX11_putNumber_23 (by decide) ?_
    refine zr_iadd dX11_putNumber_24 ?_
    refine zr_callV (As := [.int ((48 : Int32) + (v1 - v1 / (10 : Int32) * (10 : Int32)))]) (fr' := fX11_putByte) (lo' := lX11_putByte) (bc' := 0) (bs' := 0) (bcr := bc) (bsr := bs) dX11_putNumber_25 zs_X11_336 zi_X11_putByte zcl_11 (hS.has (a := 0) rfl rfl) rfl rfl (Nat.le_of_ble_eq_true rfl) (Nat.le_of_ble_eq_true rfl) (Nat.le_of_ble_eq_true rfl) (Nat.le_refl _) (Nat.le_refl _) ?_
    refine ZC.mono (fun w S' I3 L3 k => ?_) k
    obtain ⟨rfl, rfl, k⟩ := k
    show ZW G mX11_putNumber fX11_putNumber lX11_putNumber 28 [zo G 0, .int v1] [] S I3 L3 bc bs Q
    exact zr_return_ dX11_putNumber_28 rfl k
set_option maxHeartbeats 2000000 in
theorem vX11_write_0 {G : Gp} {bc bs : Nat} {Q : zPost} {S : zSh} {I : zFI} {L : zFL} {v1 : Int32} (hS : zStd S)  (k : ((¬ (p_X11_isCustom v1) = 0 → ZC G mX11_refresh fX11_refresh lX11_refresh [zo G 0] S I L 0 0 (fun w S' I1 L1 => w = none ∧ S = S' ∧ ZW G mX11_write fX11_write lX11_write 21 [zo G 0, .int v1, .int (0 : Int32), .null] [] S (u2 I1 0 12 (0 : Int32)) L1 bc bs Q)) ∧ ((p_X11_isCustom v1) = 0 → Q (some (.int (-1 : Int32))) S I L))) : ZW G mX11_write fX11_write lX11_write 0 [zo G 0, .int v1, .null, .null] [] S I L bc bs Q := by
  refine zr_aload_n dX11_write_0 rfl rfl ?_
  refine zr_iload_n dX11_write_1 rfl rfl ?_
  refine zr_callV (As := [.int v1]) (fr' := fX11_isCustom) (lo' := lX11_isCustom) (bc' := 0) (bs' := 0) (bcr := bc) (bsr := bs) dX11_write_2 zs_X11_147 zi_X11_isCustom zcl_11 (hS.has (a := 0) rfl rfl) rfl rfl (Nat.le_of_ble_eq_true rfl) (Nat.le_of_ble_eq_true rfl) (Nat.le_of_ble_eq_true rfl) (Nat.le_refl _) (Nat.le_refl _) ?_
  refine sp_X11_isCustom hS  ?_
  show ZW G mX11_write fX11_write lX11_write 5 [zo G 0, .int v1, .null, .null] [.int (p_X11_isCustom v1)] S I L bc bs Q
  refine zr_ifne (tgt := 10) dX11_write_5 (by decide) (fun hb => ?_) (fun hb => ?_)
  · have k := k.1 hb
    refine zr_aload_n dX11_write_10 rfl rfl ?_
    refine zr_callV (As := []) (fr' := fX11_refresh) (lo' := lX11_refresh) (bc' := 0) (bs' := 0) (bcr := bc) (bsr := bs) dX11_write_11 zs_X11_238 zi_X11_refresh zcl_11 (hS.has (a := 0) rfl rfl) rfl rfl (Nat.le_of_ble_eq_true rfl) (Nat.le_of_ble_eq_true rfl) (Nat.le_of_ble_eq_true rfl) (Nat.le_refl _) (Nat.le_refl _) ?_
    refine ZC.mono (fun w S' I1 L1 k => ?_) k
    obtain ⟨rfl, rfl, k⟩ := k
    show ZW G mX11_write fX11_write lX11_write 14 [zo G 0, .int v1, .null, .null] [] S I1 L1 bc bs Q
    refine zr_aload_n dX11_write_14 rfl rfl ?_
    refine zr_iconst (v := 0) dX11_write_15 (by decide) ?_
    refine zr_putI dX11_write_16 zf_X11_90 rfl (hS.has (a := 0) rfl rfl) rfl rfl ?_
    refine zr_iconst (v := 0) dX11_write_19 (by decide) ?_
    refine zr_istore_n dX11_write_20 rfl (Nat.le_of_ble_eq_true rfl) rfl ?_
    exact k
  · have k := k.2 hb
    refine zr_iconst (v := -1) dX11_write_8 (by decide) ?_
    exact zr_ireturn dX11_write_9 rfl rfl k
set_option maxHeartbeats 2000000 in
theorem vX11_write_21 {G : Gp} {bc bs : Nat} {Q : zPost} {S : zSh} {I : zFI} {L : zFL} {v1 : Int32} {v2 : Int32} (hS : zStd S)  (k : (((48 : Int32) ≤ v2 → Q (some (.int (I 0 12))) S I L) ∧ (¬ (48 : Int32) ≤ v2 → (v1 = 0 ∨ v1 = 1) ∧ (((p_X4_partnerOf I (zjid v1) v2) = (-1 : Int32) → ZW G mX11_write fX11_write lX11_write 21 [zo G 0, .int v1, .int (v2 + 1), .null] [] S I L bc bs Q) ∧ (¬ (p_X4_partnerOf I (zjid v1) v2) = (-1 : Int32) → ((¬ (p_X10_sortOf I v2) = 0 → ZW G mX11_write fX11_write lX11_write 21 [zo G 0, .int v1, .int (v2 + 1), .null] [] S I L bc bs Q) ∧ ((p_X10_sortOf I v2) = 0 → ZC G mX11_putNumber fX11_putNumber lX11_putNumber [zo G 0, .int v2] S I L 0 0 (fun w S' I1 L1 => w = none ∧ S = S' ∧ ZC G mX11_putByte fX11_putByte lX11_putByte [zo G 0, .int (45 : Int32)] S I1 L1 0 0 (fun w S' I2 L2 => w = none ∧ S = S' ∧ ZC G mX11_putNumber fX11_putNumber lX11_putNumber [zo G 0, .int (p_X4_partnerOf I (zjid v1) v2)] S I2 L2 0 0 (fun w S' I3 L3 => w = none ∧ S = S' ∧ (v1 = 0 ∨ v1 = 1) ∧ (((p_X4_isForced L3 (zjid v1) v2) = 0 → ZC G mX11_putByte fX11_putByte lX11_putByte [zo G 0, .int (59 : Int32)] S I3 L3 0 0 (fun w S' I4 L4 => w = none ∧ S = S' ∧ ZW G mX11_write fX11_write lX11_write 21 [zo G 0, .int v1, .int (v2 + 1), .null] [] S I4 L4 bc bs Q)) ∧ (¬ (p_X4_isForced L3 (zjid v1) v2) = 0 → ZC G mX11_putByte fX11_putByte lX11_putByte [zo G 0, .int (33 : Int32)] S I3 L3 0 0 (fun w S' I5 L5 => w = none ∧ S = S' ∧ ZC G mX11_putByte fX11_putByte lX11_putByte [zo G 0, .int (59 : Int32)] S I5 L5 0 0 (fun w S' I6 L6 => w = none ∧ S = S' ∧ ZW G mX11_write fX11_write lX11_write 21 [zo G 0, .int v1, .int (v2 + 1), .null] [] S I6 L6 bc bs Q)))))))))))))) : ZW G mX11_write fX11_write lX11_write 21 [zo G 0, .int v1, .int v2, .null] [] S I L bc bs Q := by
  refine zr_iload_n dX11_write_21 rfl rfl ?_
  refine zr_bipush (v := 48) dX11_write_22 (by decide) ?_
  refine zr_icge (tgt := 101) dX11_write_24 (by decide) (fun hb => ?_) (fun hb => ?_)
  · have k := k.1 hb
    refine zr_aload_n dX11_write_101 rfl rfl ?_
    refine zr_getIv (x := (I 0 12)) dX11_write_102 zf_X11_90 rfl (hS.has (a := 0) rfl rfl) rfl ?_
    exact zr_ireturn dX11_write_105 rfl rfl k
  · have k := k.2 hb
    refine zr_aload_n dX11_write_27 rfl rfl ?_
    refine zr_getR dX11_write_28 zf_X11_47 rfl (hS.has (a := 0) rfl rfl) (hS.ref (a := 26) rfl) ?_
    refine zr_iload_n dX11_write_31 rfl rfl ?_
    obtain ⟨hx, k⟩ := k
    refine zr_aald dX11_write_32 (hS.has (a := 26) rfl rfl) (by decide) (zin2 hx) (zjid_ref hS hx) ?_
    refine zr_iload_n dX11_write_33 rfl rfl ?_
    refine zr_callV (As := [.int v2]) (fr' := fX4_partnerOf) (lo' := lX4_partnerOf) (bc' := 0) (bs' := 0) (bcr := bc) (bsr := bs) dX11_write_34 zs_X11_251 zi_X4_partnerOf zcl_4 (hS.hasJ (zjid_or v1) 0 rfl rfl rfl) rfl rfl (Nat.le_of_ble_eq_true rfl) (Nat.le_of_ble_eq_true rfl) (Nat.le_of_ble_eq_true rfl) (Nat.le_refl _) (Nat.le_refl _) ?_
    refine sp_X4_partnerOf hS (zjid_or v1) ?_
    show ZW G mX11_write fX11_write lX11_write 37 [zo G 0, .int v1, .int v2, .null] [.int (p_X4_partnerOf I (zjid v1) v2)] S I L bc bs Q
    refine zr_istore_n dX11_write_37 rfl (Nat.le_of_ble_eq_true rfl) rfl ?_
    refine zr_iload_n dX11_write_38 rfl rfl ?_
    refine zr_iconst (v := -1) dX11_write_39 (by decide) ?_
    refine zr_iceq (tgt := 95) dX11_write_40 (by decide) (fun hb => ?_) (fun hb => ?_)
    · have k := k.1 hb
      refine zr_iinc (v := (v2 + 1)) dX11_write_95 rfl rfl (Nat.le_of_ble_eq_true rfl) rfl ?_
      refine zr_goto (tgt := 21) dX11_write_98 (by decide) ?_
      exact zr_mask [true, true, true, false] rfl k
    · have k := k.2 hb
      refine zr_aload_n dX11_write_43 rfl rfl ?_
      refine zr_getR dX11_write_44 zf_X11_33 rfl (hS.has (a := 0) rfl rfl) (hS.ref (a := 10) rfl) ?_
      refine zr_iload_n dX11_write_47 rfl rfl ?_
      refine zr_callV (As := [.int v2]) (fr' := fX10_sortOf) (lo' := lX10_sortOf) (bc' := 0) (bs' := 0) (bcr := bc) (bsr := bs) dX11_write_48 zs_X11_210 zi_X10_sortOf zcl_10 (hS.has (a := 10) rfl rfl) rfl rfl (Nat.le_of_ble_eq_true rfl) (Nat.le_of_ble_eq_true rfl) (Nat.le_of_ble_eq_true rfl) (Nat.le_refl _) (Nat.le_refl _) ?_
      refine sp_X10_sortOf hS  ?_
      show ZW G mX11_write fX11_write lX11_write 51 [zo G 0, .int v1, .int v2, .int (p_X4_partnerOf I (zjid v1) v2)] [.int (p_X10_sortOf I v2)] S I L bc bs Q
      refine zr_ifne (tgt := 95) dX11_write_51 (by decide) (fun hb => ?_) (fun hb => ?_)
      · have k := k.1 hb
        refine zr_iinc (v := (v2 + 1)) dX11_write_95 rfl rfl (Nat.le_of_ble_eq_true rfl) rfl ?_
        refine zr_goto (tgt := 21) dX11_write_98 (by decide) ?_
        exact zr_mask [true, true, true, false] rfl k
      · have k := k.2 hb
        refine zr_aload_n dX11_write_54 rfl rfl ?_
        refine zr_iload_n dX11_write_55 rfl rfl ?_
        refine zr_callV (As := [.int v2]) (fr' := fX11_putNumber) (lo' := lX11_putNumber) (bc' := 0) (bs' := 0) (bcr := bc) (bsr := bs) dX11_write_56 zs_X11_333 zi_X11_putNumber zcl_11 (hS.has (a := 0) rfl rfl) rfl rfl (Nat.le_of_ble_eq_true rfl) (Nat.le_of_ble_eq_true rfl) (Nat.le_of_ble_eq_true rfl) (Nat.le_refl _) (Nat.le_refl _) ?_
        refine ZC.mono (fun w S' I1 L1 k => ?_) k
        obtain ⟨rfl, rfl, k⟩ := k
        show ZW G mX11_write fX11_write lX11_write 59 [zo G 0, .int v1, .int v2, .int (p_X4_partnerOf I (zjid v1) v2)] [] S I1 L1 bc bs Q
        refine zr_aload_n dX11_write_59 rfl rfl ?_
        refine zr_bipush (v := 45) dX11_write_60 (by decide) ?_
        refine zr_callV (As := [.int (45 : Int32)]) (fr' := fX11_putByte) (lo' := lX11_putByte) (bc' := 0) (bs' := 0) (bcr := bc) (bsr := bs) dX11_write_62 zs_X11_336 zi_X11_putByte zcl_11 (hS.has (a := 0) rfl rfl) rfl rfl (Nat.le_of_ble_eq_true rfl) (Nat.le_of_ble_eq_true rfl) (Nat.le_of_ble_eq_true rfl) (Nat.le_refl _) (Nat.le_refl _) ?_
        refine ZC.mono (fun w S' I2 L2 k => ?_) k
        obtain ⟨rfl, rfl, k⟩ := k
        show ZW G mX11_write fX11_write lX11_write 65 [zo G 0, .int v1, .int v2, .int (p_X4_partnerOf I (zjid v1) v2)] [] S I2 L2 bc bs Q
        refine zr_aload_n dX11_write_65 rfl rfl ?_
        refine zr_iload_n dX11_write_66 rfl rfl ?_
        refine zr_callV (As := [.int (p_X4_partnerOf I (zjid v1) v2)]) (fr' := fX11_putNumber) (lo' := lX11_putNumber) (bc' := 0) (bs' := 0) (bcr := bc) (bsr := bs) dX11_write_67 zs_X11_333 zi_X11_putNumber zcl_11 (hS.has (a := 0) rfl rfl) rfl rfl (Nat.le_of_ble_eq_true rfl) (Nat.le_of_ble_eq_true rfl) (Nat.le_of_ble_eq_true rfl) (Nat.le_refl _) (Nat.le_refl _) ?_
        refine ZC.mono (fun w S' I3 L3 k => ?_) k
        obtain ⟨rfl, rfl, k⟩ := k
        show ZW G mX11_write fX11_write lX11_write 70 [zo G 0, .int v1, .int v2, .int (p_X4_partnerOf I (zjid v1) v2)] [] S I3 L3 bc bs Q
        refine zr_aload_n dX11_write_70 rfl rfl ?_
        refine zr_getR dX11_write_71 zf_X11_47 rfl (hS.has (a := 0) rfl rfl) (hS.ref (a := 26) rfl) ?_
        refine zr_iload_n dX11_write_74 rfl rfl ?_
        obtain ⟨hx, k⟩ := k
        refine zr_aald dX11_write_75 (hS.has (a := 26) rfl rfl) (by decide) (zin2 hx) (zjid_ref hS hx) ?_
        refine zr_iload_n dX11_write_76 rfl rfl ?_
        refine zr_callV (As := [.int v2]) (fr' := fX4_isForced) (lo' := lX4_isForced) (bc' := 0) (bs' := 0) (bcr := bc) (bsr := bs) dX11_write_77 zs_X11_254 zi_X4_isForced zcl_4 (hS.hasJ (zjid_or v1) 0 rfl rfl rfl) rfl rfl (Nat.le_of_ble_eq_true rfl) (Nat.le_of_ble_eq_true rfl) (Nat.le_of_ble_eq_true rfl) (Nat.le_refl _) (Nat.le_refl _) ?_
        refine sp_X4_isForced hS (zjid_or v1) ?_
        show ZW G mX11_write fX11_write lX11_write 80 [zo G 0, .int v1, .int v2, .int (p_X4_partnerOf I (zjid v1) v2)] [.int (p_X4_isForced L3 (zjid v1) v2)] S I3 L3 bc bs Q
        refine zr_ifeq (tgt := 89) dX11_write_80 (by decide) (fun hb => ?_) (fun hb => ?_)
        · have k := k.1 hb
          refine zr_aload_n dX11_write_89 rfl rfl ?_
          refine zr_bipush (v := 59) dX11_write_90 (by decide) ?_
          refine zr_callV (As := [.int (59 : Int32)]) (fr' := fX11_putByte) (lo' := lX11_putByte) (bc' := 0) (bs' := 0) (bcr := bc) (bsr := bs) dX11_write_92 zs_X11_336 zi_X11_putByte zcl_11 (hS.has (a := 0) rfl rfl) rfl rfl (Nat.le_of_ble_eq_true rfl) (Nat.le_of_ble_eq_true rfl) (Nat.le_of_ble_eq_true rfl) (Nat.le_refl _) (Nat.le_refl _) ?_
          refine ZC.mono (fun w S' I4 L4 k => ?_) k
          obtain ⟨rfl, rfl, k⟩ := k
          show ZW G mX11_write fX11_write lX11_write 95 [zo G 0, .int v1, .int v2, .int (p_X4_partnerOf I (zjid v1) v2)] [] S I4 L4 bc bs Q
          refine zr_iinc (v := (v2 + 1)) dX11_write_95 rfl rfl (Nat.le_of_ble_eq_true rfl) rfl ?_
          refine zr_goto (tgt := 21) dX11_write_98 (by decide) ?_
          exact zr_mask [true, true, true, false] rfl k
        · have k := k.2 hb
          refine zr_aload_n dX11_write_83 rfl rfl ?_
          refine zr_bipush (v := 33) dX11_write_84 (by decide) ?_
          refine zr_callV (As := [.int (33 : Int32)]) (fr' := fX11_putByte) (lo' := lX11_putByte) (bc' := 0) (bs' := 0) (bcr := bc) (bsr := bs) dX11_write_86 zs_X11_336 zi_X11_putByte zcl_11 (hS.has (a := 0) rfl rfl) rfl rfl (Nat.le_of_ble_eq_true rfl) (Nat.le_of_ble_eq_true rfl) (Nat.le_of_ble_eq_true rfl) (Nat.le_refl _) (Nat.le_refl _) ?_
          refine ZC.mono (fun w S' I5 L5 k => ?_) k
          obtain ⟨rfl, rfl, k⟩ := k
          show ZW G mX11_write fX11_write lX11_write 89 [zo G 0, .int v1, .int v2, .int (p_X4_partnerOf I (zjid v1) v2)] [] S I5 L5 bc bs Q
          refine zr_aload_n dX11_write_89 rfl rfl ?_
          refine zr_bipush (v := 59) dX11_write_90 (by decide) ?_
          refine zr_callV (As := [.int (59 : Int32)]) (fr' := fX11_putByte) (lo' := lX11_putByte) (bc' := 0) (bs' := 0) (bcr := bc) (bsr := bs) dX11_write_92 zs_X11_336 zi_X11_putByte zcl_11 (hS.has (a := 0) rfl rfl) rfl rfl (Nat.le_of_ble_eq_true rfl) (Nat.le_of_ble_eq_true rfl) (Nat.le_of_ble_eq_true rfl) (Nat.le_refl _) (Nat.le_refl _) ?_
          refine ZC.mono (fun w S' I6 L6 k => ?_) k
          obtain ⟨rfl, rfl, k⟩ := k
          show ZW G mX11_write fX11_write lX11_write 95 [zo G 0, .int v1, .int v2, .int (p_X4_partnerOf I (zjid v1) v2)] [] S I6 L6 bc bs Q
          refine zr_iinc (v := (v2 + 1)) dX11_write_95 rfl rfl (Nat.le_of_ble_eq_true rfl) rfl ?_
          refine zr_goto (tgt := 21) dX11_write_98 (by decide) ?_
          exact zr_mask [true, true, true, false] rfl k
set_option maxHeartbeats 2000000 in
theorem vX11_out_0 {G : Gp} {bc bs : Nat} {Q : zPost} {S : zSh} {I : zFI} {L : zFL} {v1 : Int32} (hS : zStd S)  (k : ((v1 < 0 → Q (some (.int (-1 : Int32))) S I L) ∧ (¬ v1 < 0 → (((I 0 12) ≤ v1 → Q (some (.int (-1 : Int32))) S I L) ∧ (¬ (I 0 12) ≤ v1 → (((200 : Int32) ≤ v1 → Q (some (.int (-1 : Int32))) S I L) ∧ (¬ (200 : Int32) ≤ v1 → vp_in v1 200 ∧ Q (some (.int (I 82 v1.toNatClampNeg))) S I L))))))) : ZW G mX11_out fX11_out lX11_out 0 [zo G 0, .int v1] [] S I L bc bs Q := by
  refine zr_iload_n dX11_out_0 rfl rfl ?_
  refine zr_iflt (tgt := 28) dX11_out_1 (by decide) (fun hb => ?_) (fun hb => ?_)
  · have k := k.1 hb
    refine zr_iconst (v := -1) dX11_out_28 (by decide) ?_
    exact zr_ireturn dX11_out_29 rfl rfl k
  · have k := k.2 hb
    refine zr_iload_n dX11_out_4 rfl rfl ?_
    refine zr_aload_n dX11_out_5 rfl rfl ?_
    refine zr_getIv (x := (I 0 12)) dX11_out_6 zf_X11_90 rfl (hS.has (a := 0) rfl rfl) rfl ?_
    refine zr_icge (tgt := 28) dX11_out_9 (by decide) (fun hb => ?_) (fun hb => ?_)
    · have k := k.1 hb
      refine zr_iconst (v := -1) dX11_out_28 (by decide) ?_
      exact zr_ireturn dX11_out_29 rfl rfl k
    · have k := k.2 hb
      refine zr_iload_n dX11_out_12 rfl rfl ?_
      refine zr_sipush (v := 200) dX11_out_13 (by decide) ?_
      refine zr_icge (tgt := 28) dX11_out_16 (by decide) (fun hb => ?_) (fun hb => ?_)
      · have k := k.1 hb
        refine zr_iconst (v := -1) dX11_out_28 (by decide) ?_
        exact zr_ireturn dX11_out_29 rfl rfl k
      · have k := k.2 hb
        refine zr_aload_n dX11_out_19 rfl rfl ?_
        refine zr_getR dX11_out_20 zf_X11_86 rfl (hS.has (a := 0) rfl rfl) (hS.ref (a := 82) rfl) ?_
        refine zr_iload_n dX11_out_23 rfl rfl ?_
        obtain ⟨hi1, k⟩ := k
        refine zr_ialdv (x := (I 82 v1.toNatClampNeg)) dX11_out_24 (hS.has (a := 82) rfl rfl) hi1 rfl ?_
        refine zr_goto (tgt := 29) dX11_out_25 (by decide) ?_
        exact zr_ireturn dX11_out_29 rfl rfl k
def p_X11_out (I : zFI) (v1 : Int32) : Int32 := (if v1 < 0 then (-1 : Int32) else (if (I 0 12) ≤ v1 then (-1 : Int32) else (if (200 : Int32) ≤ v1 then (-1 : Int32) else (I 82 v1.toNatClampNeg))))
set_option maxHeartbeats 2000000 in
theorem sp_X11_out {G : Gp} {Q : zPost} {S : zSh} {I : zFI} {L : zFL} {v1 : Int32} (hS : zStd S)  (h : Q (some (.int (p_X11_out I v1))) S I L) : ZC G mX11_out fX11_out lX11_out [zo G 0, .int v1] S I L 0 0 Q := by
  refine ZC.of' (vX11_out_0 hS  ?_) rfl (Nat.le_of_ble_eq_true rfl) rfl
  unfold p_X11_out at h
  refine ⟨fun hb1 => ?_, fun hb1 => ?_⟩
  · rw [if_pos hb1] at h
    exact h
  · rw [if_neg hb1] at h
    refine ⟨fun hb2 => ?_, fun hb2 => ?_⟩
    · rw [if_pos hb2] at h
      exact h
    · rw [if_neg hb2] at h
      refine ⟨fun hb3 => ?_, fun hb3 => ?_⟩
      · rw [if_pos hb3] at h
        exact h
      · rw [if_neg hb3] at h
        refine ⟨zvin (m := 200) rfl (by first | lia) (by first | lia), ?_⟩
        exact h
set_option maxHeartbeats 2000000 in
theorem vX12_isIn_0 {G : Gp} {bc bs : Nat} {Q : zPost} {S : zSh} {I : zFI} {L : zFL} {v1 : Int32} {v2 : Int32} {v3 : Int32} (hS : zStd S)  (k : ((v1 < v2 → Q (some (.int (0 : Int32))) S I L) ∧ (¬ v1 < v2 → ((v3 < v1 → Q (some (.int (0 : Int32))) S I L) ∧ (¬ v3 < v1 → Q (some (.int (1 : Int32))) S I L))))) : ZW G mX12_isIn fX12_isIn lX12_isIn 0 [zo G 84, .int v1, .int v2, .int v3] [] S I L bc bs Q := by
  refine zr_iload_n dX12_isIn_0 rfl rfl ?_
  refine zr_iload_n dX12_isIn_1 rfl rfl ?_
  refine zr_iclt (tgt := 14) dX12_isIn_2 (by decide) (fun hb => ?_) (fun hb => ?_)
  · have k := k.1 hb
    refine zr_iconst (v := 0) dX12_isIn_14 (by decide) ?_
    exact zr_ireturn dX12_isIn_15 rfl rfl k
  · have k := k.2 hb
    refine zr_iload_n dX12_isIn_5 rfl rfl ?_
    refine zr_iload_n dX12_isIn_6 rfl rfl ?_
    refine zr_icgt (tgt := 14) dX12_isIn_7 (by decide) (fun hb => ?_) (fun hb => ?_)
    · have k := k.1 hb
      refine zr_iconst (v := 0) dX12_isIn_14 (by decide) ?_
      exact zr_ireturn dX12_isIn_15 rfl rfl k
    · have k := k.2 hb
      refine zr_iconst (v := 1) dX12_isIn_10 (by decide) ?_
      refine zr_goto (tgt := 15) dX12_isIn_11 (by decide) ?_
      exact zr_ireturn dX12_isIn_15 rfl rfl k
def p_X12_isIn  (v1 : Int32) (v2 : Int32) (v3 : Int32) : Int32 := (if v1 < v2 then (0 : Int32) else (if v3 < v1 then (0 : Int32) else (1 : Int32)))
set_option maxHeartbeats 2000000 in
theorem sp_X12_isIn {G : Gp} {Q : zPost} {S : zSh} {I : zFI} {L : zFL} {v1 : Int32} {v2 : Int32} {v3 : Int32} (hS : zStd S)  (h : Q (some (.int (p_X12_isIn  v1 v2 v3))) S I L) : ZC G mX12_isIn fX12_isIn lX12_isIn [zo G 84, .int v1, .int v2, .int v3] S I L 0 0 Q := by
  refine ZC.of' (vX12_isIn_0 hS  ?_) rfl (Nat.le_of_ble_eq_true rfl) rfl
  unfold p_X12_isIn at h
  refine ⟨fun hb1 => ?_, fun hb1 => ?_⟩
  · rw [if_pos hb1] at h
    exact h
  · rw [if_neg hb1] at h
    refine ⟨fun hb2 => ?_, fun hb2 => ?_⟩
    · rw [if_pos hb2] at h
      exact h
    · rw [if_neg hb2] at h
      exact h
theorem pb_X12_isIn  (v1 : Int32) (v2 : Int32) (v3 : Int32) : p_X12_isIn  v1 v2 v3 = 0 ∨ p_X12_isIn  v1 v2 v3 = 1 := by
  unfold p_X12_isIn
  repeat' split
  all_goals first | exact Or.inl rfl | exact Or.inr rfl | assumption
set_option maxHeartbeats 2000000 in
theorem vX12_isSeen_0 {G : Gp} {bc bs : Nat} {Q : zPost} {S : zSh} {I : zFI} {L : zFL} {v1 : Int32} (hS : zStd S)  (k : (((I 84 2) = (-1 : Int32) → Q (some (.int (1 : Int32))) S I L) ∧ (¬ (I 84 2) = (-1 : Int32) → (((I 84 2) < v1 → Q (some (.int (0 : Int32))) S I L) ∧ (¬ (I 84 2) < v1 → Q (some (.int (1 : Int32))) S I L))))) : ZW G mX12_isSeen fX12_isSeen lX12_isSeen 0 [zo G 84, .int v1] [] S I L bc bs Q := by
  refine zr_aload_n dX12_isSeen_0 rfl rfl ?_
  refine zr_getIv (x := (I 84 2)) dX12_isSeen_1 zf_X12_9 rfl (hS.has (a := 84) rfl rfl) rfl ?_
  refine zr_iconst (v := -1) dX12_isSeen_4 (by decide) ?_
  refine zr_iceq (tgt := 16) dX12_isSeen_5 (by decide) (fun hb => ?_) (fun hb => ?_)
  · have k := k.1 hb
    refine zr_iconst (v := 1) dX12_isSeen_16 (by decide) ?_
    refine zr_goto (tgt := 21) dX12_isSeen_17 (by decide) ?_
    exact zr_ireturn dX12_isSeen_21 rfl rfl k
  · have k := k.2 hb
    refine zr_iload_n dX12_isSeen_8 rfl rfl ?_
    refine zr_aload_n dX12_isSeen_9 rfl rfl ?_
    refine zr_getIv (x := (I 84 2)) dX12_isSeen_10 zf_X12_9 rfl (hS.has (a := 84) rfl rfl) rfl ?_
    refine zr_icgt (tgt := 20) dX12_isSeen_13 (by decide) (fun hb => ?_) (fun hb => ?_)
    · have k := k.1 hb
      refine zr_iconst (v := 0) dX12_isSeen_20 (by decide) ?_
      exact zr_ireturn dX12_isSeen_21 rfl rfl k
    · have k := k.2 hb
      refine zr_iconst (v := 1) dX12_isSeen_16 (by decide) ?_
      refine zr_goto (tgt := 21) dX12_isSeen_17 (by decide) ?_
      exact zr_ireturn dX12_isSeen_21 rfl rfl k
def p_X12_isSeen (I : zFI) (v1 : Int32) : Int32 := (if (I 84 2) = (-1 : Int32) then (1 : Int32) else (if (I 84 2) < v1 then (0 : Int32) else (1 : Int32)))
set_option maxHeartbeats 2000000 in
theorem sp_X12_isSeen {G : Gp} {Q : zPost} {S : zSh} {I : zFI} {L : zFL} {v1 : Int32} (hS : zStd S)  (h : Q (some (.int (p_X12_isSeen I v1))) S I L) : ZC G mX12_isSeen fX12_isSeen lX12_isSeen [zo G 84, .int v1] S I L 0 0 Q := by
  refine ZC.of' (vX12_isSeen_0 hS  ?_) rfl (Nat.le_of_ble_eq_true rfl) rfl
  unfold p_X12_isSeen at h
  refine ⟨fun hb1 => ?_, fun hb1 => ?_⟩
  · rw [if_pos hb1] at h
    exact h
  · rw [if_neg hb1] at h
    refine ⟨fun hb2 => ?_, fun hb2 => ?_⟩
    · rw [if_pos hb2] at h
      exact h
    · rw [if_neg hb2] at h
      exact h
theorem pb_X12_isSeen (I : zFI) (v1 : Int32) : p_X12_isSeen I v1 = 0 ∨ p_X12_isSeen I v1 = 1 := by
  unfold p_X12_isSeen
  repeat' split
  all_goals first | exact Or.inl rfl | exact Or.inr rfl | assumption
set_option maxHeartbeats 2000000 in
theorem vX12_isTimber_0 {G : Gp} {bc bs : Nat} {Q : zPost} {S : zSh} {I : zFI} {L : zFL} {v1 : Int32} (hS : zStd S)  (k : ((v1 < 0 → Q (some (.int (0 : Int32))) S I L) ∧ (¬ v1 < 0 → (((I 84 3) ≤ v1 → Q (some (.int (0 : Int32))) S I L) ∧ (¬ (I 84 3) ≤ v1 → vp_in v1 16 ∧ (((p_X12_isSeen I (I 87 v1.toNatClampNeg)) = 0 → Q (some (.int (0 : Int32))) S I L) ∧ (¬ (p_X12_isSeen I (I 87 v1.toNatClampNeg)) = 0 → Q (some (.int (1 : Int32))) S I L))))))) : ZW G mX12_isTimber fX12_isTimber lX12_isTimber 0 [zo G 84, .int v1] [] S I L bc bs Q := by
  refine zr_iload_n dX12_isTimber_0 rfl rfl ?_
  refine zr_iflt (tgt := 29) dX12_isTimber_1 (by decide) (fun hb => ?_) (fun hb => ?_)
  · have k := k.1 hb
    refine zr_iconst (v := 0) dX12_isTimber_29 (by decide) ?_
    exact zr_ireturn dX12_isTimber_30 rfl rfl k
  · have k := k.2 hb
    refine zr_iload_n dX12_isTimber_4 rfl rfl ?_
    refine zr_aload_n dX12_isTimber_5 rfl rfl ?_
    refine zr_getIv (x := (I 84 3)) dX12_isTimber_6 zf_X12_191 rfl (hS.has (a := 84) rfl rfl) rfl ?_
    refine zr_icge (tgt := 29) dX12_isTimber_9 (by decide) (fun hb => ?_) (fun hb => ?_)
    · have k := k.1 hb
      refine zr_iconst (v := 0) dX12_isTimber_29 (by decide) ?_
      exact zr_ireturn dX12_isTimber_30 rfl rfl k
    · have k := k.2 hb
      refine zr_aload_n dX12_isTimber_12 rfl rfl ?_
      refine zr_aload_n dX12_isTimber_13 rfl rfl ?_
      refine zr_getR dX12_isTimber_14 zf_X12_20 rfl (hS.has (a := 84) rfl rfl) (hS.ref (a := 87) rfl) ?_
      refine zr_iload_n dX12_isTimber_17 rfl rfl ?_
      obtain ⟨hi1, k⟩ := k
      refine zr_ialdv (x := (I 87 v1.toNatClampNeg)) dX12_isTimber_18 (hS.has (a := 87) rfl rfl) hi1 rfl ?_
      refine zr_callV (As := [.int (I 87 v1.toNatClampNeg)]) (fr' := fX12_isSeen) (lo' := lX12_isSeen) (bc' := 0) (bs' := 0) (bcr := bc) (bsr := bs) dX12_isTimber_19 zs_X12_194 zi_X12_isSeen zcl_12 (hS.has (a := 84) rfl rfl) rfl rfl (Nat.le_of_ble_eq_true rfl) (Nat.le_of_ble_eq_true rfl) (Nat.le_of_ble_eq_true rfl) (Nat.le_refl _) (Nat.le_refl _) ?_
      refine sp_X12_isSeen hS  ?_
      show ZW G mX12_isTimber fX12_isTimber lX12_isTimber 22 [zo G 84, .int v1] [.int (p_X12_isSeen I (I 87 v1.toNatClampNeg))] S I L bc bs Q
      refine zr_ifeq (tgt := 29) dX12_isTimber_22 (by decide) (fun hb => ?_) (fun hb => ?_)
      · have k := k.1 hb
        refine zr_iconst (v := 0) dX12_isTimber_29 (by decide) ?_
        exact zr_ireturn dX12_isTimber_30 rfl rfl k
      · have k := k.2 hb
        refine zr_iconst (v := 1) dX12_isTimber_25 (by decide) ?_
        refine zr_goto (tgt := 30) dX12_isTimber_26 (by decide) ?_
        exact zr_ireturn dX12_isTimber_30 rfl rfl k
def p_X12_isTimber (I : zFI) (v1 : Int32) : Int32 := (if v1 < 0 then (0 : Int32) else (if (I 84 3) ≤ v1 then (0 : Int32) else (if (p_X12_isSeen I (I 87 v1.toNatClampNeg)) = 0 then (0 : Int32) else (1 : Int32))))
set_option maxHeartbeats 2000000 in
theorem sp_X12_isTimber {G : Gp} {Q : zPost} {S : zSh} {I : zFI} {L : zFL} {v1 : Int32} (hS : zStd S)  (hv0 : ¬ v1 < 0 → ¬ (I 84 3) ≤ v1 → vp_in v1 16) (h : Q (some (.int (p_X12_isTimber I v1))) S I L) : ZC G mX12_isTimber fX12_isTimber lX12_isTimber [zo G 84, .int v1] S I L 0 0 Q := by
  refine ZC.of' (vX12_isTimber_0 hS  ?_) rfl (Nat.le_of_ble_eq_true rfl) rfl
  unfold p_X12_isTimber at h
  refine ⟨fun hb1 => ?_, fun hb1 => ?_⟩
  · rw [if_pos hb1] at h
    exact h
  · rw [if_neg hb1] at h
    refine ⟨fun hb2 => ?_, fun hb2 => ?_⟩
    · rw [if_pos hb2] at h
      exact h
    · rw [if_neg hb2] at h
      refine ⟨hv0 hb1 hb2, ?_⟩
      refine ⟨fun hb3 => ?_, fun hb3 => ?_⟩
      · rw [if_pos hb3] at h
        exact h
      · rw [if_neg hb3] at h
        exact h
theorem pb_X12_isTimber (I : zFI) (v1 : Int32) : p_X12_isTimber I v1 = 0 ∨ p_X12_isTimber I v1 = 1 := by
  unfold p_X12_isTimber
  repeat' split
  all_goals first | exact Or.inl rfl | exact Or.inr rfl | exact pb_X12_isSeen _ _
