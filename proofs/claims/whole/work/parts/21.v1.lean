set_option maxHeartbeats 2000000 in
theorem vX3_keepStep_0 {G : Gp} {bc bs : Nat} {Q : zPost} {S : zSh} {I : zFI} {L : zFL} {f : Nat} {v1 : Int32} {v2 : Int32} {v3 : Int32} (hS : zStd S) (hf : zFm f) (k : ((v1 < 0 → Q none S I L) ∧ (¬ v1 < 0 → (((8 : Int32) ≤ v1 → Q none S I L) ∧ (¬ (8 : Int32) ≤ v1 → (((p_X3_isMember v2) = 0 → Q none S I L) ∧ (¬ (p_X3_isMember v2) = 0 → vp_in ((v1 * (16 : Int32)) + v2) 128 ∧ Q none S (u2 I (f + 7) ((v1 * (16 : Int32)) + v2).toNatClampNeg v3) L))))))) : ZW G mX3_keepStep fX3_keepStep lX3_keepStep 0 [zo G f, .int v1, .int v2, .int v3] [] S I L bc bs Q := by
  refine zr_iload_n dX3_keepStep_0 rfl rfl ?_
  refine zr_iflt (tgt := 29) dX3_keepStep_1 (by decide) (fun hb => ?_) (fun hb => ?_)
  · have k := k.1 hb
    exact zr_return_ dX3_keepStep_29 rfl k
  · have k := k.2 hb
    refine zr_iload_n dX3_keepStep_4 rfl rfl ?_
    refine zr_bipush (v := 8) dX3_keepStep_5 (by decide) ?_
    refine zr_icge (tgt := 29) dX3_keepStep_7 (by decide) (fun hb => ?_) (fun hb => ?_)
    · have k := k.1 hb
      exact zr_return_ dX3_keepStep_29 rfl k
    · have k := k.2 hb
      refine zr_iload_n dX3_keepStep_10 rfl rfl ?_
      refine zr_callS (As := [.int v2]) (fr' := fX3_isMember) (lo' := lX3_isMember) (bc' := 0) (bs' := 0) (bcr := bc) (bsr := bs) dX3_keepStep_11 zs_X3_58 zst_X3_isMember rfl rfl (Nat.le_of_ble_eq_true rfl) (Nat.le_of_ble_eq_true rfl) (Nat.le_of_ble_eq_true rfl) (Nat.le_refl _) (Nat.le_refl _) ?_
      refine sp_X3_isMember hS  ?_
      show ZW G mX3_keepStep fX3_keepStep lX3_keepStep 14 [zo G f, .int v1, .int v2, .int v3] [.int (p_X3_isMember v2)] S I L bc bs Q
      refine zr_ifeq (tgt := 29) dX3_keepStep_14 (by decide) (fun hb => ?_) (fun hb => ?_)
      · have k := k.1 hb
        exact zr_return_ dX3_keepStep_29 rfl k
      · have k := k.2 hb
        refine zr_aload_n dX3_keepStep_17 rfl rfl ?_
        refine zr_getR dX3_keepStep_18 zf_X3_38 rfl (hS.hasF hf 0 rfl rfl rfl) (hS.refF hf (d := 7) rfl rfl) ?_
        refine zr_iload_n dX3_keepStep_21 rfl rfl ?_
        refine zr_bipush (v := 16) dX3_keepStep_22 (by decide) ?_
        refine zr_imul dX3_keepStep_24 ?_
        refine zr_iload_n dX3_keepStep_25 rfl rfl ?_
        refine zr_iadd dX3_keepStep_26 ?_
        refine zr_iload_n dX3_keepStep_27 rfl rfl ?_
        obtain ⟨hi1, k⟩ := k
        refine zr_iast dX3_keepStep_28 (hS.hasF hf 7 rfl rfl rfl) hi1 ?_
        exact zr_return_ dX3_keepStep_29 rfl k
set_option maxHeartbeats 2000000 in
theorem vX3_mostOf_0 {G : Gp} {bc bs : Nat} {Q : zPost} {S : zSh} {I : zFI} {L : zFL} {f : Nat} {v1 : Int32} (hS : zStd S) (hf : zFm f) (k : Q (some (.int (p_X11_pick I (f + 5) 8 v1))) S I L) : ZW G mX3_mostOf fX3_mostOf lX3_mostOf 0 [zo G f, .int v1] [] S I L bc bs Q := by
  refine zr_aload_n dX3_mostOf_0 rfl rfl ?_
  refine zr_getR dX3_mostOf_1 zf_X3_31 rfl (hS.hasF hf 0 rfl rfl rfl) (hS.refF hf (d := 5) rfl rfl) ?_
  refine zr_iload_n dX3_mostOf_4 rfl rfl ?_
  refine zr_callSN (As := [zo G (f + 5), .int v1]) (fr' := fX11_pick) (lo' := lX11_pick) (bc' := 0) (bs' := 0) (bcr := bc) (bsr := bs) dX3_mostOf_5 zsn_X3_76 zst_X11_pick rfl rfl (Nat.le_of_ble_eq_true rfl) (Nat.le_of_ble_eq_true rfl) (Nat.le_of_ble_eq_true rfl) (Nat.le_refl _) (Nat.le_refl _) ?_
  refine sp_X11_pick hS (hS.hasF hf 5 rfl rfl rfl) rfl ?_
  show ZW G mX3_mostOf fX3_mostOf lX3_mostOf 8 [zo G f, .int v1] [.int (p_X11_pick I (f + 5) 8 v1)] S I L bc bs Q
  exact zr_ireturn dX3_mostOf_8 rfl rfl k
def p_X3_mostOf (I : zFI) (f : Nat) (v1 : Int32) : Int32 := (p_X11_pick I (f + 5) 8 v1)
set_option maxHeartbeats 2000000 in
theorem sp_X3_mostOf {G : Gp} {Q : zPost} {S : zSh} {I : zFI} {L : zFL} {f : Nat} {v1 : Int32} (hS : zStd S) (hf : zFm f) (h : Q (some (.int (p_X3_mostOf I f v1))) S I L) : ZC G mX3_mostOf fX3_mostOf lX3_mostOf [zo G f, .int v1] S I L 0 0 Q := by
  refine ZC.of' (vX3_mostOf_0 hS hf ?_) rfl (Nat.le_of_ble_eq_true rfl) rfl
  unfold p_X3_mostOf at h
  exact h
set_option maxHeartbeats 2000000 in
theorem vX3_ordersOf_0 {G : Gp} {bc bs : Nat} {Q : zPost} {S : zSh} {I : zFI} {L : zFL} {f : Nat} {v1 : Int32} (hS : zStd S) (hf : zFm f) (k : ((v1 < 0 → Q (some (.long (-1 : Int64))) S I L) ∧ (¬ v1 < 0 → (((8 : Int32) ≤ v1 → Q (some (.long (-1 : Int64))) S I L) ∧ (¬ (8 : Int32) ≤ v1 → vp_in v1 8 ∧ Q (some (.long (L (f + 6) v1.toNatClampNeg))) S I L))))) : ZW G mX3_ordersOf fX3_ordersOf lX3_ordersOf 0 [zo G f, .int v1] [] S I L bc bs Q := by
  refine zr_iload_n dX3_ordersOf_0 rfl rfl ?_
  refine zr_iflt (tgt := 19) dX3_ordersOf_1 (by decide) (fun hb => ?_) (fun hb => ?_)
  · have k := k.1 hb
    refine zr_ldc2_w dX3_ordersOf_19 zk_X3_80 ?_
    exact zr_lreturn dX3_ordersOf_22 rfl k
  · have k := k.2 hb
    refine zr_iload_n dX3_ordersOf_4 rfl rfl ?_
    refine zr_bipush (v := 8) dX3_ordersOf_5 (by decide) ?_
    refine zr_icge (tgt := 19) dX3_ordersOf_7 (by decide) (fun hb => ?_) (fun hb => ?_)
    · have k := k.1 hb
      refine zr_ldc2_w dX3_ordersOf_19 zk_X3_80 ?_
      exact zr_lreturn dX3_ordersOf_22 rfl k
    · have k := k.2 hb
      refine zr_aload_n dX3_ordersOf_10 rfl rfl ?_
      refine zr_getR dX3_ordersOf_11 zf_X3_34 rfl (hS.hasF hf 0 rfl rfl rfl) (hS.refF hf (d := 6) rfl rfl) ?_
      refine zr_iload_n dX3_ordersOf_14 rfl rfl ?_
      obtain ⟨hi1, k⟩ := k
      refine zr_laldv (x := (L (f + 6) v1.toNatClampNeg)) dX3_ordersOf_15 (hS.hasF hf 6 rfl rfl rfl) hi1 rfl ?_
      refine zr_goto (tgt := 22) dX3_ordersOf_16 (by decide) ?_
      exact zr_lreturn dX3_ordersOf_22 rfl k
def p_X3_ordersOf (L : zFL) (f : Nat) (v1 : Int32) : Int64 := (if v1 < 0 then (-1 : Int64) else (if (8 : Int32) ≤ v1 then (-1 : Int64) else (L (f + 6) v1.toNatClampNeg)))
set_option maxHeartbeats 2000000 in
theorem sp_X3_ordersOf {G : Gp} {Q : zPost} {S : zSh} {I : zFI} {L : zFL} {f : Nat} {v1 : Int32} (hS : zStd S) (hf : zFm f) (h : Q (some (.long (p_X3_ordersOf L f v1))) S I L) : ZC G mX3_ordersOf fX3_ordersOf lX3_ordersOf [zo G f, .int v1] S I L 0 0 Q := by
  refine ZC.of' (vX3_ordersOf_0 hS hf ?_) rfl (Nat.le_of_ble_eq_true rfl) rfl
  unfold p_X3_ordersOf at h
  refine ⟨fun hb1 => ?_, fun hb1 => ?_⟩
  · rw [if_pos hb1] at h
    exact h
  · rw [if_neg hb1] at h
    refine ⟨fun hb2 => ?_, fun hb2 => ?_⟩
    · rw [if_pos hb2] at h
      exact h
    · rw [if_neg hb2] at h
      refine ⟨zvin (m := 8) rfl (by first | lia) (by first | lia), ?_⟩
      exact h
set_option maxHeartbeats 2000000 in
theorem vX3_stepOf_0 {G : Gp} {bc bs : Nat} {Q : zPost} {S : zSh} {I : zFI} {L : zFL} {f : Nat} {v1 : Int32} {v2 : Int32} (hS : zStd S) (hf : zFm f) (k : (((p_X3_isMember v2) = 0 → Q (some (.int (-1 : Int32))) S I L) ∧ (¬ (p_X3_isMember v2) = 0 → Q (some (.int (p_X11_pick I (f + 7) 128 ((v1 * (16 : Int32)) + v2)))) S I L))) : ZW G mX3_stepOf fX3_stepOf lX3_stepOf 0 [zo G f, .int v1, .int v2] [] S I L bc bs Q := by
  refine zr_iload_n dX3_stepOf_0 rfl rfl ?_
  refine zr_callS (As := [.int v2]) (fr' := fX3_isMember) (lo' := lX3_isMember) (bc' := 0) (bs' := 0) (bcr := bc) (bsr := bs) dX3_stepOf_1 zs_X3_58 zst_X3_isMember rfl rfl (Nat.le_of_ble_eq_true rfl) (Nat.le_of_ble_eq_true rfl) (Nat.le_of_ble_eq_true rfl) (Nat.le_refl _) (Nat.le_refl _) ?_
  refine sp_X3_isMember hS  ?_
  show ZW G mX3_stepOf fX3_stepOf lX3_stepOf 4 [zo G f, .int v1, .int v2] [.int (p_X3_isMember v2)] S I L bc bs Q
  refine zr_ifeq (tgt := 23) dX3_stepOf_4 (by decide) (fun hb => ?_) (fun hb => ?_)
  · have k := k.1 hb
    refine zr_iconst (v := -1) dX3_stepOf_23 (by decide) ?_
    exact zr_ireturn dX3_stepOf_24 rfl rfl k
  · have k := k.2 hb
    refine zr_aload_n dX3_stepOf_7 rfl rfl ?_
    refine zr_getR dX3_stepOf_8 zf_X3_38 rfl (hS.hasF hf 0 rfl rfl rfl) (hS.refF hf (d := 7) rfl rfl) ?_
    refine zr_iload_n dX3_stepOf_11 rfl rfl ?_
    refine zr_bipush (v := 16) dX3_stepOf_12 (by decide) ?_
    refine zr_imul dX3_stepOf_14 ?_
    refine zr_iload_n dX3_stepOf_15 rfl rfl ?_
    refine zr_iadd dX3_stepOf_16 ?_
    refine zr_callSN (As := [zo G (f + 7), .int ((v1 * (16 : Int32)) + v2)]) (fr' := fX11_pick) (lo' := lX11_pick) (bc' := 0) (bs' := 0) (bcr := bc) (bsr := bs) dX3_stepOf_17 zsn_X3_76 zst_X11_pick rfl rfl (Nat.le_of_ble_eq_true rfl) (Nat.le_of_ble_eq_true rfl) (Nat.le_of_ble_eq_true rfl) (Nat.le_refl _) (Nat.le_refl _) ?_
    refine sp_X11_pick hS (hS.hasF hf 7 rfl rfl rfl) rfl ?_
    show ZW G mX3_stepOf fX3_stepOf lX3_stepOf 20 [zo G f, .int v1, .int v2] [.int (p_X11_pick I (f + 7) 128 ((v1 * (16 : Int32)) + v2))] S I L bc bs Q
    refine zr_goto (tgt := 24) dX3_stepOf_20 (by decide) ?_
    exact zr_ireturn dX3_stepOf_24 rfl rfl k
def p_X3_stepOf (I : zFI) (f : Nat) (v1 : Int32) (v2 : Int32) : Int32 := (if (p_X3_isMember v2) = 0 then (-1 : Int32) else (p_X11_pick I (f + 7) 128 ((v1 * (16 : Int32)) + v2)))
set_option maxHeartbeats 2000000 in
theorem sp_X3_stepOf {G : Gp} {Q : zPost} {S : zSh} {I : zFI} {L : zFL} {f : Nat} {v1 : Int32} {v2 : Int32} (hS : zStd S) (hf : zFm f) (h : Q (some (.int (p_X3_stepOf I f v1 v2))) S I L) : ZC G mX3_stepOf fX3_stepOf lX3_stepOf [zo G f, .int v1, .int v2] S I L 0 0 Q := by
  refine ZC.of' (vX3_stepOf_0 hS hf ?_) rfl (Nat.le_of_ble_eq_true rfl) rfl
  unfold p_X3_stepOf at h
  refine ⟨fun hb1 => ?_, fun hb1 => ?_⟩
  · rw [if_pos hb1] at h
    exact h
  · rw [if_neg hb1] at h
    exact h
set_option maxHeartbeats 2000000 in
theorem vX4_begin_0 {G : Gp} {bc bs : Nat} {Q : zPost} {S : zSh} {I : zFI} {L : zFL} {j : Nat} (hS : zStd S) (hj : zJn j) (k : ZC G mJ7_fill_53178 fJ7_fill_53178 lJ7_fill_53178 [zo G (j + 5), .int (-1 : Int32)] S I L 0 0 (fun w S' I1 L1 => w = none ∧ S = S' ∧ Q none S (u2 (u2 (u2 I1 j 4 (0 : Int32)) j 12 (0 : Int32)) j 13 (0 : Int32)) (u2 (u2 (u2 (u2 L1 j 5 (0 : Int64)) j 6 (0 : Int64)) j 7 (0 : Int64)) j 8 (0 : Int64)))) : ZW G mX4_begin fX4_begin lX4_begin 0 [zo G j] [] S I L bc bs Q := by
  refine zr_aload_n dX4_begin_0 rfl rfl ?_
  refine zr_getR dX4_begin_1 zf_X4_42 rfl (hS.hasJ hj 0 rfl rfl rfl) (hS.refJ hj (d := 5) rfl rfl) ?_
  refine zr_iconst (v := -1) dX4_begin_4 (by decide) ?_
  refine zr_callS (As := [zo G (j + 5), .int (-1 : Int32)]) (fr' := fJ7_fill_53178) (lo' := lJ7_fill_53178) (bc' := 0) (bs' := 0) (bcr := bc) (bsr := bs) dX4_begin_5 zs_X4_57 zst_J7_fill_53178 rfl rfl (Nat.le_of_ble_eq_true rfl) (Nat.le_of_ble_eq_true rfl) (Nat.le_of_ble_eq_true rfl) (Nat.le_refl _) (Nat.le_refl _) ?_
  refine ZC.mono (fun w S' I1 L1 k => ?_) k
  obtain ⟨rfl, rfl, k⟩ := k
  show ZW G mX4_begin fX4_begin lX4_begin 8 [zo G j] [] S I1 L1 bc bs Q
  refine zr_aload_n dX4_begin_8 rfl rfl ?_
  refine zr_iconst (v := 0) dX4_begin_9 (by decide) ?_
  refine zr_putI dX4_begin_10 zf_X4_25 rfl (hS.hasJ hj 0 rfl rfl rfl) rfl rfl ?_
  refine zr_aload_n dX4_begin_13 rfl rfl ?_
  refine zr_lconst (v := 0) dX4_begin_14 (by decide) ?_
  refine zr_putJ dX4_begin_15 zf_X4_29 rfl (hS.hasJ hj 0 rfl rfl rfl) rfl rfl ?_
  refine zr_aload_n dX4_begin_18 rfl rfl ?_
  refine zr_lconst (v := 0) dX4_begin_19 (by decide) ?_
  refine zr_putJ dX4_begin_20 zf_X4_33 rfl (hS.hasJ hj 0 rfl rfl rfl) rfl rfl ?_
  refine zr_aload_n dX4_begin_23 rfl rfl ?_
  refine zr_lconst (v := 0) dX4_begin_24 (by decide) ?_
  refine zr_putJ dX4_begin_25 zf_X4_36 rfl (hS.hasJ hj 0 rfl rfl rfl) rfl rfl ?_
  refine zr_aload_n dX4_begin_28 rfl rfl ?_
  refine zr_lconst (v := 0) dX4_begin_29 (by decide) ?_
  refine zr_putJ dX4_begin_30 zf_X4_39 rfl (hS.hasJ hj 0 rfl rfl rfl) rfl rfl ?_
  refine zr_aload_n dX4_begin_33 rfl rfl ?_
  refine zr_iconst (v := 0) dX4_begin_34 (by decide) ?_
  refine zr_putI dX4_begin_35 zf_X4_51 rfl (hS.hasJ hj 0 rfl rfl rfl) rfl rfl ?_
  refine zr_aload_n dX4_begin_38 rfl rfl ?_
  refine zr_iconst (v := 0) dX4_begin_39 (by decide) ?_
  refine zr_putI dX4_begin_40 zf_X4_54 rfl (hS.hasJ hj 0 rfl rfl rfl) rfl rfl ?_
  exact zr_return_ dX4_begin_43 rfl k
set_option maxHeartbeats 2000000 in
theorem vX4_keepNumbers_0 {G : Gp} {bc bs : Nat} {Q : zPost} {S : zSh} {I : zFI} {L : zFL} {j : Nat} {v1 : Int32} {v2 : Int64} (hS : zStd S) (hj : zJn j) (k : ((v1 < 0 → Q none S I L) ∧ (¬ v1 < 0 → (((48 : Int32) ≤ v1 → Q none S I L) ∧ (¬ (48 : Int32) ≤ v1 → vp_in v1 48 ∧ Q none S I (u2 L (j + 1) v1.toNatClampNeg v2)))))) : ZW G mX4_keepNumbers fX4_keepNumbers lX4_keepNumbers 0 [zo G j, .int v1, .long v2, .null] [] S I L bc bs Q := by
  refine zr_iload_n dX4_keepNumbers_0 rfl rfl ?_
  refine zr_iflt (tgt := 17) dX4_keepNumbers_1 (by decide) (fun hb => ?_) (fun hb => ?_)
  · have k := k.1 hb
    exact zr_return_ dX4_keepNumbers_17 rfl k
  · have k := k.2 hb
    refine zr_iload_n dX4_keepNumbers_4 rfl rfl ?_
    refine zr_bipush (v := 48) dX4_keepNumbers_5 (by decide) ?_
    refine zr_icge (tgt := 17) dX4_keepNumbers_7 (by decide) (fun hb => ?_) (fun hb => ?_)
    · have k := k.1 hb
      exact zr_return_ dX4_keepNumbers_17 rfl k
    · have k := k.2 hb
      refine zr_aload_n dX4_keepNumbers_10 rfl rfl ?_
      refine zr_getR dX4_keepNumbers_11 zf_X4_9 rfl (hS.hasJ hj 0 rfl rfl rfl) (hS.refJ hj (d := 1) rfl rfl) ?_
      refine zr_iload_n dX4_keepNumbers_14 rfl rfl ?_
      refine zr_lload_n dX4_keepNumbers_15 rfl rfl ?_
      obtain ⟨hi1, k⟩ := k
      refine zr_last dX4_keepNumbers_16 (hS.hasJ hj 1 rfl rfl rfl) hi1 ?_
      exact zr_return_ dX4_keepNumbers_17 rfl k
set_option maxHeartbeats 2000000 in
theorem vX4_shareNumber_0 {G : Gp} {bc bs : Nat} {Q : zPost} {S : zSh} {I : zFI} {L : zFL} {j : Nat} {v1 : Int32} {v2 : Int32} (hS : zStd S) (hj : zJn j) (k : ((v1 < 0 → Q (some (.int (0 : Int32))) S I L) ∧ (¬ v1 < 0 → (((48 : Int32) ≤ v1 → Q (some (.int (0 : Int32))) S I L) ∧ (¬ (48 : Int32) ≤ v1 → ((v2 < 0 → Q (some (.int (0 : Int32))) S I L) ∧ (¬ v2 < 0 → (((48 : Int32) ≤ v2 → Q (some (.int (0 : Int32))) S I L) ∧ (¬ (48 : Int32) ≤ v2 → vp_in v1 48 ∧ vp_in v2 48 ∧ (((lg_cmp ((L (j + 1) v1.toNatClampNeg) &&& (L (j + 1) v2.toNatClampNeg)) (0 : Int64)) = 0 → Q (some (.int (0 : Int32))) S I L) ∧ (¬ (lg_cmp ((L (j + 1) v1.toNatClampNeg) &&& (L (j + 1) v2.toNatClampNeg)) (0 : Int64)) = 0 → Q (some (.int (1 : Int32))) S I L))))))))))) : ZW G mX4_shareNumber fX4_shareNumber lX4_shareNumber 0 [zo G j, .int v1, .int v2] [] S I L bc bs Q := by
  refine zr_iload_n dX4_shareNumber_0 rfl rfl ?_
  refine zr_iflt (tgt := 42) dX4_shareNumber_1 (by decide) (fun hb => ?_) (fun hb => ?_)
  · have k := k.1 hb
    refine zr_iconst (v := 0) dX4_shareNumber_42 (by decide) ?_
    exact zr_ireturn dX4_shareNumber_43 rfl rfl k
  · have k := k.2 hb
    refine zr_iload_n dX4_shareNumber_4 rfl rfl ?_
    refine zr_bipush (v := 48) dX4_shareNumber_5 (by decide) ?_
    refine zr_icge (tgt := 42) dX4_shareNumber_7 (by decide) (fun hb => ?_) (fun hb => ?_)
    · have k := k.1 hb
      refine zr_iconst (v := 0) dX4_shareNumber_42 (by decide) ?_
      exact zr_ireturn dX4_shareNumber_43 rfl rfl k
    · have k := k.2 hb
      refine zr_iload_n dX4_shareNumber_10 rfl rfl ?_
      refine zr_iflt (tgt := 42) dX4_shareNumber_11 (by decide) (fun hb => ?_) (fun hb => ?_)
      · have k := k.1 hb
        refine zr_iconst (v := 0) dX4_shareNumber_42 (by decide) ?_
        exact zr_ireturn dX4_shareNumber_43 rfl rfl k
      · have k := k.2 hb
        refine zr_iload_n dX4_shareNumber_14 rfl rfl ?_
        refine zr_bipush (v := 48) dX4_shareNumber_15 (by decide) ?_
        refine zr_icge (tgt := 42) dX4_shareNumber_17 (by decide) (fun hb => ?_) (fun hb => ?_)
        · have k := k.1 hb
          refine zr_iconst (v := 0) dX4_shareNumber_42 (by decide) ?_
          exact zr_ireturn dX4_shareNumber_43 rfl rfl k
        · have k := k.2 hb
          refine zr_aload_n dX4_shareNumber_20 rfl rfl ?_
          refine zr_getR dX4_shareNumber_21 zf_X4_9 rfl (hS.hasJ hj 0 rfl rfl rfl) (hS.refJ hj (d := 1) rfl rfl) ?_
          refine zr_iload_n dX4_shareNumber_24 rfl rfl ?_
          obtain ⟨hi1, k⟩ := k
          refine zr_laldv (x := (L (j + 1) v1.toNatClampNeg)) dX4_shareNumber_25 (hS.hasJ hj 1 rfl rfl rfl) hi1 rfl ?_
          refine zr_aload_n dX4_shareNumber_26 rfl rfl ?_
          refine zr_getR dX4_shareNumber_27 zf_X4_9 rfl (hS.hasJ hj 0 rfl rfl rfl) (hS.refJ hj (d := 1) rfl rfl) ?_
          refine zr_iload_n dX4_shareNumber_30 rfl rfl ?_
          obtain ⟨hi2, k⟩ := k
          refine zr_laldv (x := (L (j + 1) v2.toNatClampNeg)) dX4_shareNumber_31 (hS.hasJ hj 1 rfl rfl rfl) hi2 rfl ?_
          refine zr_land dX4_shareNumber_32 ?_
          refine zr_lconst (v := 0) dX4_shareNumber_33 (by decide) ?_
          refine zr_lcmp dX4_shareNumber_34 ?_
          refine zr_ifeq (tgt := 42) dX4_shareNumber_35 (by decide) (fun hb => ?_) (fun hb => ?_)
          · have k := k.1 hb
            refine zr_iconst (v := 0) dX4_shareNumber_42 (by decide) ?_
            exact zr_ireturn dX4_shareNumber_43 rfl rfl k
          · have k := k.2 hb
            refine zr_iconst (v := 1) dX4_shareNumber_38 (by decide) ?_
            refine zr_goto (tgt := 43) dX4_shareNumber_39 (by decide) ?_
            exact zr_ireturn dX4_shareNumber_43 rfl rfl k
def p_X4_shareNumber (L : zFL) (j : Nat) (v1 : Int32) (v2 : Int32) : Int32 := (if v1 < 0 then (0 : Int32) else (if (48 : Int32) ≤ v1 then (0 : Int32) else (if v2 < 0 then (0 : Int32) else (if (48 : Int32) ≤ v2 then (0 : Int32) else (if (lg_cmp ((L (j + 1) v1.toNatClampNeg) &&& (L (j + 1) v2.toNatClampNeg)) (0 : Int64)) = 0 then (0 : Int32) else (1 : Int32))))))
set_option maxHeartbeats 2000000 in
theorem sp_X4_shareNumber {G : Gp} {Q : zPost} {S : zSh} {I : zFI} {L : zFL} {j : Nat} {v1 : Int32} {v2 : Int32} (hS : zStd S) (hj : zJn j) (h : Q (some (.int (p_X4_shareNumber L j v1 v2))) S I L) : ZC G mX4_shareNumber fX4_shareNumber lX4_shareNumber [zo G j, .int v1, .int v2] S I L 0 0 Q := by
  refine ZC.of' (vX4_shareNumber_0 hS hj ?_) rfl (Nat.le_of_ble_eq_true rfl) rfl
  unfold p_X4_shareNumber at h
  refine ⟨fun hb1 => ?_, fun hb1 => ?_⟩
  · rw [if_pos hb1] at h
    exact h
  · rw [if_neg hb1] at h
    refine ⟨fun hb2 => ?_, fun hb2 => ?_⟩
    · rw [if_pos hb2] at h
      exact h
    · rw [if_neg hb2] at h
      refine ⟨fun hb3 => ?_, fun hb3 => ?_⟩
      · rw [if_pos hb3] at h
        exact h
      · rw [if_neg hb3] at h
        refine ⟨fun hb4 => ?_, fun hb4 => ?_⟩
        · rw [if_pos hb4] at h
          exact h
        · rw [if_neg hb4] at h
          refine ⟨zvin (m := 48) rfl (by first | lia) (by first | lia), ?_⟩
          refine ⟨zvin (m := 48) rfl (by first | lia) (by first | lia), ?_⟩
          refine ⟨fun hb5 => ?_, fun hb5 => ?_⟩
          · rw [if_pos hb5] at h
            exact h
          · rw [if_neg hb5] at h
            exact h
theorem pb_X4_shareNumber (L : zFL) (j : Nat) (v1 : Int32) (v2 : Int32) : p_X4_shareNumber L j v1 v2 = 0 ∨ p_X4_shareNumber L j v1 v2 = 1 := by
  unfold p_X4_shareNumber
  repeat' split
  all_goals first | exact Or.inl rfl | exact Or.inr rfl | assumption
set_option maxHeartbeats 2000000 in
theorem vX4_addArc_0 {G : Gp} {bc bs : Nat} {Q : zPost} {S : zSh} {I : zFI} {L : zFL} {j : Nat} {v1 : Int32} {v2 : Int32} {v3 : Int32} (hS : zStd S) (hj : zJn j) (k : (((576 : Int32) ≤ (I j 4) → Q none S I L) ∧ (¬ (576 : Int32) ≤ (I j 4) → ((v1 < 0 → Q none S I L) ∧ (¬ v1 < 0 → (((48 : Int32) ≤ v1 → Q none S I L) ∧ (¬ (48 : Int32) ≤ v1 → ((v2 < 0 → Q none S I L) ∧ (¬ v2 < 0 → ((v2 < (48 : Int32) → vp_in (I j 4) 576 ∧ vp_in ((u2 I (j + 2) (I j 4).toNatClampNeg v1) j 4) 576 ∧ vp_in ((u2 (u2 I (j + 2) (I j 4).toNatClampNeg v1) (j + 3) ((u2 I (j + 2) (I j 4).toNatClampNeg v1) j 4).toNatClampNeg v2) j 4) 576 ∧ Q none S (u2 (u2 (u2 (u2 I (j + 2) (I j 4).toNatClampNeg v1) (j + 3) ((u2 I (j + 2) (I j 4).toNatClampNeg v1) j 4).toNatClampNeg v2) (j + 4) ((u2 (u2 I (j + 2) (I j 4).toNatClampNeg v1) (j + 3) ((u2 I (j + 2) (I j 4).toNatClampNeg v1) j 4).toNatClampNeg v2) j 4).toNatClampNeg v3) j 4 (((u2 (u2 (u2 I (j + 2) (I j 4).toNatClampNeg v1) (j + 3) ((u2 I (j + 2) (I j 4).toNatClampNeg v1) j 4).toNatClampNeg v2) (j + 4) ((u2 (u2 I (j + 2) (I j 4).toNatClampNeg v1) (j + 3) ((u2 I (j + 2) (I j 4).toNatClampNeg v1) j 4).toNatClampNeg v2) j 4).toNatClampNeg v3) j 4) + (1 : Int32))) (u2 (u2 L j 5 ((L j 5) ||| ((1 : Int64) <<< (v1.toInt64 &&& 63)))) j 6 (((u2 L j 5 ((L j 5) ||| ((1 : Int64) <<< (v1.toInt64 &&& 63)))) j 6) ||| ((1 : Int64) <<< (v2.toInt64 &&& 63))))) ∧ (¬ v2 < (48 : Int32) → Q none S I L))))))))))) : ZW G mX4_addArc fX4_addArc lX4_addArc 0 [zo G j, .int v1, .int v2, .int v3] [] S I L bc bs Q := by
  refine zr_aload_n dX4_addArc_0 rfl rfl ?_
  refine zr_getIv (x := (I j 4)) dX4_addArc_1 zf_X4_25 rfl (hS.hasJ hj 0 rfl rfl rfl) rfl ?_
  refine zr_sipush (v := 576) dX4_addArc_4 (by decide) ?_
  refine zr_icge (tgt := 30) dX4_addArc_7 (by decide) (fun hb => ?_) (fun hb => ?_)
  · have k := k.1 hb
    exact zr_return_ dX4_addArc_30 rfl k
  · have k := k.2 hb
    refine zr_iload_n dX4_addArc_10 rfl rfl ?_
    refine zr_iflt (tgt := 30) dX4_addArc_11 (by decide) (fun hb => ?_) (fun hb => ?_)
    · have k := k.1 hb
      exact zr_return_ dX4_addArc_30 rfl k
    · have k := k.2 hb
      refine zr_iload_n dX4_addArc_14 rfl rfl ?_
      refine zr_bipush (v := 48) dX4_addArc_15 (by decide) ?_
      refine zr_icge (tgt := 30) dX4_addArc_17 (by decide) (fun hb => ?_) (fun hb => ?_)
      · have k := k.1 hb
        exact zr_return_ dX4_addArc_30 rfl k
      · have k := k.2 hb
        refine zr_iload_n dX4_addArc_20 rfl rfl ?_
        refine zr_iflt (tgt := 30) dX4_addArc_21 (by decide) (fun hb => ?_) (fun hb => ?_)
        · have k := k.1 hb
          exact zr_return_ dX4_addArc_30 rfl k
        · have k := k.2 hb
          refine zr_iload_n dX4_addArc_24 rfl rfl ?_
          refine zr_bipush (v := 48) dX4_addArc_25 (by decide) ?_
          refine zr_iclt (tgt := 31) dX4_addArc_27 (by decide) (fun hb => ?_) (fun hb => ?_)
          · have k := k.1 hb
            refine zr_aload_n dX4_addArc_31 rfl rfl ?_
            refine zr_getR dX4_addArc_32 zf_X4_15 rfl (hS.hasJ hj 0 rfl rfl rfl) (hS.refJ hj (d := 2) rfl rfl) ?_
            refine zr_aload_n dX4_addArc_35 rfl rfl ?_
            refine zr_getIv (x := (I j 4)) dX4_addArc_36 zf_X4_25 rfl (hS.hasJ hj 0 rfl rfl rfl) rfl ?_
            refine zr_iload_n dX4_addArc_39 rfl rfl ?_
            obtain ⟨hi1, k⟩ := k
            refine zr_iast dX4_addArc_40 (hS.hasJ hj 2 rfl rfl rfl) hi1 ?_
            refine zr_aload_n dX4_addArc_41 rfl rfl ?_
            refine zr_getR dX4_addArc_42 zf_X4_19 rfl (hS.hasJ hj 0 rfl rfl rfl) (hS.refJ hj (d := 3) rfl rfl) ?_
            refine zr_aload_n dX4_addArc_45 rfl rfl ?_
            refine zr_getIv (x := ((u2 I (j + 2) (I j 4).toNatClampNeg v1) j 4)) dX4_addArc_46 zf_X4_25 rfl (hS.hasJ hj 0 rfl rfl rfl) rfl ?_
            refine zr_iload_n dX4_addArc_49 rfl rfl ?_
            obtain ⟨hi2, k⟩ := k
            refine zr_iast dX4_addArc_50 (hS.hasJ hj 3 rfl rfl rfl) hi2 ?_
            refine zr_aload_n dX4_addArc_51 rfl rfl ?_
            refine zr_getR dX4_addArc_52 zf_X4_22 rfl (hS.hasJ hj 0 rfl rfl rfl) (hS.refJ hj (d := 4) rfl rfl) ?_
            refine zr_aload_n dX4_addArc_55 rfl rfl ?_
            refine zr_getIv (x := ((u2 (u2 I (j + 2) (I j 4).toNatClampNeg v1) (j + 3) ((u2 I (j + 2) (I j 4).toNatClampNeg v1) j 4).toNatClampNeg v2) j 4)) dX4_addArc_56 zf_X4_25 rfl (hS.hasJ hj 0 rfl rfl rfl) rfl ?_
            refine zr_iload_n dX4_addArc_59 rfl rfl ?_
            obtain ⟨hi3, k⟩ := k
            refine zr_iast dX4_addArc_60 (hS.hasJ hj 4 rfl rfl rfl) hi3 ?_
            refine zr_aload_n dX4_addArc_61 rfl rfl ?_
            refine zr_dup dX4_addArc_62 rfl ?_
            refine zr_getIv (x := ((u2 (u2 (u2 I (j + 2) (I j 4).toNatClampNeg v1) (j + 3) ((u2 I (j + 2) (I j 4).toNatClampNeg v1) j 4).toNatClampNeg v2) (j + 4) ((u2 (u2 I (j + 2) (I j 4).toNatClampNeg v1) (j + 3) ((u2 I (j + 2) (I j 4).toNatClampNeg v1) j 4).toNatClampNeg v2) j 4).toNatClampNeg v3) j 4)) dX4_addArc_63 zf_X4_25 rfl (hS.hasJ hj 0 rfl rfl rfl) rfl ?_
            refine zr_iconst (v := 1) dX4_addArc_66 (by decide) ?_
            refine zr_iadd dX4_addArc_67 ?_
            refine zr_putI dX4_addArc_68 zf_X4_25 rfl (hS.hasJ hj 0 rfl rfl rfl) rfl rfl ?_
            refine zr_aload_n dX4_addArc_71 rfl rfl ?_
            refine zr_dup dX4_addArc_72 rfl ?_
            refine zr_getJv (x := (L j 5)) dX4_addArc_73 zf_X4_29 rfl (hS.hasJ hj 0 rfl rfl rfl) rfl ?_
            refine zr_lconst (v := 1) dX4_addArc_76 (by decide) ?_
            refine zr_iload_n dX4_addArc_77 rfl rfl ?_
            refine zr_lshl dX4_addArc_78 rfl ?_
            refine zr_lor dX4_addArc_79 ?_
            refine zr_putJ dX4_addArc_80 zf_X4_29 rfl (hS.hasJ hj 0 rfl rfl rfl) rfl rfl ?_
            refine zr_aload_n dX4_addArc_83 rfl rfl ?_
            refine zr_dup dX4_addArc_84 rfl ?_
            refine zr_getJv (x := ((u2 L j 5 ((L j 5) ||| ((1 : Int64) <<< (v1.toInt64 &&& 63)))) j 6)) dX4_addArc_85 zf_X4_33 rfl (hS.hasJ hj 0 rfl rfl rfl) rfl ?_
            refine zr_lconst (v := 1) dX4_addArc_88 (by decide) ?_
            refine zr_iload_n dX4_addArc_89 rfl rfl ?_
            refine zr_lshl dX4_addArc_90 rfl ?_
            refine zr_lor dX4_addArc_91 ?_
            refine zr_putJ dX4_addArc_92 zf_X4_33 rfl (hS.hasJ hj 0 rfl rfl rfl) rfl rfl ?_
            exact zr_return_ dX4_addArc_95 rfl k
          · have k := k.2 hb
            exact zr_return_ dX4_addArc_30 rfl k
set_option maxHeartbeats 2000000 in
theorem vX4_has_0 {G : Gp} {bc bs : Nat} {Q : zPost} {S : zSh} {I : zFI} {L : zFL} {v0 : Int64} {v2 : Int32} (hS : zStd S)  (k : ((v2 < 0 → Q (some (.int (0 : Int32))) S I L) ∧ (¬ v2 < 0 → (((48 : Int32) ≤ v2 → Q (some (.int (0 : Int32))) S I L) ∧ (¬ (48 : Int32) ≤ v2 → ((¬ (lg_cmp ((v0 >>> (v2.toInt64 &&& 63)) &&& (1 : Int64)) (1 : Int64)) = 0 → Q (some (.int (0 : Int32))) S I L) ∧ ((lg_cmp ((v0 >>> (v2.toInt64 &&& 63)) &&& (1 : Int64)) (1 : Int64)) = 0 → Q (some (.int (1 : Int32))) S I L))))))) : ZW G mX4_has fX4_has lX4_has 0 [.long v0, .null, .int v2] [] S I L bc bs Q := by
  refine zr_iload_n dX4_has_0 rfl rfl ?_
  refine zr_iflt (tgt := 24) dX4_has_1 (by decide) (fun hb => ?_) (fun hb => ?_)
  · have k := k.1 hb
    refine zr_iconst (v := 0) dX4_has_24 (by decide) ?_
    exact zr_ireturn dX4_has_25 rfl rfl k
  · have k := k.2 hb
    refine zr_iload_n dX4_has_4 rfl rfl ?_
    refine zr_bipush (v := 48) dX4_has_5 (by decide) ?_
    refine zr_icge (tgt := 24) dX4_has_7 (by decide) (fun hb => ?_) (fun hb => ?_)
    · have k := k.1 hb
      refine zr_iconst (v := 0) dX4_has_24 (by decide) ?_
      exact zr_ireturn dX4_has_25 rfl rfl k
    · have k := k.2 hb
      refine zr_lload_n dX4_has_10 rfl rfl ?_
      refine zr_iload_n dX4_has_11 rfl rfl ?_
      refine zr_lshr dX4_has_12 rfl ?_
      refine zr_lconst (v := 1) dX4_has_13 (by decide) ?_
      refine zr_land dX4_has_14 ?_
      refine zr_lconst (v := 1) dX4_has_15 (by decide) ?_
      refine zr_lcmp dX4_has_16 ?_
      refine zr_ifne (tgt := 24) dX4_has_17 (by decide) (fun hb => ?_) (fun hb => ?_)
      · have k := k.1 hb
        refine zr_iconst (v := 0) dX4_has_24 (by decide) ?_
        exact zr_ireturn dX4_has_25 rfl rfl k
      · have k := k.2 hb
        refine zr_iconst (v := 1) dX4_has_20 (by decide) ?_
        refine zr_goto (tgt := 25) dX4_has_21 (by decide) ?_
        exact zr_ireturn dX4_has_25 rfl rfl k
def p_X4_has  (v0 : Int64) (v2 : Int32) : Int32 := (if v2 < 0 then (0 : Int32) else (if (48 : Int32) ≤ v2 then (0 : Int32) else (if (lg_cmp ((v0 >>> (v2.toInt64 &&& 63)) &&& (1 : Int64)) (1 : Int64)) = 0 then (1 : Int32) else (0 : Int32))))
set_option maxHeartbeats 2000000 in
theorem sp_X4_has {G : Gp} {Q : zPost} {S : zSh} {I : zFI} {L : zFL} {v0 : Int64} {v2 : Int32} (hS : zStd S)  (h : Q (some (.int (p_X4_has  v0 v2))) S I L) : ZC G mX4_has fX4_has lX4_has [.long v0, .int v2] S I L 0 0 Q := by
  refine ZC.of' (vX4_has_0 hS  ?_) rfl (Nat.le_of_ble_eq_true rfl) rfl
  unfold p_X4_has at h
  refine ⟨fun hb1 => ?_, fun hb1 => ?_⟩
  · rw [if_pos hb1] at h
    exact h
  · rw [if_neg hb1] at h
    refine ⟨fun hb2 => ?_, fun hb2 => ?_⟩
    · rw [if_pos hb2] at h
      exact h
    · rw [if_neg hb2] at h
      refine ⟨fun hb3 => ?_, fun hb3 => ?_⟩
      · rw [if_neg hb3] at h
        exact h
      · rw [if_pos hb3] at h
        exact h
theorem pb_X4_has  (v0 : Int64) (v2 : Int32) : p_X4_has  v0 v2 = 0 ∨ p_X4_has  v0 v2 = 1 := by
  unfold p_X4_has
  repeat' split
  all_goals first | exact Or.inl rfl | exact Or.inr rfl | assumption
set_option maxHeartbeats 2000000 in
theorem vX4_relax_0 {G : Gp} {bc bs : Nat} {Q : zPost} {S : zSh} {I : zFI} {L : zFL} {j : Nat} {v1 : Int32} {v2 : Int32} {v3 : Int32} (hS : zStd S) (hj : zJn j) (k : ((v1 < 0 → Q (some (.int (0 : Int32))) S I L) ∧ (¬ v1 < 0 → (((50 : Int32) ≤ v1 → Q (some (.int (0 : Int32))) S I L) ∧ (¬ (50 : Int32) ≤ v1 → ((v2 < 0 → Q (some (.int (0 : Int32))) S I L) ∧ (¬ v2 < 0 → ((v2 < (50 : Int32) → vp_in v2 50 ∧ (((I (j + 6) v2.toNatClampNeg) = (1000000 : Int32) → Q (some (.int (0 : Int32))) S I L) ∧ (¬ (I (j + 6) v2.toNatClampNeg) = (1000000 : Int32) → vp_in v1 50 ∧ ((((I (j + 6) v2.toNatClampNeg) + v3) < (I (j + 6) v1.toNatClampNeg) → Q (some (.int (1 : Int32))) S (u2 (u2 I (j + 6) v1.toNatClampNeg ((I (j + 6) v2.toNatClampNeg) + v3)) (j + 7) v1.toNatClampNeg v2) L) ∧ (¬ ((I (j + 6) v2.toNatClampNeg) + v3) < (I (j + 6) v1.toNatClampNeg) → Q (some (.int (0 : Int32))) S I L))))) ∧ (¬ v2 < (50 : Int32) → Q (some (.int (0 : Int32))) S I L))))))))) : ZW G mX4_relax fX4_relax lX4_relax 0 [zo G j, .int v1, .int v2, .int v3] [] S I L bc bs Q := by
  refine zr_iload_n dX4_relax_0 rfl rfl ?_
  refine zr_iflt (tgt := 20) dX4_relax_1 (by decide) (fun hb => ?_) (fun hb => ?_)
  · have k := k.1 hb
    refine zr_iconst (v := 0) dX4_relax_20 (by decide) ?_
    exact zr_ireturn dX4_relax_21 rfl rfl k
  · have k := k.2 hb
    refine zr_iload_n dX4_relax_4 rfl rfl ?_
    refine zr_bipush (v := 50) dX4_relax_5 (by decide) ?_
    refine zr_icge (tgt := 20) dX4_relax_7 (by decide) (fun hb => ?_) (fun hb => ?_)
    · have k := k.1 hb
      refine zr_iconst (v := 0) dX4_relax_20 (by decide) ?_
      exact zr_ireturn dX4_relax_21 rfl rfl k
    · have k := k.2 hb
      refine zr_iload_n dX4_relax_10 rfl rfl ?_
      refine zr_iflt (tgt := 20) dX4_relax_11 (by decide) (fun hb => ?_) (fun hb => ?_)
      · have k := k.1 hb
        refine zr_iconst (v := 0) dX4_relax_20 (by decide) ?_
        exact zr_ireturn dX4_relax_21 rfl rfl k
      · have k := k.2 hb
        refine zr_iload_n dX4_relax_14 rfl rfl ?_
        refine zr_bipush (v := 50) dX4_relax_15 (by decide) ?_
        refine zr_iclt (tgt := 22) dX4_relax_17 (by decide) (fun hb => ?_) (fun hb => ?_)
        · have k := k.1 hb
          refine zr_aload_n dX4_relax_22 rfl rfl ?_
          refine zr_getR dX4_relax_23 zf_X4_45 rfl (hS.hasJ hj 0 rfl rfl rfl) (hS.refJ hj (d := 6) rfl rfl) ?_
          refine zr_iload_n dX4_relax_26 rfl rfl ?_
          obtain ⟨hi1, k⟩ := k
          refine zr_ialdv (x := (I (j + 6) v2.toNatClampNeg)) dX4_relax_27 (hS.hasJ hj 6 rfl rfl rfl) hi1 rfl ?_
          refine zr_ldc dX4_relax_28 zk_X4_67 ?_
          refine zr_iceq (tgt := 50) dX4_relax_30 (by decide) (fun hb => ?_) (fun hb => ?_)
          · have k := k.1 hb
            refine zr_iconst (v := 0) dX4_relax_50 (by decide) ?_
            exact zr_ireturn dX4_relax_51 rfl rfl k
          · have k := k.2 hb
            refine zr_aload_n dX4_relax_33 rfl rfl ?_
            refine zr_getR dX4_relax_34 zf_X4_45 rfl (hS.hasJ hj 0 rfl rfl rfl) (hS.refJ hj (d := 6) rfl rfl) ?_
            refine zr_iload_n dX4_relax_37 rfl rfl ?_
            refine zr_ialdv (x := (I (j + 6) v2.toNatClampNeg)) dX4_relax_38 (hS.hasJ hj 6 rfl rfl rfl) hi1 rfl ?_
            refine zr_iload_n dX4_relax_39 rfl rfl ?_
            refine zr_iadd dX4_relax_40 ?_
            refine zr_aload_n dX4_relax_41 rfl rfl ?_
            refine zr_getR dX4_relax_42 zf_X4_45 rfl (hS.hasJ hj 0 rfl rfl rfl) (hS.refJ hj (d := 6) rfl rfl) ?_
            refine zr_iload_n dX4_relax_45 rfl rfl ?_
            obtain ⟨hi2, k⟩ := k
            refine zr_ialdv (x := (I (j + 6) v1.toNatClampNeg)) dX4_relax_46 (hS.hasJ hj 6 rfl rfl rfl) hi2 rfl ?_
            refine zr_iclt (tgt := 52) dX4_relax_47 (by decide) (fun hb => ?_) (fun hb => ?_)
            · have k := k.1 hb
              refine zr_aload_n dX4_relax_52 rfl rfl ?_
              refine zr_getR dX4_relax_53 zf_X4_45 rfl (hS.hasJ hj 0 rfl rfl rfl) (hS.refJ hj (d := 6) rfl rfl) ?_
              refine zr_iload_n dX4_relax_56 rfl rfl ?_
              refine zr_aload_n dX4_relax_57 rfl rfl ?_
              refine zr_getR dX4_relax_58 zf_X4_45 rfl (hS.hasJ hj 0 rfl rfl rfl) (hS.refJ hj (d := 6) rfl rfl) ?_
              refine zr_iload_n dX4_relax_61 rfl rfl ?_
              refine zr_ialdv (x := (I (j + 6) v2.toNatClampNeg)) dX4_relax_62 (hS.hasJ hj 6 rfl rfl rfl) hi1 rfl ?_
              refine zr_iload_n dX4_relax_63 rfl rfl ?_
              refine zr_iadd dX4_relax_64 ?_
              refine zr_iast dX4_relax_65 (hS.hasJ hj 6 rfl rfl rfl) hi2 ?_
              refine zr_aload_n dX4_relax_66 rfl rfl ?_
              refine zr_getR dX4_relax_67 zf_X4_48 rfl (hS.hasJ hj 0 rfl rfl rfl) (hS.refJ hj (d := 7) rfl rfl) ?_
              refine zr_iload_n dX4_relax_70 rfl rfl ?_
              refine zr_iload_n dX4_relax_71 rfl rfl ?_
              refine zr_iast dX4_relax_72 (hS.hasJ hj 7 rfl rfl rfl) hi2 ?_
              refine zr_iconst (v := 1) dX4_relax_73 (by decide) ?_
              exact zr_ireturn dX4_relax_74 rfl rfl k
            · have k := k.2 hb
              refine zr_iconst (v := 0) dX4_relax_50 (by decide) ?_
              exact zr_ireturn dX4_relax_51 rfl rfl k
        · have k := k.2 hb
          refine zr_iconst (v := 0) dX4_relax_20 (by decide) ?_
          exact zr_ireturn dX4_relax_21 rfl rfl k
set_option maxHeartbeats 2000000 in
theorem vX4_relaxArcs_0 {G : Gp} {bc bs : Nat} {Q : zPost} {S : zSh} {I : zFI} {L : zFL} {j : Nat} (hS : zStd S) (hj : zJn j) (k : ZW G mX4_relaxArcs fX4_relaxArcs lX4_relaxArcs 4 [zo G j, .int (0 : Int32), .int (0 : Int32), .null, .null] [] S I L bc bs Q) : ZW G mX4_relaxArcs fX4_relaxArcs lX4_relaxArcs 0 [zo G j, .null, .null, .null, .null] [] S I L bc bs Q := by
  refine zr_iconst (v := 0) dX4_relaxArcs_0 (by decide) ?_
  refine zr_istore_n dX4_relaxArcs_1 rfl (Nat.le_of_ble_eq_true rfl) rfl ?_
  refine zr_iconst (v := 0) dX4_relaxArcs_2 (by decide) ?_
  refine zr_istore_n dX4_relaxArcs_3 rfl (Nat.le_of_ble_eq_true rfl) rfl ?_
  exact k
set_option maxHeartbeats 2000000 in
theorem vX4_relaxArcs_4 {G : Gp} {bc bs : Nat} {Q : zPost} {S : zSh} {I : zFI} {L : zFL} {j : Nat} {v1 : Int32} {v2 : Int32} (hS : zStd S) (hj : zJn j) (k : (((I j 4) ≤ v2 → narrow .boolean (.int v1) = .int v1 ∧ Q (some (.int v1)) S I L) ∧ (¬ (I j 4) ≤ v2 → (((576 : Int32) ≤ v2 → narrow .boolean (.int v1) = .int v1 ∧ Q (some (.int v1)) S I L) ∧ (¬ (576 : Int32) ≤ v2 → vp_in v2 576 ∧ (((p_X4_has (L j 7) (I (j + 2) v2.toNatClampNeg)) = 0 → ((¬ (p_X11_pick I (j + 5) 48 (I (j + 2) v2.toNatClampNeg)) = (I (j + 3) v2.toNatClampNeg) → ZC G mX4_relax fX4_relax lX4_relax [zo G j, .int (I (j + 2) v2.toNatClampNeg), .int (I (j + 3) v2.toNatClampNeg), .int (I (j + 4) v2.toNatClampNeg)] S I L 0 0 (fun w S' I1 L1 => ∃ r1 : Int32, w = some (.int r1) ∧ S = S' ∧ ((¬ r1 = 0 → ZW G mX4_relaxArcs fX4_relaxArcs lX4_relaxArcs 4 [zo G j, .int (1 : Int32), .int (v2 + 1), .null, .null] [] S I1 L1 bc bs Q) ∧ (r1 = 0 → ((v1 = 0 → ZW G mX4_relaxArcs fX4_relaxArcs lX4_relaxArcs 4 [zo G j, .int (0 : Int32), .int (v2 + 1), .null, .null] [] S I1 L1 bc bs Q) ∧ (¬ v1 = 0 → ZW G mX4_relaxArcs fX4_relaxArcs lX4_relaxArcs 4 [zo G j, .int (1 : Int32), .int (v2 + 1), .null, .null] [] S I1 L1 bc bs Q)))))) ∧ ((p_X11_pick I (j + 5) 48 (I (j + 2) v2.toNatClampNeg)) = (I (j + 3) v2.toNatClampNeg) → ZC G mX4_relax fX4_relax lX4_relax [zo G j, .int (I (j + 3) v2.toNatClampNeg), .int (I (j + 2) v2.toNatClampNeg), .int (-(I (j + 4) v2.toNatClampNeg))] S I L 0 0 (fun w S' I2 L2 => ∃ r2 : Int32, w = some (.int r2) ∧ S = S' ∧ ((¬ r2 = 0 → ZW G mX4_relaxArcs fX4_relaxArcs lX4_relaxArcs 4 [zo G j, .int (1 : Int32), .int (v2 + 1), .null, .null] [] S I2 L2 bc bs Q) ∧ (r2 = 0 → ((v1 = 0 → ZW G mX4_relaxArcs fX4_relaxArcs lX4_relaxArcs 4 [zo G j, .int (0 : Int32), .int (v2 + 1), .null, .null] [] S I2 L2 bc bs Q) ∧ (¬ v1 = 0 → ZW G mX4_relaxArcs fX4_relaxArcs lX4_relaxArcs 4 [zo G j, .int (1 : Int32), .int (v2 + 1), .null, .null] [] S I2 L2 bc bs Q)))))))) ∧ (¬ (p_X4_has (L j 7) (I (j + 2) v2.toNatClampNeg)) = 0 → ZW G mX4_relaxArcs fX4_relaxArcs lX4_relaxArcs 4 [zo G j, .int v1, .int (v2 + 1), .null, .null] [] S I L bc bs Q))))))) : ZW G mX4_relaxArcs fX4_relaxArcs lX4_relaxArcs 4 [zo G j, .int v1, .int v2, .null, .null] [] S I L bc bs Q := by
  refine zr_iload_n dX4_relaxArcs_4 rfl rfl ?_
  refine zr_aload_n dX4_relaxArcs_5 rfl rfl ?_
  refine zr_getIv (x := (I j 4)) dX4_relaxArcs_6 zf_X4_25 rfl (hS.hasJ hj 0 rfl rfl rfl) rfl ?_
  refine zr_icge (tgt := 123) dX4_relaxArcs_9 (by decide) (fun hb => ?_) (fun hb => ?_)
  · have k := k.1 hb
    refine zr_iload_n dX4_relaxArcs_123 rfl rfl ?_
    exact zr_ireturn dX4_relaxArcs_124 rfl k.1 k.2
  · have k := k.2 hb
    refine zr_iload_n dX4_relaxArcs_12 rfl rfl ?_
    refine zr_sipush (v := 576) dX4_relaxArcs_13 (by decide) ?_
    refine zr_icge (tgt := 123) dX4_relaxArcs_16 (by decide) (fun hb => ?_) (fun hb => ?_)
    · have k := k.1 hb
      refine zr_iload_n dX4_relaxArcs_123 rfl rfl ?_
      exact zr_ireturn dX4_relaxArcs_124 rfl k.1 k.2
    · have k := k.2 hb
      refine zr_aload_n dX4_relaxArcs_19 rfl rfl ?_
      refine zr_getR dX4_relaxArcs_20 zf_X4_15 rfl (hS.hasJ hj 0 rfl rfl rfl) (hS.refJ hj (d := 2) rfl rfl) ?_
      refine zr_iload_n dX4_relaxArcs_23 rfl rfl ?_
      obtain ⟨hi1, k⟩ := k
      refine zr_ialdv (x := (I (j + 2) v2.toNatClampNeg)) dX4_relaxArcs_24 (hS.hasJ hj 2 rfl rfl rfl) hi1 rfl ?_
      refine zr_istore_n dX4_relaxArcs_25 rfl (Nat.le_of_ble_eq_true rfl) rfl ?_
      refine zr_aload_n dX4_relaxArcs_26 rfl rfl ?_
      refine zr_getR dX4_relaxArcs_27 zf_X4_19 rfl (hS.hasJ hj 0 rfl rfl rfl) (hS.refJ hj (d := 3) rfl rfl) ?_
      refine zr_iload_n dX4_relaxArcs_30 rfl rfl ?_
      refine zr_ialdv (x := (I (j + 3) v2.toNatClampNeg)) dX4_relaxArcs_31 (hS.hasJ hj 3 rfl rfl rfl) hi1 rfl ?_
      refine zr_istore dX4_relaxArcs_32 (Nat.le_of_ble_eq_true rfl) rfl ?_
      refine zr_aload_n dX4_relaxArcs_34 rfl rfl ?_
      refine zr_getJv (x := (L j 7)) dX4_relaxArcs_35 zf_X4_36 rfl (hS.hasJ hj 0 rfl rfl rfl) rfl ?_
      refine zr_iload_n dX4_relaxArcs_38 rfl rfl ?_
      refine zr_callS (As := [.long (L j 7), .int (I (j + 2) v2.toNatClampNeg)]) (fr' := fX4_has) (lo' := lX4_has) (bc' := 0) (bs' := 0) (bcr := bc) (bsr := bs) dX4_relaxArcs_39 zs_X4_72 zst_X4_has rfl rfl (Nat.le_of_ble_eq_true rfl) (Nat.le_of_ble_eq_true rfl) (Nat.le_of_ble_eq_true rfl) (Nat.le_refl _) (Nat.le_refl _) ?_
      refine sp_X4_has hS  ?_
      show ZW G mX4_relaxArcs fX4_relaxArcs lX4_relaxArcs 42 [zo G j, .int v1, .int v2, .int (I (j + 2) v2.toNatClampNeg), .int (I (j + 3) v2.toNatClampNeg)] [.int (p_X4_has (L j 7) (I (j + 2) v2.toNatClampNeg))] S I L bc bs Q
      refine zr_ifeq (tgt := 48) dX4_relaxArcs_42 (by decide) (fun hb => ?_) (fun hb => ?_)
      · have k := k.1 hb
        refine zr_aload_n dX4_relaxArcs_48 rfl rfl ?_
        refine zr_getR dX4_relaxArcs_49 zf_X4_42 rfl (hS.hasJ hj 0 rfl rfl rfl) (hS.refJ hj (d := 5) rfl rfl) ?_
        refine zr_iload_n dX4_relaxArcs_52 rfl rfl ?_
        refine zr_callSN (As := [zo G (j + 5), .int (I (j + 2) v2.toNatClampNeg)]) (fr' := fX11_pick) (lo' := lX11_pick) (bc' := 0) (bs' := 0) (bcr := bc) (bsr := bs) dX4_relaxArcs_53 zsn_X4_83 zst_X11_pick rfl rfl (Nat.le_of_ble_eq_true rfl) (Nat.le_of_ble_eq_true rfl) (Nat.le_of_ble_eq_true rfl) (Nat.le_refl _) (Nat.le_refl _) ?_
        refine sp_X11_pick hS (hS.hasJ hj 5 rfl rfl rfl) rfl ?_
        show ZW G mX4_relaxArcs fX4_relaxArcs lX4_relaxArcs 56 [zo G j, .int v1, .int v2, .int (I (j + 2) v2.toNatClampNeg), .int (I (j + 3) v2.toNatClampNeg)] [.int (p_X11_pick I (j + 5) 48 (I (j + 2) v2.toNatClampNeg))] S I L bc bs Q
        refine zr_iload dX4_relaxArcs_56 rfl ?_
        refine zr_icne (tgt := 91) dX4_relaxArcs_58 (by decide) (fun hb => ?_) (fun hb => ?_)
        · have k := k.1 hb
          refine zr_aload_n dX4_relaxArcs_91 rfl rfl ?_
          refine zr_iload_n dX4_relaxArcs_92 rfl rfl ?_
          refine zr_iload dX4_relaxArcs_93 rfl ?_
          refine zr_aload_n dX4_relaxArcs_95 rfl rfl ?_
          refine zr_getR dX4_relaxArcs_96 zf_X4_22 rfl (hS.hasJ hj 0 rfl rfl rfl) (hS.refJ hj (d := 4) rfl rfl) ?_
          refine zr_iload_n dX4_relaxArcs_99 rfl rfl ?_
          refine zr_ialdv (x := (I (j + 4) v2.toNatClampNeg)) dX4_relaxArcs_100 (hS.hasJ hj 4 rfl rfl rfl) hi1 rfl ?_
          refine zr_callV (As := [.int (I (j + 2) v2.toNatClampNeg), .int (I (j + 3) v2.toNatClampNeg), .int (I (j + 4) v2.toNatClampNeg)]) (fr' := fX4_relax) (lo' := lX4_relax) (bc' := 0) (bs' := 0) (bcr := bc) (bsr := bs) dX4_relaxArcs_101 zs_X4_103 zi_X4_relax zcl_4 (hS.hasJ hj 0 rfl rfl rfl) rfl rfl (Nat.le_of_ble_eq_true rfl) (Nat.le_of_ble_eq_true rfl) (Nat.le_of_ble_eq_true rfl) (Nat.le_refl _) (Nat.le_refl _) ?_
          refine ZC.mono (fun w S' I1 L1 k => ?_) k
          obtain ⟨r1, rfl, rfl, k⟩ := k
          show ZW G mX4_relaxArcs fX4_relaxArcs lX4_relaxArcs 104 [zo G j, .int v1, .int v2, .int (I (j + 2) v2.toNatClampNeg), .int (I (j + 3) v2.toNatClampNeg)] [.int r1] S I1 L1 bc bs Q
          refine zr_ifne (tgt := 111) dX4_relaxArcs_104 (by decide) (fun hb => ?_) (fun hb => ?_)
          · have k := k.1 hb
            refine zr_iconst (v := 1) dX4_relaxArcs_111 (by decide) ?_
            refine zr_goto (tgt := 116) dX4_relaxArcs_112 (by decide) ?_
            refine zr_istore_n dX4_relaxArcs_116 rfl (Nat.le_of_ble_eq_true rfl) rfl ?_
            refine zr_iinc (v := (v2 + 1)) dX4_relaxArcs_117 rfl rfl (Nat.le_of_ble_eq_true rfl) rfl ?_
            refine zr_goto (tgt := 4) dX4_relaxArcs_120 (by decide) ?_
            exact zr_mask [true, true, true, false, false] rfl k
          · have k := k.2 hb
            refine zr_iload_n dX4_relaxArcs_107 rfl rfl ?_
            refine zr_ifeq (tgt := 115) dX4_relaxArcs_108 (by decide) (fun hb => ?_) (fun hb => ?_)
            · have k := k.1 hb
              refine zr_iconst (v := 0) dX4_relaxArcs_115 (by decide) ?_
              refine zr_istore_n dX4_relaxArcs_116 rfl (Nat.le_of_ble_eq_true rfl) rfl ?_
              refine zr_iinc (v := (v2 + 1)) dX4_relaxArcs_117 rfl rfl (Nat.le_of_ble_eq_true rfl) rfl ?_
              refine zr_goto (tgt := 4) dX4_relaxArcs_120 (by decide) ?_
              exact zr_mask [true, true, true, false, false] rfl k
            · have k := k.2 hb
              refine zr_iconst (v := 1) dX4_relaxArcs_111 (by decide) ?_
              refine zr_goto (tgt := 116) dX4_relaxArcs_112 (by decide) ?_
              refine zr_istore_n dX4_relaxArcs_116 rfl (Nat.le_of_ble_eq_true rfl) rfl ?_
              refine zr_iinc (v := (v2 + 1)) dX4_relaxArcs_117 rfl rfl (Nat.le_of_ble_eq_true rfl) rfl ?_
              refine zr_goto (tgt := 4) dX4_relaxArcs_120 (by decide) ?_
              exact zr_mask [true, true, true, false, false] rfl k
        · have k := k.2 hb
          refine zr_aload_n dX4_relaxArcs_61 rfl rfl ?_
          refine zr_iload dX4_relaxArcs_62 rfl ?_
          refine zr_iload_n dX4_relaxArcs_64 rfl rfl ?_
          refine zr_aload_n dX4_relaxArcs_65 rfl rfl ?_
          refine zr_getR dX4_relaxArcs_66 zf_X4_22 rfl (hS.hasJ hj 0 rfl rfl rfl) (hS.refJ hj (d := 4) rfl rfl) ?_
          refine zr_iload_n dX4_relaxArcs_69 rfl rfl ?_
          refine zr_ialdv (x := (I (j + 4) v2.toNatClampNeg)) dX4_relaxArcs_70 (hS.hasJ hj 4 rfl rfl rfl) hi1 rfl ?_
          refine zr_ineg dX4_relaxArcs_71 ?_
          refine zr_callV (As := [.int (I (j + 3) v2.toNatClampNeg), .int (I (j + 2) v2.toNatClampNeg), .int (-(I (j + 4) v2.toNatClampNeg))]) (fr' := fX4_relax) (lo' := lX4_relax) (bc' := 0) (bs' := 0) (bcr := bc) (bsr := bs) dX4_relaxArcs_72 zs_X4_103 zi_X4_relax zcl_4 (hS.hasJ hj 0 rfl rfl rfl) rfl rfl (Nat.le_of_ble_eq_true rfl) (Nat.le_of_ble_eq_true rfl) (Nat.le_of_ble_eq_true rfl) (Nat.le_refl _) (Nat.le_refl _) ?_
          refine ZC.mono (fun w S' I2 L2 k => ?_) k
          obtain ⟨r2, rfl, rfl, k⟩ := k
          show ZW G mX4_relaxArcs fX4_relaxArcs lX4_relaxArcs 75 [zo G j, .int v1, .int v2, .int (I (j + 2) v2.toNatClampNeg), .int (I (j + 3) v2.toNatClampNeg)] [.int r2] S I2 L2 bc bs Q
          refine zr_ifne (tgt := 82) dX4_relaxArcs_75 (by decide) (fun hb => ?_) (fun hb => ?_)
          · have k := k.1 hb
            refine zr_iconst (v := 1) dX4_relaxArcs_82 (by decide) ?_
            refine zr_goto (tgt := 87) dX4_relaxArcs_83 (by decide) ?_
            refine zr_istore_n dX4_relaxArcs_87 rfl (Nat.le_of_ble_eq_true rfl) rfl ?_
            refine zr_goto (tgt := 117) dX4_relaxArcs_88 (by decide) ?_
            refine zr_iinc (v := (v2 + 1)) dX4_relaxArcs_117 rfl rfl (Nat.le_of_ble_eq_true rfl) rfl ?_
            refine zr_goto (tgt := 4) dX4_relaxArcs_120 (by decide) ?_
            exact zr_mask [true, true, true, false, false] rfl k
          · have k := k.2 hb
            refine zr_iload_n dX4_relaxArcs_78 rfl rfl ?_
            refine zr_ifeq (tgt := 86) dX4_relaxArcs_79 (by decide) (fun hb => ?_) (fun hb => ?_)
            · have k := k.1 hb
              refine zr_iconst (v := 0) dX4_relaxArcs_86 (by decide) ?_
              refine zr_istore_n dX4_relaxArcs_87 rfl (Nat.le_of_ble_eq_true rfl) rfl ?_
              refine zr_goto (tgt := 117) dX4_relaxArcs_88 (by decide) ?_
              refine zr_iinc (v := (v2 + 1)) dX4_relaxArcs_117 rfl rfl (Nat.le_of_ble_eq_true rfl) rfl ?_
              refine zr_goto (tgt := 4) dX4_relaxArcs_120 (by decide) ?_
              exact zr_mask [true, true, true, false, false] rfl k
            · have k := k.2 hb
              refine zr_iconst (v := 1) dX4_relaxArcs_82 (by decide) ?_
              refine zr_goto (tgt := 87) dX4_relaxArcs_83 (by decide) ?_
              refine zr_istore_n dX4_relaxArcs_87 rfl (Nat.le_of_ble_eq_true rfl) rfl ?_
              refine zr_goto (tgt := 117) dX4_relaxArcs_88 (by decide) ?_
              refine zr_iinc (v := (v2 + 1)) dX4_relaxArcs_117 rfl rfl (Nat.le_of_ble_eq_true rfl) rfl ?_
              refine zr_goto (tgt := 4) dX4_relaxArcs_120 (by decide) ?_
              exact zr_mask [true, true, true, false, false] rfl k
      · have k := k.2 hb
        refine zr_goto (tgt := 117) dX4_relaxArcs_45 (by decide) ?_
        refine zr_iinc (v := (v2 + 1)) dX4_relaxArcs_117 rfl rfl (Nat.le_of_ble_eq_true rfl) rfl ?_
        refine zr_goto (tgt := 4) dX4_relaxArcs_120 (by decide) ?_
        exact zr_mask [true, true, true, false, false] rfl k
set_option maxHeartbeats 2000000 in
theorem vX4_relaxEnds_0 {G : Gp} {bc bs : Nat} {Q : zPost} {S : zSh} {I : zFI} {L : zFL} {j : Nat} (hS : zStd S) (hj : zJn j) (k : ZW G mX4_relaxEnds fX4_relaxEnds lX4_relaxEnds 4 [zo G j, .int (0 : Int32), .int (0 : Int32), .null] [] S I L bc bs Q) : ZW G mX4_relaxEnds fX4_relaxEnds lX4_relaxEnds 0 [zo G j, .null, .null, .null] [] S I L bc bs Q := by
  refine zr_iconst (v := 0) dX4_relaxEnds_0 (by decide) ?_
  refine zr_istore_n dX4_relaxEnds_1 rfl (Nat.le_of_ble_eq_true rfl) rfl ?_
  refine zr_iconst (v := 0) dX4_relaxEnds_2 (by decide) ?_
  refine zr_istore_n dX4_relaxEnds_3 rfl (Nat.le_of_ble_eq_true rfl) rfl ?_
  exact k
set_option maxHeartbeats 2000000 in
theorem vX4_relaxEnds_4 {G : Gp} {bc bs : Nat} {Q : zPost} {S : zSh} {I : zFI} {L : zFL} {j : Nat} {v1 : Int32} {v2 : Int32} (hS : zStd S) (hj : zJn j) (k : (((48 : Int32) ≤ v2 → narrow .boolean (.int v1) = .int v1 ∧ Q (some (.int v1)) S I L) ∧ (¬ (48 : Int32) ≤ v2 → (((p_X4_has (L j 7) v2) = 0 → vp_in v2 48 ∧ ((¬ (I (j + 5) v2.toNatClampNeg) = (-1 : Int32) → (((p_X4_has (L j 5) v2) = 0 → (((p_X4_has (L j 6) v2) = 0 → ZW G mX4_relaxEnds fX4_relaxEnds lX4_relaxEnds 4 [zo G j, .int v1, .int (v2 + 1), .null] [] S I L bc bs Q) ∧ (¬ (p_X4_has (L j 6) v2) = 0 → (((0 : Int32) = 0 → ZC G mX4_relax fX4_relax lX4_relax [zo G j, .int (49 : Int32), .int v2, .int (0 : Int32)] S I L 0 0 (fun w S' I1 L1 => ∃ r1 : Int32, w = some (.int r1) ∧ S = S' ∧ ((¬ r1 = 0 → ZW G mX4_relaxEnds fX4_relaxEnds lX4_relaxEnds 4 [zo G j, .int (1 : Int32), .int (v2 + 1), .null] [] S I1 L1 bc bs Q) ∧ (r1 = 0 → ((v1 = 0 → ZW G mX4_relaxEnds fX4_relaxEnds lX4_relaxEnds 4 [zo G j, .int (0 : Int32), .int (v2 + 1), .null] [] S I1 L1 bc bs Q) ∧ (¬ v1 = 0 → ZW G mX4_relaxEnds fX4_relaxEnds lX4_relaxEnds 4 [zo G j, .int (1 : Int32), .int (v2 + 1), .null] [] S I1 L1 bc bs Q)))))) ∧ (¬ (0 : Int32) = 0 → ZC G mX4_relax fX4_relax lX4_relax [zo G j, .int v2, .int (49 : Int32), .int (0 : Int32)] S I L 0 0 (fun w S' I2 L2 => ∃ r2 : Int32, w = some (.int r2) ∧ S = S' ∧ ((r2 = 0 → ((v1 = 0 → ZW G mX4_relaxEnds fX4_relaxEnds lX4_relaxEnds 4 [zo G j, .int (0 : Int32), .int (v2 + 1), .null] [] S I2 L2 bc bs Q) ∧ (¬ v1 = 0 → ZW G mX4_relaxEnds fX4_relaxEnds lX4_relaxEnds 4 [zo G j, .int (1 : Int32), .int (v2 + 1), .null] [] S I2 L2 bc bs Q))) ∧ (¬ r2 = 0 → ZW G mX4_relaxEnds fX4_relaxEnds lX4_relaxEnds 4 [zo G j, .int (1 : Int32), .int (v2 + 1), .null] [] S I2 L2 bc bs Q)))))))) ∧ (¬ (p_X4_has (L j 5) v2) = 0 → (((0 : Int32) = 0 → ZC G mX4_relax fX4_relax lX4_relax [zo G j, .int v2, .int (48 : Int32), .int (0 : Int32)] S I L 0 0 (fun w S' I3 L3 => ∃ r3 : Int32, w = some (.int r3) ∧ S = S' ∧ ((¬ r3 = 0 → ZW G mX4_relaxEnds fX4_relaxEnds lX4_relaxEnds 4 [zo G j, .int (1 : Int32), .int (v2 + 1), .null] [] S I3 L3 bc bs Q) ∧ (r3 = 0 → ((v1 = 0 → ZW G mX4_relaxEnds fX4_relaxEnds lX4_relaxEnds 4 [zo G j, .int (0 : Int32), .int (v2 + 1), .null] [] S I3 L3 bc bs Q) ∧ (¬ v1 = 0 → ZW G mX4_relaxEnds fX4_relaxEnds lX4_relaxEnds 4 [zo G j, .int (1 : Int32), .int (v2 + 1), .null] [] S I3 L3 bc bs Q)))))) ∧ (¬ (0 : Int32) = 0 → ZC G mX4_relax fX4_relax lX4_relax [zo G j, .int (48 : Int32), .int v2, .int (0 : Int32)] S I L 0 0 (fun w S' I4 L4 => ∃ r4 : Int32, w = some (.int r4) ∧ S = S' ∧ ((r4 = 0 → ((v1 = 0 → ZW G mX4_relaxEnds fX4_relaxEnds lX4_relaxEnds 4 [zo G j, .int (0 : Int32), .int (v2 + 1), .null] [] S I4 L4 bc bs Q) ∧ (¬ v1 = 0 → ZW G mX4_relaxEnds fX4_relaxEnds lX4_relaxEnds 4 [zo G j, .int (1 : Int32), .int (v2 + 1), .null] [] S I4 L4 bc bs Q))) ∧ (¬ r4 = 0 → ZW G mX4_relaxEnds fX4_relaxEnds lX4_relaxEnds 4 [zo G j, .int (1 : Int32), .int (v2 + 1), .null] [] S I4 L4 bc bs Q)))))))) ∧ ((I (j + 5) v2.toNatClampNeg) = (-1 : Int32) → (((p_X4_has (L j 5) v2) = 0 → (((p_X4_has (L j 6) v2) = 0 → ZW G mX4_relaxEnds fX4_relaxEnds lX4_relaxEnds 4 [zo G j, .int v1, .int (v2 + 1), .null] [] S I L bc bs Q) ∧ (¬ (p_X4_has (L j 6) v2) = 0 → (((1 : Int32) = 0 → ZC G mX4_relax fX4_relax lX4_relax [zo G j, .int (49 : Int32), .int v2, .int (0 : Int32)] S I L 0 0 (fun w S' I5 L5 => ∃ r5 : Int32, w = some (.int r5) ∧ S = S' ∧ ((¬ r5 = 0 → ZW G mX4_relaxEnds fX4_relaxEnds lX4_relaxEnds 4 [zo G j, .int (1 : Int32), .int (v2 + 1), .null] [] S I5 L5 bc bs Q) ∧ (r5 = 0 → ((v1 = 0 → ZW G mX4_relaxEnds fX4_relaxEnds lX4_relaxEnds 4 [zo G j, .int (0 : Int32), .int (v2 + 1), .null] [] S I5 L5 bc bs Q) ∧ (¬ v1 = 0 → ZW G mX4_relaxEnds fX4_relaxEnds lX4_relaxEnds 4 [zo G j, .int (1 : Int32), .int (v2 + 1), .null] [] S I5 L5 bc bs Q)))))) ∧ (¬ (1 : Int32) = 0 → ZC G mX4_relax fX4_relax lX4_relax [zo G j, .int v2, .int (49 : Int32), .int (0 : Int32)] S I L 0 0 (fun w S' I6 L6 => ∃ r6 : Int32, w = some (.int r6) ∧ S = S' ∧ ((r6 = 0 → ((v1 = 0 → ZW G mX4_relaxEnds fX4_relaxEnds lX4_relaxEnds 4 [zo G j, .int (0 : Int32), .int (v2 + 1), .null] [] S I6 L6 bc bs Q) ∧ (¬ v1 = 0 → ZW G mX4_relaxEnds fX4_relaxEnds lX4_relaxEnds 4 [zo G j, .int (1 : Int32), .int (v2 + 1), .null] [] S I6 L6 bc bs Q))) ∧ (¬ r6 = 0 → ZW G mX4_relaxEnds fX4_relaxEnds lX4_relaxEnds 4 [zo G j, .int (1 : Int32), .int (v2 + 1), .null] [] S I6 L6 bc bs Q)))))))) ∧ (¬ (p_X4_has (L j 5) v2) = 0 → (((1 : Int32) = 0 → ZC G mX4_relax fX4_relax lX4_relax [zo G j, .int v2, .int (48 : Int32), .int (0 : Int32)] S I L 0 0 (fun w S' I7 L7 => ∃ r7 : Int32, w = some (.int r7) ∧ S = S' ∧ ((¬ r7 = 0 → ZW G mX4_relaxEnds fX4_relaxEnds lX4_relaxEnds 4 [zo G j, .int (1 : Int32), .int (v2 + 1), .null] [] S I7 L7 bc bs Q) ∧ (r7 = 0 → ((v1 = 0 → ZW G mX4_relaxEnds fX4_relaxEnds lX4_relaxEnds 4 [zo G j, .int (0 : Int32), .int (v2 + 1), .null] [] S I7 L7 bc bs Q) ∧ (¬ v1 = 0 → ZW G mX4_relaxEnds fX4_relaxEnds lX4_relaxEnds 4 [zo G j, .int (1 : Int32), .int (v2 + 1), .null] [] S I7 L7 bc bs Q)))))) ∧ (¬ (1 : Int32) = 0 → ZC G mX4_relax fX4_relax lX4_relax [zo G j, .int (48 : Int32), .int v2, .int (0 : Int32)] S I L 0 0 (fun w S' I8 L8 => ∃ r8 : Int32, w = some (.int r8) ∧ S = S' ∧ ((r8 = 0 → ((v1 = 0 → ZW G mX4_relaxEnds fX4_relaxEnds lX4_relaxEnds 4 [zo G j, .int (0 : Int32), .int (v2 + 1), .null] [] S I8 L8 bc bs Q) ∧ (¬ v1 = 0 → ZW G mX4_relaxEnds fX4_relaxEnds lX4_relaxEnds 4 [zo G j, .int (1 : Int32), .int (v2 + 1), .null] [] S I8 L8 bc bs Q))) ∧ (¬ r8 = 0 → ZW G mX4_relaxEnds fX4_relaxEnds lX4_relaxEnds 4 [zo G j, .int (1 : Int32), .int (v2 + 1), .null] [] S I8 L8 bc bs Q)))))))))) ∧ (¬ (p_X4_has (L j 7) v2) = 0 → ZW G mX4_relaxEnds fX4_relaxEnds lX4_relaxEnds 4 [zo G j, .int v1, .int (v2 + 1), .null] [] S I L bc bs Q))))) : ZW G mX4_relaxEnds fX4_relaxEnds lX4_relaxEnds 4 [zo G j, .int v1, .int v2, .null] [] S I L bc bs Q := by
  refine zr_iload_n dX4_relaxEnds_4 rfl rfl ?_
  refine zr_bipush (v := 48) dX4_relaxEnds_5 (by decide) ?_
  refine zr_icge (tgt := 149) dX4_relaxEnds_7 (by decide) (fun hb => ?_) (fun hb => ?_)
  · have k := k.1 hb
    refine zr_iload_n dX4_relaxEnds_149 rfl rfl ?_
    exact zr_ireturn dX4_relaxEnds_150 rfl k.1 k.2
  · have k := k.2 hb
    refine zr_aload_n dX4_relaxEnds_10 rfl rfl ?_
    refine zr_getJv (x := (L j 7)) dX4_relaxEnds_11 zf_X4_36 rfl (hS.hasJ hj 0 rfl rfl rfl) rfl ?_
    refine zr_iload_n dX4_relaxEnds_14 rfl rfl ?_
    refine zr_callS (As := [.long (L j 7), .int v2]) (fr' := fX4_has) (lo' := lX4_has) (bc' := 0) (bs' := 0) (bcr := bc) (bsr := bs) dX4_relaxEnds_15 zs_X4_72 zst_X4_has rfl rfl (Nat.le_of_ble_eq_true rfl) (Nat.le_of_ble_eq_true rfl) (Nat.le_of_ble_eq_true rfl) (Nat.le_refl _) (Nat.le_refl _) ?_
    refine sp_X4_has hS  ?_
    show ZW G mX4_relaxEnds fX4_relaxEnds lX4_relaxEnds 18 [zo G j, .int v1, .int v2, .null] [.int (p_X4_has (L j 7) v2)] S I L bc bs Q
    refine zr_ifeq (tgt := 24) dX4_relaxEnds_18 (by decide) (fun hb => ?_) (fun hb => ?_)
    · have k := k.1 hb
      refine zr_aload_n dX4_relaxEnds_24 rfl rfl ?_
      refine zr_getR dX4_relaxEnds_25 zf_X4_42 rfl (hS.hasJ hj 0 rfl rfl rfl) (hS.refJ hj (d := 5) rfl rfl) ?_
      refine zr_iload_n dX4_relaxEnds_28 rfl rfl ?_
      obtain ⟨hi1, k⟩ := k
      refine zr_ialdv (x := (I (j + 5) v2.toNatClampNeg)) dX4_relaxEnds_29 (hS.hasJ hj 5 rfl rfl rfl) hi1 rfl ?_
      refine zr_iconst (v := -1) dX4_relaxEnds_30 (by decide) ?_
      refine zr_icne (tgt := 38) dX4_relaxEnds_31 (by decide) (fun hb => ?_) (fun hb => ?_)
      · have k := k.1 hb
        refine zr_iconst (v := 0) dX4_relaxEnds_38 (by decide) ?_
        refine zr_istore_n dX4_relaxEnds_39 rfl (Nat.le_of_ble_eq_true rfl) rfl ?_
        refine zr_aload_n dX4_relaxEnds_40 rfl rfl ?_
        refine zr_getJv (x := (L j 5)) dX4_relaxEnds_41 zf_X4_29 rfl (hS.hasJ hj 0 rfl rfl rfl) rfl ?_
        refine zr_iload_n dX4_relaxEnds_44 rfl rfl ?_
        refine zr_callS (As := [.long (L j 5), .int v2]) (fr' := fX4_has) (lo' := lX4_has) (bc' := 0) (bs' := 0) (bcr := bc) (bsr := bs) dX4_relaxEnds_45 zs_X4_72 zst_X4_has rfl rfl (Nat.le_of_ble_eq_true rfl) (Nat.le_of_ble_eq_true rfl) (Nat.le_of_ble_eq_true rfl) (Nat.le_refl _) (Nat.le_refl _) ?_
        refine sp_X4_has hS  ?_
        show ZW G mX4_relaxEnds fX4_relaxEnds lX4_relaxEnds 48 [zo G j, .int v1, .int v2, .int (0 : Int32)] [.int (p_X4_has (L j 5) v2)] S I L bc bs Q
        refine zr_ifeq (tgt := 93) dX4_relaxEnds_48 (by decide) (fun hb => ?_) (fun hb => ?_)
        · have k := k.1 hb
          refine zr_aload_n dX4_relaxEnds_93 rfl rfl ?_
          refine zr_getJv (x := (L j 6)) dX4_relaxEnds_94 zf_X4_33 rfl (hS.hasJ hj 0 rfl rfl rfl) rfl ?_
          refine zr_iload_n dX4_relaxEnds_97 rfl rfl ?_
          refine zr_callS (As := [.long (L j 6), .int v2]) (fr' := fX4_has) (lo' := lX4_has) (bc' := 0) (bs' := 0) (bcr := bc) (bsr := bs) dX4_relaxEnds_98 zs_X4_72 zst_X4_has rfl rfl (Nat.le_of_ble_eq_true rfl) (Nat.le_of_ble_eq_true rfl) (Nat.le_of_ble_eq_true rfl) (Nat.le_refl _) (Nat.le_refl _) ?_
          refine sp_X4_has hS  ?_
          show ZW G mX4_relaxEnds fX4_relaxEnds lX4_relaxEnds 101 [zo G j, .int v1, .int v2, .int (0 : Int32)] [.int (p_X4_has (L j 6) v2)] S I L bc bs Q
          refine zr_ifeq (tgt := 143) dX4_relaxEnds_101 (by decide) (fun hb => ?_) (fun hb => ?_)
          · have k := k.1 hb
            refine zr_iinc (v := (v2 + 1)) dX4_relaxEnds_143 rfl rfl (Nat.le_of_ble_eq_true rfl) rfl ?_
            refine zr_goto (tgt := 4) dX4_relaxEnds_146 (by decide) ?_
            exact zr_mask [true, true, true, false] rfl k
          · have k := k.2 hb
            refine zr_iload_n dX4_relaxEnds_104 rfl rfl ?_
            refine zr_ifeq (tgt := 122) dX4_relaxEnds_105 (by decide) (fun hb => ?_) (fun hb => ?_)
            · have k := k.1 hb
              refine zr_aload_n dX4_relaxEnds_122 rfl rfl ?_
              refine zr_bipush (v := 49) dX4_relaxEnds_123 (by decide) ?_
              refine zr_iload_n dX4_relaxEnds_125 rfl rfl ?_
              refine zr_iconst (v := 0) dX4_relaxEnds_126 (by decide) ?_
              refine zr_callV (As := [.int (49 : Int32), .int v2, .int (0 : Int32)]) (fr' := fX4_relax) (lo' := lX4_relax) (bc' := 0) (bs' := 0) (bcr := bc) (bsr := bs) dX4_relaxEnds_127 zs_X4_103 zi_X4_relax zcl_4 (hS.hasJ hj 0 rfl rfl rfl) rfl rfl (Nat.le_of_ble_eq_true rfl) (Nat.le_of_ble_eq_true rfl) (Nat.le_of_ble_eq_true rfl) (Nat.le_refl _) (Nat.le_refl _) ?_
              refine ZC.mono (fun w S' I1 L1 k => ?_) k
              obtain ⟨r1, rfl, rfl, k⟩ := k
              show ZW G mX4_relaxEnds fX4_relaxEnds lX4_relaxEnds 130 [zo G j, .int v1, .int v2, .int (0 : Int32)] [.int r1] S I1 L1 bc bs Q
              refine zr_ifne (tgt := 137) dX4_relaxEnds_130 (by decide) (fun hb => ?_) (fun hb => ?_)
              · have k := k.1 hb
                refine zr_iconst (v := 1) dX4_relaxEnds_137 (by decide) ?_
                refine zr_goto (tgt := 142) dX4_relaxEnds_138 (by decide) ?_
                refine zr_istore_n dX4_relaxEnds_142 rfl (Nat.le_of_ble_eq_true rfl) rfl ?_
                refine zr_iinc (v := (v2 + 1)) dX4_relaxEnds_143 rfl rfl (Nat.le_of_ble_eq_true rfl) rfl ?_
                refine zr_goto (tgt := 4) dX4_relaxEnds_146 (by decide) ?_
                exact zr_mask [true, true, true, false] rfl k
              · have k := k.2 hb
                refine zr_iload_n dX4_relaxEnds_133 rfl rfl ?_
                refine zr_ifeq (tgt := 141) dX4_relaxEnds_134 (by decide) (fun hb => ?_) (fun hb => ?_)
                · have k := k.1 hb
                  refine zr_iconst (v := 0) dX4_relaxEnds_141 (by decide) ?_
                  refine zr_istore_n dX4_relaxEnds_142 rfl (Nat.le_of_ble_eq_true rfl) rfl ?_
                  refine zr_iinc (v := (v2 + 1)) dX4_relaxEnds_143 rfl rfl (Nat.le_of_ble_eq_true rfl) rfl ?_
                  refine zr_goto (tgt := 4) dX4_relaxEnds_146 (by decide) ?_
                  exact zr_mask [true, true, true, false] rfl k
                · have k := k.2 hb
                  refine zr_iconst (v := 1) dX4_relaxEnds_137 (by decide) ?_
                  refine zr_goto (tgt := 142) dX4_relaxEnds_138 (by decide) ?_
                  refine zr_istore_n dX4_relaxEnds_142 rfl (Nat.le_of_ble_eq_true rfl) rfl ?_
                  refine zr_iinc (v := (v2 + 1)) dX4_relaxEnds_143 rfl rfl (Nat.le_of_ble_eq_true rfl) rfl ?_
                  refine zr_goto (tgt := 4) dX4_relaxEnds_146 (by decide) ?_
                  exact zr_mask [true, true, true, false] rfl k
            · have k := k.2 hb
              refine zr_aload_n dX4_relaxEnds_108 rfl rfl ?_
              refine zr_iload_n dX4_relaxEnds_109 rfl rfl ?_
              refine zr_bipush (v := 49) dX4_relaxEnds_110 (by decide) ?_
              refine zr_iconst (v := 0) dX4_relaxEnds_112 (by decide) ?_
              refine zr_callV (As := [.int v2, .int (49 : Int32), .int (0 : Int32)]) (fr' := fX4_relax) (lo' := lX4_relax) (bc' := 0) (bs' := 0) (bcr := bc) (bsr := bs) dX4_relaxEnds_113 zs_X4_103 zi_X4_relax zcl_4 (hS.hasJ hj 0 rfl rfl rfl) rfl rfl (Nat.le_of_ble_eq_true rfl) (Nat.le_of_ble_eq_true rfl) (Nat.le_of_ble_eq_true rfl) (Nat.le_refl _) (Nat.le_refl _) ?_
              refine ZC.mono (fun w S' I2 L2 k => ?_) k
              obtain ⟨r2, rfl, rfl, k⟩ := k
              show ZW G mX4_relaxEnds fX4_relaxEnds lX4_relaxEnds 116 [zo G j, .int v1, .int v2, .int (0 : Int32)] [.int r2] S I2 L2 bc bs Q
              refine zr_ifeq (tgt := 133) dX4_relaxEnds_116 (by decide) (fun hb => ?_) (fun hb => ?_)
              · have k := k.1 hb
                refine zr_iload_n dX4_relaxEnds_133 rfl rfl ?_
                refine zr_ifeq (tgt := 141) dX4_relaxEnds_134 (by decide) (fun hb => ?_) (fun hb => ?_)
                · have k := k.1 hb
                  refine zr_iconst (v := 0) dX4_relaxEnds_141 (by decide) ?_
                  refine zr_istore_n dX4_relaxEnds_142 rfl (Nat.le_of_ble_eq_true rfl) rfl ?_
                  refine zr_iinc (v := (v2 + 1)) dX4_relaxEnds_143 rfl rfl (Nat.le_of_ble_eq_true rfl) rfl ?_
                  refine zr_goto (tgt := 4) dX4_relaxEnds_146 (by decide) ?_
                  exact zr_mask [true, true, true, false] rfl k
                · have k := k.2 hb
                  refine zr_iconst (v := 1) dX4_relaxEnds_137 (by decide) ?_
                  refine zr_goto (tgt := 142) dX4_relaxEnds_138 (by decide) ?_
                  refine zr_istore_n dX4_relaxEnds_142 rfl (Nat.le_of_ble_eq_true rfl) rfl ?_
                  refine zr_iinc (v := (v2 + 1)) dX4_relaxEnds_143 rfl rfl (Nat.le_of_ble_eq_true rfl) rfl ?_
                  refine zr_goto (tgt := 4) dX4_relaxEnds_146 (by decide) ?_
                  exact zr_mask [true, true, true, false] rfl k
              · have k := k.2 hb
                refine zr_goto (tgt := 137) dX4_relaxEnds_119 (by decide) ?_
                refine zr_iconst (v := 1) dX4_relaxEnds_137 (by decide) ?_
                refine zr_goto (tgt := 142) dX4_relaxEnds_138 (by decide) ?_
                refine zr_istore_n dX4_relaxEnds_142 rfl (Nat.le_of_ble_eq_true rfl) rfl ?_
                refine zr_iinc (v := (v2 + 1)) dX4_relaxEnds_143 rfl rfl (Nat.le_of_ble_eq_true rfl) rfl ?_
                refine zr_goto (tgt := 4) dX4_relaxEnds_146 (by decide) ?_
                exact zr_mask [true, true, true, false] rfl k
        · have k := k.2 hb
          refine zr_iload_n dX4_relaxEnds_51 rfl rfl ?_
          refine zr_ifeq (tgt := 69) dX4_relaxEnds_52 (by decide) (fun hb => ?_) (fun hb => ?_)
          · have k := k.1 hb
            refine zr_aload_n dX4_relaxEnds_69 rfl rfl ?_
            refine zr_iload_n dX4_relaxEnds_70 rfl rfl ?_
            refine zr_bipush (v := 48) dX4_relaxEnds_71 (by decide) ?_
            refine zr_iconst (v := 0) dX4_relaxEnds_73 (by decide) ?_
            refine zr_callV (As := [.int v2, .int (48 : Int32), .int (0 : Int32)]) (fr' := fX4_relax) (lo' := lX4_relax) (bc' := 0) (bs' := 0) (bcr := bc) (bsr := bs) dX4_relaxEnds_74 zs_X4_103 zi_X4_relax zcl_4 (hS.hasJ hj 0 rfl rfl rfl) rfl rfl (Nat.le_of_ble_eq_true rfl) (Nat.le_of_ble_eq_true rfl) (Nat.le_of_ble_eq_true rfl) (Nat.le_refl _) (Nat.le_refl _) ?_
            refine ZC.mono (fun w S' I3 L3 k => ?_) k
            obtain ⟨r3, rfl, rfl, k⟩ := k
            show ZW G mX4_relaxEnds fX4_relaxEnds lX4_relaxEnds 77 [zo G j, .int v1, .int v2, .int (0 : Int32)] [.int r3] S I3 L3 bc bs Q
            refine zr_ifne (tgt := 84) dX4_relaxEnds_77 (by decide) (fun hb => ?_) (fun hb => ?_)
            · have k := k.1 hb
              refine zr_iconst (v := 1) dX4_relaxEnds_84 (by decide) ?_
              refine zr_goto (tgt := 89) dX4_relaxEnds_85 (by decide) ?_
              refine zr_istore_n dX4_relaxEnds_89 rfl (Nat.le_of_ble_eq_true rfl) rfl ?_
              refine zr_goto (tgt := 143) dX4_relaxEnds_90 (by decide) ?_
              refine zr_iinc (v := (v2 + 1)) dX4_relaxEnds_143 rfl rfl (Nat.le_of_ble_eq_true rfl) rfl ?_
              refine zr_goto (tgt := 4) dX4_relaxEnds_146 (by decide) ?_
              exact zr_mask [true, true, true, false] rfl k
            · have k := k.2 hb
              refine zr_iload_n dX4_relaxEnds_80 rfl rfl ?_
              refine zr_ifeq (tgt := 88) dX4_relaxEnds_81 (by decide) (fun hb => ?_) (fun hb => ?_)
              · have k := k.1 hb
                refine zr_iconst (v := 0) dX4_relaxEnds_88 (by decide) ?_
                refine zr_istore_n dX4_relaxEnds_89 rfl (Nat.le_of_ble_eq_true rfl) rfl ?_
                refine zr_goto (tgt := 143) dX4_relaxEnds_90 (by decide) ?_
                refine zr_iinc (v := (v2 + 1)) dX4_relaxEnds_143 rfl rfl (Nat.le_of_ble_eq_true rfl) rfl ?_
                refine zr_goto (tgt := 4) dX4_relaxEnds_146 (by decide) ?_
                exact zr_mask [true, true, true, false] rfl k
              · have k := k.2 hb
                refine zr_iconst (v := 1) dX4_relaxEnds_84 (by decide) ?_
                refine zr_goto (tgt := 89) dX4_relaxEnds_85 (by decide) ?_
                refine zr_istore_n dX4_relaxEnds_89 rfl (Nat.le_of_ble_eq_true rfl) rfl ?_
                refine zr_goto (tgt := 143) dX4_relaxEnds_90 (by decide) ?_
                refine zr_iinc (v := (v2 + 1)) dX4_relaxEnds_143 rfl rfl (Nat.le_of_ble_eq_true rfl) rfl ?_
                refine zr_goto (tgt := 4) dX4_relaxEnds_146 (by decide) ?_
                exact zr_mask [true, true, true, false] rfl k
          · have k := k.2 hb
            refine zr_aload_n dX4_relaxEnds_55 rfl rfl ?_
            refine zr_bipush (v := 48) dX4_relaxEnds_56 (by decide) ?_
            refine zr_iload_n dX4_relaxEnds_58 rfl rfl ?_
            refine zr_iconst (v := 0) dX4_relaxEnds_59 (by decide) ?_
            refine zr_callV (As := [.int (48 : Int32), .int v2, .int (0 : Int32)]) (fr' := fX4_relax) (lo' := lX4_relax) (bc' := 0) (bs' := 0) (bcr := bc) (bsr := bs) dX4_relaxEnds_60 zs_X4_103 zi_X4_relax zcl_4 (hS.hasJ hj 0 rfl rfl rfl) rfl rfl (Nat.le_of_ble_eq_true rfl) (Nat.le_of_ble_eq_true rfl) (Nat.le_of_ble_eq_true rfl) (Nat.le_refl _) (Nat.le_refl _) ?_
            refine ZC.mono (fun w S' I4 L4 k => ?_) k
            obtain ⟨r4, rfl, rfl, k⟩ := k
            show ZW G mX4_relaxEnds fX4_relaxEnds lX4_relaxEnds 63 [zo G j, .int v1, .int v2, .int (0 : Int32)] [.int r4] S I4 L4 bc bs Q
            refine zr_ifeq (tgt := 80) dX4_relaxEnds_63 (by decide) (fun hb => ?_) (fun hb => ?_)
            · have k := k.1 hb
              refine zr_iload_n dX4_relaxEnds_80 rfl rfl ?_
              refine zr_ifeq (tgt := 88) dX4_relaxEnds_81 (by decide) (fun hb => ?_) (fun hb => ?_)
              · have k := k.1 hb
                refine zr_iconst (v := 0) dX4_relaxEnds_88 (by decide) ?_
                refine zr_istore_n dX4_relaxEnds_89 rfl (Nat.le_of_ble_eq_true rfl) rfl ?_
                refine zr_goto (tgt := 143) dX4_relaxEnds_90 (by decide) ?_
                refine zr_iinc (v := (v2 + 1)) dX4_relaxEnds_143 rfl rfl (Nat.le_of_ble_eq_true rfl) rfl ?_
                refine zr_goto (tgt := 4) dX4_relaxEnds_146 (by decide) ?_
                exact zr_mask [true, true, true, false] rfl k
              · have k := k.2 hb
                refine zr_iconst (v := 1) dX4_relaxEnds_84 (by decide) ?_
                refine zr_goto (tgt := 89) dX4_relaxEnds_85 (by decide) ?_
                refine zr_istore_n dX4_relaxEnds_89 rfl (Nat.le_of_ble_eq_true rfl) rfl ?_
                refine zr_goto (tgt := 143) dX4_relaxEnds_90 (by decide) ?_
                refine zr_iinc (v := (v2 + 1)) dX4_relaxEnds_143 rfl rfl (Nat.le_of_ble_eq_true rfl) rfl ?_
                refine zr_goto (tgt := 4) dX4_relaxEnds_146 (by decide) ?_
                exact zr_mask [true, true, true, false] rfl k
            · have k := k.2 hb
              refine zr_goto (tgt := 84) dX4_relaxEnds_66 (by decide) ?_
              refine zr_iconst (v := 1) dX4_relaxEnds_84 (by decide) ?_
              refine zr_goto (tgt := 89) dX4_relaxEnds_85 (by decide) ?_
              refine zr_istore_n dX4_relaxEnds_89 rfl (Nat.le_of_ble_eq_true rfl) rfl ?_
              refine zr_goto (tgt := 143) dX4_relaxEnds_90 (by decide) ?_
              refine zr_iinc (v := (v2 + 1)) dX4_relaxEnds_143 rfl rfl (Nat.le_of_ble_eq_true rfl) rfl ?_
              refine zr_goto (tgt := 4) dX4_relaxEnds_146 (by decide) ?_
              exact zr_mask [true, true, true, false] rfl k
      · have k := k.2 hb
        refine zr_iconst (v := 1) dX4_relaxEnds_34 (by decide) ?_
        refine zr_goto (tgt := 39) dX4_relaxEnds_35 (by decide) ?_
        refine zr_istore_n dX4_relaxEnds_39 rfl (Nat.le_of_ble_eq_true rfl) rfl ?_
        refine zr_aload_n dX4_relaxEnds_40 rfl rfl ?_
        refine zr_getJv (x := (L j 5)) dX4_relaxEnds_41 zf_X4_29 rfl (hS.hasJ hj 0 rfl rfl rfl) rfl ?_
        refine zr_iload_n dX4_relaxEnds_44 rfl rfl ?_
        refine zr_callS (As := [.long (L j 5), .int v2]) (fr' := fX4_has) (lo' := lX4_has) (bc' := 0) (bs' := 0) (bcr := bc) (bsr := bs) dX4_relaxEnds_45 zs_X4_72 zst_X4_has rfl rfl (Nat.le_of_ble_eq_true rfl) (Nat.le_of_ble_eq_true rfl) (Nat.le_of_ble_eq_true rfl) (Nat.le_refl _) (Nat.le_refl _) ?_
        refine sp_X4_has hS  ?_
        show ZW G mX4_relaxEnds fX4_relaxEnds lX4_relaxEnds 48 [zo G j, .int v1, .int v2, .int (1 : Int32)] [.int (p_X4_has (L j 5) v2)] S I L bc bs Q
        refine zr_ifeq (tgt := 93) dX4_relaxEnds_48 (by decide) (fun hb => ?_) (fun hb => ?_)
        · have k := k.1 hb
          refine zr_aload_n dX4_relaxEnds_93 rfl rfl ?_
          refine zr_getJv (x := (L j 6)) dX4_relaxEnds_94 zf_X4_33 rfl (hS.hasJ hj 0 rfl rfl rfl) rfl ?_
          refine zr_iload_n dX4_relaxEnds_97 rfl rfl ?_
          refine zr_callS (As := [.long (L j 6), .int v2]) (fr' := fX4_has) (lo' := lX4_has) (bc' := 0) (bs' := 0) (bcr := bc) (bsr := bs) dX4_relaxEnds_98 zs_X4_72 zst_X4_has rfl rfl (Nat.le_of_ble_eq_true rfl) (Nat.le_of_ble_eq_true rfl) (Nat.le_of_ble_eq_true rfl) (Nat.le_refl _) (Nat.le_refl _) ?_
          refine sp_X4_has hS  ?_
          show ZW G mX4_relaxEnds fX4_relaxEnds lX4_relaxEnds 101 [zo G j, .int v1, .int v2, .int (1 : Int32)] [.int (p_X4_has (L j 6) v2)] S I L bc bs Q
          refine zr_ifeq (tgt := 143) dX4_relaxEnds_101 (by decide) (fun hb => ?_) (fun hb => ?_)
          · have k := k.1 hb
            refine zr_iinc (v := (v2 + 1)) dX4_relaxEnds_143 rfl rfl (Nat.le_of_ble_eq_true rfl) rfl ?_
            refine zr_goto (tgt := 4) dX4_relaxEnds_146 (by decide) ?_
            exact zr_mask [true, true, true, false] rfl k
          · have k := k.2 hb
            refine zr_iload_n dX4_relaxEnds_104 rfl rfl ?_
            refine zr_ifeq (tgt := 122) dX4_relaxEnds_105 (by decide) (fun hb => ?_) (fun hb => ?_)
            · have k := k.1 hb
              refine zr_aload_n dX4_relaxEnds_122 rfl rfl ?_
              refine zr_bipush (v := 49) dX4_relaxEnds_123 (by decide) ?_
              refine zr_iload_n dX4_relaxEnds_125 rfl rfl ?_
              refine zr_iconst (v := 0) dX4_relaxEnds_126 (by decide) ?_
              refine zr_callV (As := [.int (49 : Int32), .int v2, .int (0 : Int32)]) (fr' := fX4_relax) (lo' := lX4_relax) (bc' := 0) (bs' := 0) (bcr := bc) (bsr := bs) dX4_relaxEnds_127 zs_X4_103 zi_X4_relax zcl_4 (hS.hasJ hj 0 rfl rfl rfl) rfl rfl (Nat.le_of_ble_eq_true rfl) (Nat.le_of_ble_eq_true rfl) (Nat.le_of_ble_eq_true rfl) (Nat.le_refl _) (Nat.le_refl _) ?_
              refine ZC.mono (fun w S' I5 L5 k => ?_) k
              obtain ⟨r5, rfl, rfl, k⟩ := k
              show ZW G mX4_relaxEnds fX4_relaxEnds lX4_relaxEnds 130 [zo G j, .int v1, .int v2, .int (1 : Int32)] [.int r5] S I5 L5 bc bs Q
              refine zr_ifne (tgt := 137) dX4_relaxEnds_130 (by decide) (fun hb => ?_) (fun hb => ?_)
              · have k := k.1 hb
                refine zr_iconst (v := 1) dX4_relaxEnds_137 (by decide) ?_
                refine zr_goto (tgt := 142) dX4_relaxEnds_138 (by decide) ?_
                refine zr_istore_n dX4_relaxEnds_142 rfl (Nat.le_of_ble_eq_true rfl) rfl ?_
                refine zr_iinc (v := (v2 + 1)) dX4_relaxEnds_143 rfl rfl (Nat.le_of_ble_eq_true rfl) rfl ?_
                refine zr_goto (tgt := 4) dX4_relaxEnds_146 (by decide) ?_
                exact zr_mask [true, true, true, false] rfl k
              · have k := k.2 hb
                refine zr_iload_n dX4_relaxEnds_133 rfl rfl ?_
                refine zr_ifeq (tgt := 141) dX4_relaxEnds_134 (by decide) (fun hb => ?_) (fun hb => ?_)
                · have k := k.1 hb
                  refine zr_iconst (v := 0) dX4_relaxEnds_141 (by decide) ?_
                  refine zr_istore_n dX4_relaxEnds_142 rfl (Nat.le_of_ble_eq_true rfl) rfl ?_
                  refine zr_iinc (v := (v2 + 1)) dX4_relaxEnds_143 rfl rfl (Nat.le_of_ble_eq_true rfl) rfl ?_
                  refine zr_goto (tgt := 4) dX4_relaxEnds_146 (by decide) ?_
                  exact zr_mask [true, true, true, false] rfl k
                · have k := k.2 hb
                  refine zr_iconst (v := 1) dX4_relaxEnds_137 (by decide) ?_
                  refine zr_goto (tgt := 142) dX4_relaxEnds_138 (by decide) ?_
                  refine zr_istore_n dX4_relaxEnds_142 rfl (Nat.le_of_ble_eq_true rfl) rfl ?_
                  refine zr_iinc (v := (v2 + 1)) dX4_relaxEnds_143 rfl rfl (Nat.le_of_ble_eq_true rfl) rfl ?_
                  refine zr_goto (tgt := 4) dX4_relaxEnds_146 (by decide) ?_
                  exact zr_mask [true, true, true, false] rfl k
            · have k := k.2 hb
              refine zr_aload_n dX4_relaxEnds_108 rfl rfl ?_
              refine zr_iload_n dX4_relaxEnds_109 rfl rfl ?_
              refine zr_bipush (v := 49) dX4_relaxEnds_110 (by decide) ?_
              refine zr_iconst (v := 0) dX4_relaxEnds_112 (by decide) ?_
              refine zr_callV (As := [.int v2, .int (49 : Int32), .int (0 : Int32)]) (fr' := fX4_relax) (lo' := lX4_relax) (bc' := 0) (bs' := 0) (bcr := bc) (bsr := bs) dX4_relaxEnds_113 zs_X4_103 zi_X4_relax zcl_4 (hS.hasJ hj 0 rfl rfl rfl) rfl rfl (Nat.le_of_ble_eq_true rfl) (Nat.le_of_ble_eq_true rfl) (Nat.le_of_ble_eq_true rfl) (Nat.le_refl _) (Nat.le_refl _) ?_
              refine ZC.mono (fun w S' I6 L6 k => ?_) k
              obtain ⟨r6, rfl, rfl, k⟩ := k
              show ZW G mX4_relaxEnds fX4_relaxEnds lX4_relaxEnds 116 [zo G j, .int v1, .int v2, .int (1 : Int32)] [.int r6] S I6 L6 bc bs Q
              refine zr_ifeq (tgt := 133) dX4_relaxEnds_116 (by decide) (fun hb => ?_) (fun hb => ?_)
              · have k := k.1 hb
                refine zr_iload_n dX4_relaxEnds_133 rfl rfl ?_
                refine zr_ifeq (tgt := 141) dX4_relaxEnds_134 (by decide) (fun hb => ?_) (fun hb => ?_)
                · have k := k.1 hb
                  refine zr_iconst (v := 0) dX4_relaxEnds_141 (by decide) ?_
                  refine zr_istore_n dX4_relaxEnds_142 rfl (Nat.le_of_ble_eq_true rfl) rfl ?_
                  refine zr_iinc (v := (v2 + 1)) dX4_relaxEnds_143 rfl rfl (Nat.le_of_ble_eq_true rfl) rfl ?_
                  refine zr_goto (tgt := 4) dX4_relaxEnds_146 (by decide) ?_
                  exact zr_mask [true, true, true, false] rfl k
                · have k := k.2 hb
                  refine zr_iconst (v := 1) dX4_relaxEnds_137 (by decide) ?_
                  refine zr_goto (tgt := 142) dX4_relaxEnds_138 (by decide) ?_
                  refine zr_istore_n dX4_relaxEnds_142 rfl (Nat.le_of_ble_eq_true rfl) rfl ?_
                  refine zr_iinc (v := (v2 + 1)) dX4_relaxEnds_143 rfl rfl (Nat.le_of_ble_eq_true rfl) rfl ?_
                  refine zr_goto (tgt := 4) dX4_relaxEnds_146 (by decide) ?_
                  exact zr_mask [true, true, true, false] rfl k
              · have k := k.2 hb
                refine zr_goto (tgt := 137) dX4_relaxEnds_119 (by decide) ?_
                refine zr_iconst (v := 1) dX4_relaxEnds_137 (by decide) ?_
                refine zr_goto (tgt := 142) dX4_relaxEnds_138 (by decide) ?_
                refine zr_istore_n dX4_relaxEnds_142 rfl (Nat.le_of_ble_eq_true rfl) rfl ?_
                refine zr_iinc (v := (v2 + 1)) dX4_relaxEnds_143 rfl rfl (Nat.le_of_ble_eq_true rfl) rfl ?_
                refine zr_goto (tgt := 4) dX4_relaxEnds_146 (by decide) ?_
                exact zr_mask [true, true, true, false] rfl k
        · have k := k.2 hb
          refine zr_iload_n dX4_relaxEnds_51 rfl rfl ?_
          refine zr_ifeq (tgt := 69) dX4_relaxEnds_52 (by decide) (fun hb => ?_) (fun hb => ?_)
          · have k := k.1 hb
            refine zr_aload_n dX4_relaxEnds_69 rfl rfl ?_
            refine zr_iload_n dX4_relaxEnds_70 rfl rfl ?_
            refine zr_bipush (v := 48) dX4_relaxEnds_71 (by decide) ?_
            refine zr_iconst (v := 0) dX4_relaxEnds_73 (by decide) ?_
            refine zr_callV (As := [.int v2, .int (48 : Int32), .int (0 : Int32)]) (fr' := fX4_relax) (lo' := lX4_relax) (bc' := 0) (bs' := 0) (bcr := bc) (bsr := bs) dX4_relaxEnds_74 zs_X4_103 zi_X4_relax zcl_4 (hS.hasJ hj 0 rfl rfl rfl) rfl rfl (Nat.le_of_ble_eq_true rfl) (Nat.le_of_ble_eq_true rfl) (Nat.le_of_ble_eq_true rfl) (Nat.le_refl _) (Nat.le_refl _) ?_
            refine ZC.mono (fun w S' I7 L7 k => ?_) k
            obtain ⟨r7, rfl, rfl, k⟩ := k
            show ZW G mX4_relaxEnds fX4_relaxEnds lX4_relaxEnds 77 [zo G j, .int v1, .int v2, .int (1 : Int32)] [.int r7] S I7 L7 bc bs Q
            refine zr_ifne (tgt := 84) dX4_relaxEnds_77 (by decide) (fun hb => ?_) (fun hb => ?_)
            · have k := k.1 hb
              refine zr_iconst (v := 1) dX4_relaxEnds_84 (by decide) ?_
              refine zr_goto (tgt := 89) dX4_relaxEnds_85 (by decide) ?_
              refine zr_istore_n dX4_relaxEnds_89 rfl (Nat.le_of_ble_eq_true rfl) rfl ?_
              refine zr_goto (tgt := 143) dX4_relaxEnds_90 (by decide) ?_
              refine zr_iinc (v := (v2 + 1)) dX4_relaxEnds_143 rfl rfl (Nat.le_of_ble_eq_true rfl) rfl ?_
              refine zr_goto (tgt := 4) dX4_relaxEnds_146 (by decide) ?_
              exact zr_mask [true, true, true, false] rfl k
            · have k := k.2 hb
              refine zr_iload_n dX4_relaxEnds_80 rfl rfl ?_
              refine zr_ifeq (tgt := 88) dX4_relaxEnds_81 (by decide) (fun hb => ?_) (fun hb => ?_)
              · have k := k.1 hb
                refine zr_iconst (v := 0) dX4_relaxEnds_88 (by decide) ?_
                refine zr_istore_n dX4_relaxEnds_89 rfl (Nat.le_of_ble_eq_true rfl) rfl ?_
                refine zr_goto (tgt := 143) dX4_relaxEnds_90 (by decide) ?_
                refine zr_iinc (v := (v2 + 1)) dX4_relaxEnds_143 rfl rfl (Nat.le_of_ble_eq_true rfl) rfl ?_
                refine zr_goto (tgt := 4) dX4_relaxEnds_146 (by decide) ?_
                exact zr_mask [true, true, true, false] rfl k
              · have k := k.2 hb
                refine zr_iconst (v := 1) dX4_relaxEnds_84 (by decide) ?_
                refine zr_goto (tgt := 89) dX4_relaxEnds_85 (by decide) ?_
                refine zr_istore_n dX4_relaxEnds_89 rfl (Nat.le_of_ble_eq_true rfl) rfl ?_
                refine zr_goto (tgt := 143) dX4_relaxEnds_90 (by decide) ?_
                refine zr_iinc (v := (v2 + 1)) dX4_relaxEnds_143 rfl rfl (Nat.le_of_ble_eq_true rfl) rfl ?_
                refine zr_goto (tgt := 4) dX4_relaxEnds_146 (by decide) ?_
                exact zr_mask [true, true, true, false] rfl k
          · have k := k.2 hb
            refine zr_aload_n dX4_relaxEnds_55 rfl rfl ?_
            refine zr_bipush (v := 48) dX4_relaxEnds_56 (by decide) ?_
            refine zr_iload_n dX4_relaxEnds_58 rfl rfl ?_
            refine zr_iconst (v := 0) dX4_relaxEnds_59 (by decide) ?_
            refine zr_callV (As := [.int (48 : Int32), .int v2, .int (0 : Int32)]) (fr' := fX4_relax) (lo' := lX4_relax) (bc' := 0) (bs' := 0) (bcr := bc) (bsr := bs) dX4_relaxEnds_60 zs_X4_103 zi_X4_relax zcl_4 (hS.hasJ hj 0 rfl rfl rfl) rfl rfl (Nat.le_of_ble_eq_true rfl) (Nat.le_of_ble_eq_true rfl) (Nat.le_of_ble_eq_true rfl) (Nat.le_refl _) (Nat.le_refl _) ?_
            refine ZC.mono (fun w S' I8 L8 k => ?_) k
            obtain ⟨r8, rfl, rfl, k⟩ := k
            show ZW G mX4_relaxEnds fX4_relaxEnds lX4_relaxEnds 63 [zo G j, .int v1, .int v2, .int (1 : Int32)] [.int r8] S I8 L8 bc bs Q
            refine zr_ifeq (tgt := 80) dX4_relaxEnds_63 (by decide) (fun hb => ?_) (fun hb => ?_)
            · have k := k.1 hb
              refine zr_iload_n dX4_relaxEnds_80 rfl rfl ?_
              refine zr_ifeq (tgt := 88) dX4_relaxEnds_81 (by decide) (fun hb => ?_) (fun hb => ?_)
              · have k := k.1 hb
                refine zr_iconst (v := 0) dX4_relaxEnds_88 (by decide) ?_
                refine zr_istore_n dX4_relaxEnds_89 rfl (Nat.le_of_ble_eq_true rfl) rfl ?_
                refine zr_goto (tgt := 143) dX4_relaxEnds_90 (by decide) ?_
                refine zr_iinc (v := (v2 + 1)) dX4_relaxEnds_143 rfl rfl (Nat.le_of_ble_eq_true rfl) rfl ?_
                refine zr_goto (tgt := 4) dX4_relaxEnds_146 (by decide) ?_
                exact zr_mask [true, true, true, false] rfl k
              · have k := k.2 hb
                refine zr_iconst (v := 1) dX4_relaxEnds_84 (by decide) ?_
                refine zr_goto (tgt := 89) dX4_relaxEnds_85 (by decide) ?_
                refine zr_istore_n dX4_relaxEnds_89 rfl (Nat.le_of_ble_eq_true rfl) rfl ?_
                refine zr_goto (tgt := 143) dX4_relaxEnds_90 (by decide) ?_
                refine zr_iinc (v := (v2 + 1)) dX4_relaxEnds_143 rfl rfl (Nat.le_of_ble_eq_true rfl) rfl ?_
                refine zr_goto (tgt := 4) dX4_relaxEnds_146 (by decide) ?_
                exact zr_mask [true, true, true, false] rfl k
            · have k := k.2 hb
              refine zr_goto (tgt := 84) dX4_relaxEnds_66 (by decide) ?_
              refine zr_iconst (v := 1) dX4_relaxEnds_84 (by decide) ?_
              refine zr_goto (tgt := 89) dX4_relaxEnds_85 (by decide) ?_
              refine zr_istore_n dX4_relaxEnds_89 rfl (Nat.le_of_ble_eq_true rfl) rfl ?_
              refine zr_goto (tgt := 143) dX4_relaxEnds_90 (by decide) ?_
              refine zr_iinc (v := (v2 + 1)) dX4_relaxEnds_143 rfl rfl (Nat.le_of_ble_eq_true rfl) rfl ?_
              refine zr_goto (tgt := 4) dX4_relaxEnds_146 (by decide) ?_
              exact zr_mask [true, true, true, false] rfl k
    · have k := k.2 hb
      refine zr_goto (tgt := 143) dX4_relaxEnds_21 (by decide) ?_
      refine zr_iinc (v := (v2 + 1)) dX4_relaxEnds_143 rfl rfl (Nat.le_of_ble_eq_true rfl) rfl ?_
      refine zr_goto (tgt := 4) dX4_relaxEnds_146 (by decide) ?_
      exact k
set_option maxHeartbeats 2000000 in
theorem vX4_measureTo_0 {G : Gp} {bc bs : Nat} {Q : zPost} {S : zSh} {I : zFI} {L : zFL} {j : Nat} {v1 : Int32} (hS : zStd S) (hj : zJn j) (k : ZC G mJ7_fill_53178 fJ7_fill_53178 lJ7_fill_53178 [zo G (j + 6), .int (1000000 : Int32)] S I L 0 0 (fun w S' I1 L1 => w = none ∧ S = S' ∧ ZC G mJ7_fill_53178 fJ7_fill_53178 lJ7_fill_53178 [zo G (j + 7), .int (-1 : Int32)] S I1 L1 0 0 (fun w S' I2 L2 => w = none ∧ S = S' ∧ ((v1 < 0 → ZW G mX4_measureTo fX4_measureTo lX4_measureTo 38 [zo G j, .int v1, .int (1 : Int32), .int (0 : Int32)] [] S I2 L2 bc bs Q) ∧ (¬ v1 < 0 → (((50 : Int32) ≤ v1 → ZW G mX4_measureTo fX4_measureTo lX4_measureTo 38 [zo G j, .int v1, .int (1 : Int32), .int (0 : Int32)] [] S I2 L2 bc bs Q) ∧ (¬ (50 : Int32) ≤ v1 → vp_in v1 50 ∧ ZW G mX4_measureTo fX4_measureTo lX4_measureTo 38 [zo G j, .int v1, .int (1 : Int32), .int (0 : Int32)] [] S (u2 I2 (j + 6) v1.toNatClampNeg (0 : Int32)) L2 bc bs Q))))))) : ZW G mX4_measureTo fX4_measureTo lX4_measureTo 0 [zo G j, .int v1, .null, .null] [] S I L bc bs Q := by
  refine zr_aload_n dX4_measureTo_0 rfl rfl ?_
  refine zr_getR dX4_measureTo_1 zf_X4_45 rfl (hS.hasJ hj 0 rfl rfl rfl) (hS.refJ hj (d := 6) rfl rfl) ?_
  refine zr_ldc dX4_measureTo_4 zk_X4_67 ?_
  refine zr_callS (As := [zo G (j + 6), .int (1000000 : Int32)]) (fr' := fJ7_fill_53178) (lo' := lJ7_fill_53178) (bc' := 0) (bs' := 0) (bcr := bc) (bsr := bs) dX4_measureTo_6 zs_X4_57 zst_J7_fill_53178 rfl rfl (Nat.le_of_ble_eq_true rfl) (Nat.le_of_ble_eq_true rfl) (Nat.le_of_ble_eq_true rfl) (Nat.le_refl _) (Nat.le_refl _) ?_
  refine ZC.mono (fun w S' I1 L1 k => ?_) k
  obtain ⟨rfl, rfl, k⟩ := k
  show ZW G mX4_measureTo fX4_measureTo lX4_measureTo 9 [zo G j, .int v1, .null, .null] [] S I1 L1 bc bs Q
  refine zr_aload_n dX4_measureTo_9 rfl rfl ?_
  refine zr_getR dX4_measureTo_10 zf_X4_48 rfl (hS.hasJ hj 0 rfl rfl rfl) (hS.refJ hj (d := 7) rfl rfl) ?_
  refine zr_iconst (v := -1) dX4_measureTo_13 (by decide) ?_
  refine zr_callS (As := [zo G (j + 7), .int (-1 : Int32)]) (fr' := fJ7_fill_53178) (lo' := lJ7_fill_53178) (bc' := 0) (bs' := 0) (bcr := bc) (bsr := bs) dX4_measureTo_14 zs_X4_57 zst_J7_fill_53178 rfl rfl (Nat.le_of_ble_eq_true rfl) (Nat.le_of_ble_eq_true rfl) (Nat.le_of_ble_eq_true rfl) (Nat.le_refl _) (Nat.le_refl _) ?_
  refine ZC.mono (fun w S' I2 L2 k => ?_) k
  obtain ⟨rfl, rfl, k⟩ := k
  show ZW G mX4_measureTo fX4_measureTo lX4_measureTo 17 [zo G j, .int v1, .null, .null] [] S I2 L2 bc bs Q
  refine zr_iload_n dX4_measureTo_17 rfl rfl ?_
  refine zr_iflt (tgt := 34) dX4_measureTo_18 (by decide) (fun hb => ?_) (fun hb => ?_)
  · have k := k.1 hb
    refine zr_iconst (v := 1) dX4_measureTo_34 (by decide) ?_
    refine zr_istore_n dX4_measureTo_35 rfl (Nat.le_of_ble_eq_true rfl) rfl ?_
    refine zr_iconst (v := 0) dX4_measureTo_36 (by decide) ?_
    refine zr_istore_n dX4_measureTo_37 rfl (Nat.le_of_ble_eq_true rfl) rfl ?_
    exact k
  · have k := k.2 hb
    refine zr_iload_n dX4_measureTo_21 rfl rfl ?_
    refine zr_bipush (v := 50) dX4_measureTo_22 (by decide) ?_
    refine zr_icge (tgt := 34) dX4_measureTo_24 (by decide) (fun hb => ?_) (fun hb => ?_)
    · have k := k.1 hb
      refine zr_iconst (v := 1) dX4_measureTo_34 (by decide) ?_
      refine zr_istore_n dX4_measureTo_35 rfl (Nat.le_of_ble_eq_true rfl) rfl ?_
      refine zr_iconst (v := 0) dX4_measureTo_36 (by decide) ?_
      refine zr_istore_n dX4_measureTo_37 rfl (Nat.le_of_ble_eq_true rfl) rfl ?_
      exact k
    · have k := k.2 hb
      refine zr_aload_n dX4_measureTo_27 rfl rfl ?_
      refine zr_getR dX4_measureTo_28 zf_X4_45 rfl (hS.hasJ hj 0 rfl rfl rfl) (hS.refJ hj (d := 6) rfl rfl) ?_
      refine zr_iload_n dX4_measureTo_31 rfl rfl ?_
      refine zr_iconst (v := 0) dX4_measureTo_32 (by decide) ?_
      obtain ⟨hi1, k⟩ := k
      refine zr_iast dX4_measureTo_33 (hS.hasJ hj 6 rfl rfl rfl) hi1 ?_
      refine zr_iconst (v := 1) dX4_measureTo_34 (by decide) ?_
      refine zr_istore_n dX4_measureTo_35 rfl (Nat.le_of_ble_eq_true rfl) rfl ?_
      refine zr_iconst (v := 0) dX4_measureTo_36 (by decide) ?_
      refine zr_istore_n dX4_measureTo_37 rfl (Nat.le_of_ble_eq_true rfl) rfl ?_
      exact k
set_option maxHeartbeats 2000000 in
theorem vX4_measureTo_38 {G : Gp} {bc bs : Nat} {Q : zPost} {S : zSh} {I : zFI} {L : zFL} {j : Nat} {v1 : Int32} {v2 : Int32} {v3 : Int32} (hS : zStd S) (hj : zJn j) (k : (((50 : Int32) ≤ v3 → Q none S I L) ∧ (¬ (50 : Int32) ≤ v3 → ((v2 = 0 → Q none S I L) ∧ (¬ v2 = 0 → ZC G mX4_relaxArcs fX4_relaxArcs lX4_relaxArcs [zo G j] S I L 0 0 (fun w S' I1 L1 => ∃ r1 : Int32, w = some (.int r1) ∧ S = S' ∧ ZC G mX4_relaxEnds fX4_relaxEnds lX4_relaxEnds [zo G j] S I1 L1 0 0 (fun w S' I2 L2 => ∃ r2 : Int32, w = some (.int r2) ∧ S = S' ∧ ((¬ r2 = 0 → ZW G mX4_measureTo fX4_measureTo lX4_measureTo 38 [zo G j, .int v1, .int (1 : Int32), .int (v3 + 1)] [] S I2 L2 bc bs Q) ∧ (r2 = 0 → ((r1 = 0 → ZW G mX4_measureTo fX4_measureTo lX4_measureTo 38 [zo G j, .int v1, .int (0 : Int32), .int (v3 + 1)] [] S I2 L2 bc bs Q) ∧ (¬ r1 = 0 → ZW G mX4_measureTo fX4_measureTo lX4_measureTo 38 [zo G j, .int v1, .int (1 : Int32), .int (v3 + 1)] [] S I2 L2 bc bs Q))))))))))) : ZW G mX4_measureTo fX4_measureTo lX4_measureTo 38 [zo G j, .int v1, .int v2, .int v3] [] S I L bc bs Q := by
  refine zr_iload_n dX4_measureTo_38 rfl rfl ?_
  refine zr_bipush (v := 50) dX4_measureTo_39 (by decide) ?_
  refine zr_icge (tgt := 76) dX4_measureTo_41 (by decide) (fun hb => ?_) (fun hb => ?_)
  · have k := k.1 hb
    exact zr_return_ dX4_measureTo_76 rfl k
  · have k := k.2 hb
    refine zr_iload_n dX4_measureTo_44 rfl rfl ?_
    refine zr_ifeq (tgt := 76) dX4_measureTo_45 (by decide) (fun hb => ?_) (fun hb => ?_)
    · have k := k.1 hb
      exact zr_return_ dX4_measureTo_76 rfl k
    · have k := k.2 hb
      refine zr_aload_n dX4_measureTo_48 rfl rfl ?_
      refine zr_callV (As := []) (fr' := fX4_relaxArcs) (lo' := lX4_relaxArcs) (bc' := 0) (bs' := 0) (bcr := bc) (bsr := bs) dX4_measureTo_49 zs_X4_96 zi_X4_relaxArcs zcl_4 (hS.hasJ hj 0 rfl rfl rfl) rfl rfl (Nat.le_of_ble_eq_true rfl) (Nat.le_of_ble_eq_true rfl) (Nat.le_of_ble_eq_true rfl) (Nat.le_refl _) (Nat.le_refl _) ?_
      refine ZC.mono (fun w S' I1 L1 k => ?_) k
      obtain ⟨r1, rfl, rfl, k⟩ := k
      show ZW G mX4_measureTo fX4_measureTo lX4_measureTo 52 [zo G j, .int v1, .int v2, .int v3] [.int r1] S I1 L1 bc bs Q
      refine zr_istore_n dX4_measureTo_52 rfl (Nat.le_of_ble_eq_true rfl) rfl ?_
      refine zr_aload_n dX4_measureTo_53 rfl rfl ?_
      refine zr_callV (As := []) (fr' := fX4_relaxEnds) (lo' := lX4_relaxEnds) (bc' := 0) (bs' := 0) (bcr := bc) (bsr := bs) dX4_measureTo_54 zs_X4_100 zi_X4_relaxEnds zcl_4 (hS.hasJ hj 0 rfl rfl rfl) rfl rfl (Nat.le_of_ble_eq_true rfl) (Nat.le_of_ble_eq_true rfl) (Nat.le_of_ble_eq_true rfl) (Nat.le_refl _) (Nat.le_refl _) ?_
      refine ZC.mono (fun w S' I2 L2 k => ?_) k
      obtain ⟨r2, rfl, rfl, k⟩ := k
      show ZW G mX4_measureTo fX4_measureTo lX4_measureTo 57 [zo G j, .int v1, .int r1, .int v3] [.int r2] S I2 L2 bc bs Q
      refine zr_ifne (tgt := 64) dX4_measureTo_57 (by decide) (fun hb => ?_) (fun hb => ?_)
      · have k := k.1 hb
        refine zr_iconst (v := 1) dX4_measureTo_64 (by decide) ?_
        refine zr_goto (tgt := 69) dX4_measureTo_65 (by decide) ?_
        refine zr_istore_n dX4_measureTo_69 rfl (Nat.le_of_ble_eq_true rfl) rfl ?_
        refine zr_iinc (v := (v3 + 1)) dX4_measureTo_70 rfl rfl (Nat.le_of_ble_eq_true rfl) rfl ?_
        refine zr_goto (tgt := 38) dX4_measureTo_73 (by decide) ?_
        exact k
      · have k := k.2 hb
        refine zr_iload_n dX4_measureTo_60 rfl rfl ?_
        refine zr_ifeq (tgt := 68) dX4_measureTo_61 (by decide) (fun hb => ?_) (fun hb => ?_)
        · have k := k.1 hb
          refine zr_iconst (v := 0) dX4_measureTo_68 (by decide) ?_
          refine zr_istore_n dX4_measureTo_69 rfl (Nat.le_of_ble_eq_true rfl) rfl ?_
          refine zr_iinc (v := (v3 + 1)) dX4_measureTo_70 rfl rfl (Nat.le_of_ble_eq_true rfl) rfl ?_
          refine zr_goto (tgt := 38) dX4_measureTo_73 (by decide) ?_
          exact k
        · have k := k.2 hb
          refine zr_iconst (v := 1) dX4_measureTo_64 (by decide) ?_
          refine zr_goto (tgt := 69) dX4_measureTo_65 (by decide) ?_
          refine zr_istore_n dX4_measureTo_69 rfl (Nat.le_of_ble_eq_true rfl) rfl ?_
          refine zr_iinc (v := (v3 + 1)) dX4_measureTo_70 rfl rfl (Nat.le_of_ble_eq_true rfl) rfl ?_
          refine zr_goto (tgt := 38) dX4_measureTo_73 (by decide) ?_
          exact k
set_option maxHeartbeats 2000000 in
theorem vX4_tie_0 {G : Gp} {bc bs : Nat} {Q : zPost} {S : zSh} {I : zFI} {L : zFL} {j : Nat} {v1 : Int32} {v2 : Int32} (hS : zStd S) (hj : zJn j) (k : ((v1 < 0 → Q none S I L) ∧ (¬ v1 < 0 → (((48 : Int32) ≤ v1 → Q none S I L) ∧ (¬ (48 : Int32) ≤ v1 → ((v2 < 0 → Q none S I L) ∧ (¬ v2 < 0 → (((48 : Int32) ≤ v2 → Q none S I L) ∧ (¬ (48 : Int32) ≤ v2 → vp_in v1 48 ∧ vp_in v2 48 ∧ Q none S (u2 (u2 I (j + 5) v1.toNatClampNeg v2) (j + 5) v2.toNatClampNeg v1) L))))))))) : ZW G mX4_tie fX4_tie lX4_tie 0 [zo G j, .int v1, .int v2] [] S I L bc bs Q := by
  refine zr_iload_n dX4_tie_0 rfl rfl ?_
  refine zr_iflt (tgt := 34) dX4_tie_1 (by decide) (fun hb => ?_) (fun hb => ?_)
  · have k := k.1 hb
    exact zr_return_ dX4_tie_34 rfl k
  · have k := k.2 hb
    refine zr_iload_n dX4_tie_4 rfl rfl ?_
    refine zr_bipush (v := 48) dX4_tie_5 (by decide) ?_
    refine zr_icge (tgt := 34) dX4_tie_7 (by decide) (fun hb => ?_) (fun hb => ?_)
    · have k := k.1 hb
      exact zr_return_ dX4_tie_34 rfl k
    · have k := k.2 hb
      refine zr_iload_n dX4_tie_10 rfl rfl ?_
      refine zr_iflt (tgt := 34) dX4_tie_11 (by decide) (fun hb => ?_) (fun hb => ?_)
      · have k := k.1 hb
        exact zr_return_ dX4_tie_34 rfl k
      · have k := k.2 hb
        refine zr_iload_n dX4_tie_14 rfl rfl ?_
        refine zr_bipush (v := 48) dX4_tie_15 (by decide) ?_
        refine zr_icge (tgt := 34) dX4_tie_17 (by decide) (fun hb => ?_) (fun hb => ?_)
        · have k := k.1 hb
          exact zr_return_ dX4_tie_34 rfl k
        · have k := k.2 hb
          refine zr_aload_n dX4_tie_20 rfl rfl ?_
          refine zr_getR dX4_tie_21 zf_X4_42 rfl (hS.hasJ hj 0 rfl rfl rfl) (hS.refJ hj (d := 5) rfl rfl) ?_
          refine zr_iload_n dX4_tie_24 rfl rfl ?_
          refine zr_iload_n dX4_tie_25 rfl rfl ?_
          obtain ⟨hi1, k⟩ := k
          refine zr_iast dX4_tie_26 (hS.hasJ hj 5 rfl rfl rfl) hi1 ?_
          refine zr_aload_n dX4_tie_27 rfl rfl ?_
          refine zr_getR dX4_tie_28 zf_X4_42 rfl (hS.hasJ hj 0 rfl rfl rfl) (hS.refJ hj (d := 5) rfl rfl) ?_
          refine zr_iload_n dX4_tie_31 rfl rfl ?_
          refine zr_iload_n dX4_tie_32 rfl rfl ?_
          obtain ⟨hi2, k⟩ := k
          refine zr_iast dX4_tie_33 (hS.hasJ hj 5 rfl rfl rfl) hi2 ?_
          exact zr_return_ dX4_tie_34 rfl k
set_option maxHeartbeats 2000000 in
theorem vX4_turnOver_0 {G : Gp} {bc bs : Nat} {Q : zPost} {S : zSh} {I : zFI} {L : zFL} {j : Nat} {v1 : Int32} {v2 : Int32} (hS : zStd S) (hj : zJn j) (k : ZW G mX4_turnOver fX4_turnOver lX4_turnOver 5 [zo G j, .int v1, .int v2, .int v1, .int (0 : Int32), .null] [] S I L bc bs Q) : ZW G mX4_turnOver fX4_turnOver lX4_turnOver 0 [zo G j, .int v1, .int v2, .null, .null, .null] [] S I L bc bs Q := by
  refine zr_iload_n dX4_turnOver_0 rfl rfl ?_
  refine zr_istore_n dX4_turnOver_1 rfl (Nat.le_of_ble_eq_true rfl) rfl ?_
  refine zr_iconst (v := 0) dX4_turnOver_2 (by decide) ?_
  refine zr_istore dX4_turnOver_3 (Nat.le_of_ble_eq_true rfl) rfl ?_
  exact k
set_option maxHeartbeats 2000000 in
theorem vX4_turnOver_5 {G : Gp} {bc bs : Nat} {Q : zPost} {S : zSh} {I : zFI} {L : zFL} {j : Nat} {v1 : Int32} {v2 : Int32} {v3 : Int32} {v4 : Int32} (hS : zStd S) (hj : zJn j) (k : (((50 : Int32) ≤ v4 → ZW G mX4_turnOver fX4_turnOver lX4_turnOver 79 [zo G j, .int v1, .int v2, .int v1, .int (0 : Int32), .null] [] S I L bc bs Q) ∧ (¬ (50 : Int32) ≤ v4 → ((v3 = v2 → ZW G mX4_turnOver fX4_turnOver lX4_turnOver 79 [zo G j, .int v1, .int v2, .int v1, .int (0 : Int32), .null] [] S I L bc bs Q) ∧ (¬ v3 = v2 → (((p_X4_has (L j 6) v3) = 0 → ZW G mX4_turnOver fX4_turnOver lX4_turnOver 5 [zo G j, .int v1, .int v2, .int (p_X11_pick I (j + 7) 50 v3), .int (v4 + 1), .null] [] S I L bc bs Q) ∧ (¬ (p_X4_has (L j 6) v3) = 0 → (((p_X4_has (L j 5) (p_X11_pick I (j + 7) 50 v3)) = 0 → ZW G mX4_turnOver fX4_turnOver lX4_turnOver 5 [zo G j, .int v1, .int v2, .int (p_X11_pick I (j + 7) 50 v3), .int (v4 + 1), .null] [] S I L bc bs Q) ∧ (¬ (p_X4_has (L j 5) (p_X11_pick I (j + 7) 50 v3)) = 0 → vp_in v3 48 ∧ vp_in (p_X11_pick I (j + 7) 50 v3) 48 ∧ ZW G mX4_turnOver fX4_turnOver lX4_turnOver 5 [zo G j, .int v1, .int v2, .int (p_X11_pick I (j + 7) 50 v3), .int (v4 + 1), .null] [] S (u2 (u2 I (j + 5) v3.toNatClampNeg (-1 : Int32)) (j + 5) (p_X11_pick I (j + 7) 50 v3).toNatClampNeg (-1 : Int32)) L bc bs Q))))))))) : ZW G mX4_turnOver fX4_turnOver lX4_turnOver 5 [zo G j, .int v1, .int v2, .int v3, .int v4, .null] [] S I L bc bs Q := by
  refine zr_iload dX4_turnOver_5 rfl ?_
  refine zr_bipush (v := 50) dX4_turnOver_7 (by decide) ?_
  refine zr_icge (tgt := 74) dX4_turnOver_9 (by decide) (fun hb => ?_) (fun hb => ?_)
  · have k := k.1 hb
    refine zr_iload_n dX4_turnOver_74 rfl rfl ?_
    refine zr_istore_n dX4_turnOver_75 rfl (Nat.le_of_ble_eq_true rfl) rfl ?_
    refine zr_iconst (v := 0) dX4_turnOver_76 (by decide) ?_
    refine zr_istore dX4_turnOver_77 (Nat.le_of_ble_eq_true rfl) rfl ?_
    exact k
  · have k := k.2 hb
    refine zr_iload_n dX4_turnOver_12 rfl rfl ?_
    refine zr_iload_n dX4_turnOver_13 rfl rfl ?_
    refine zr_iceq (tgt := 74) dX4_turnOver_14 (by decide) (fun hb => ?_) (fun hb => ?_)
    · have k := k.1 hb
      refine zr_iload_n dX4_turnOver_74 rfl rfl ?_
      refine zr_istore_n dX4_turnOver_75 rfl (Nat.le_of_ble_eq_true rfl) rfl ?_
      refine zr_iconst (v := 0) dX4_turnOver_76 (by decide) ?_
      refine zr_istore dX4_turnOver_77 (Nat.le_of_ble_eq_true rfl) rfl ?_
      exact k
    · have k := k.2 hb
      refine zr_aload_n dX4_turnOver_17 rfl rfl ?_
      refine zr_getR dX4_turnOver_18 zf_X4_48 rfl (hS.hasJ hj 0 rfl rfl rfl) (hS.refJ hj (d := 7) rfl rfl) ?_
      refine zr_iload_n dX4_turnOver_21 rfl rfl ?_
      refine zr_callSN (As := [zo G (j + 7), .int v3]) (fr' := fX11_pick) (lo' := lX11_pick) (bc' := 0) (bs' := 0) (bcr := bc) (bsr := bs) dX4_turnOver_22 zsn_X4_83 zst_X11_pick rfl rfl (Nat.le_of_ble_eq_true rfl) (Nat.le_of_ble_eq_true rfl) (Nat.le_of_ble_eq_true rfl) (Nat.le_refl _) (Nat.le_refl _) ?_
      refine sp_X11_pick hS (hS.hasJ hj 7 rfl rfl rfl) rfl ?_
      show ZW G mX4_turnOver fX4_turnOver lX4_turnOver 25 [zo G j, .int v1, .int v2, .int v3, .int v4, .null] [.int (p_X11_pick I (j + 7) 50 v3)] S I L bc bs Q
      refine zr_istore dX4_turnOver_25 (Nat.le_of_ble_eq_true rfl) rfl ?_
      refine zr_aload_n dX4_turnOver_27 rfl rfl ?_
      refine zr_getJv (x := (L j 6)) dX4_turnOver_28 zf_X4_33 rfl (hS.hasJ hj 0 rfl rfl rfl) rfl ?_
      refine zr_iload_n dX4_turnOver_31 rfl rfl ?_
      refine zr_callS (As := [.long (L j 6), .int v3]) (fr' := fX4_has) (lo' := lX4_has) (bc' := 0) (bs' := 0) (bcr := bc) (bsr := bs) dX4_turnOver_32 zs_X4_72 zst_X4_has rfl rfl (Nat.le_of_ble_eq_true rfl) (Nat.le_of_ble_eq_true rfl) (Nat.le_of_ble_eq_true rfl) (Nat.le_refl _) (Nat.le_refl _) ?_
      refine sp_X4_has hS  ?_
      show ZW G mX4_turnOver fX4_turnOver lX4_turnOver 35 [zo G j, .int v1, .int v2, .int v3, .int v4, .int (p_X11_pick I (j + 7) 50 v3)] [.int (p_X4_has (L j 6) v3)] S I L bc bs Q
      refine zr_ifeq (tgt := 65) dX4_turnOver_35 (by decide) (fun hb => ?_) (fun hb => ?_)
      · have k := k.1 hb
        refine zr_iload dX4_turnOver_65 rfl ?_
        refine zr_istore_n dX4_turnOver_67 rfl (Nat.le_of_ble_eq_true rfl) rfl ?_
        refine zr_iinc (v := (v4 + 1)) dX4_turnOver_68 rfl rfl (Nat.le_of_ble_eq_true rfl) rfl ?_
        refine zr_goto (tgt := 5) dX4_turnOver_71 (by decide) ?_
        exact zr_mask [true, true, true, true, true, false] rfl k
      · have k := k.2 hb
        refine zr_aload_n dX4_turnOver_38 rfl rfl ?_
        refine zr_getJv (x := (L j 5)) dX4_turnOver_39 zf_X4_29 rfl (hS.hasJ hj 0 rfl rfl rfl) rfl ?_
        refine zr_iload dX4_turnOver_42 rfl ?_
        refine zr_callS (As := [.long (L j 5), .int (p_X11_pick I (j + 7) 50 v3)]) (fr' := fX4_has) (lo' := lX4_has) (bc' := 0) (bs' := 0) (bcr := bc) (bsr := bs) dX4_turnOver_44 zs_X4_72 zst_X4_has rfl rfl (Nat.le_of_ble_eq_true rfl) (Nat.le_of_ble_eq_true rfl) (Nat.le_of_ble_eq_true rfl) (Nat.le_refl _) (Nat.le_refl _) ?_
        refine sp_X4_has hS  ?_
        show ZW G mX4_turnOver fX4_turnOver lX4_turnOver 47 [zo G j, .int v1, .int v2, .int v3, .int v4, .int (p_X11_pick I (j + 7) 50 v3)] [.int (p_X4_has (L j 5) (p_X11_pick I (j + 7) 50 v3))] S I L bc bs Q
        refine zr_ifeq (tgt := 65) dX4_turnOver_47 (by decide) (fun hb => ?_) (fun hb => ?_)
        · have k := k.1 hb
          refine zr_iload dX4_turnOver_65 rfl ?_
          refine zr_istore_n dX4_turnOver_67 rfl (Nat.le_of_ble_eq_true rfl) rfl ?_
          refine zr_iinc (v := (v4 + 1)) dX4_turnOver_68 rfl rfl (Nat.le_of_ble_eq_true rfl) rfl ?_
          refine zr_goto (tgt := 5) dX4_turnOver_71 (by decide) ?_
          exact zr_mask [true, true, true, true, true, false] rfl k
        · have k := k.2 hb
          refine zr_aload_n dX4_turnOver_50 rfl rfl ?_
          refine zr_getR dX4_turnOver_51 zf_X4_42 rfl (hS.hasJ hj 0 rfl rfl rfl) (hS.refJ hj (d := 5) rfl rfl) ?_
          refine zr_iload_n dX4_turnOver_54 rfl rfl ?_
          refine zr_iconst (v := -1) dX4_turnOver_55 (by decide) ?_
          obtain ⟨hi1, k⟩ := k
          refine zr_iast dX4_turnOver_56 (hS.hasJ hj 5 rfl rfl rfl) hi1 ?_
          refine zr_aload_n dX4_turnOver_57 rfl rfl ?_
          refine zr_getR dX4_turnOver_58 zf_X4_42 rfl (hS.hasJ hj 0 rfl rfl rfl) (hS.refJ hj (d := 5) rfl rfl) ?_
          refine zr_iload dX4_turnOver_61 rfl ?_
          refine zr_iconst (v := -1) dX4_turnOver_63 (by decide) ?_
          obtain ⟨hi2, k⟩ := k
          refine zr_iast dX4_turnOver_64 (hS.hasJ hj 5 rfl rfl rfl) hi2 ?_
          refine zr_iload dX4_turnOver_65 rfl ?_
          refine zr_istore_n dX4_turnOver_67 rfl (Nat.le_of_ble_eq_true rfl) rfl ?_
          refine zr_iinc (v := (v4 + 1)) dX4_turnOver_68 rfl rfl (Nat.le_of_ble_eq_true rfl) rfl ?_
          refine zr_goto (tgt := 5) dX4_turnOver_71 (by decide) ?_
          exact zr_mask [true, true, true, true, true, false] rfl k
set_option maxHeartbeats 2000000 in
theorem vX4_turnOver_79 {G : Gp} {bc bs : Nat} {Q : zPost} {S : zSh} {I : zFI} {L : zFL} {j : Nat} {v1 : Int32} {v2 : Int32} {v3 : Int32} {v4 : Int32} (hS : zStd S) (hj : zJn j) (k : (((50 : Int32) ≤ v4 → Q none S I L) ∧ (¬ (50 : Int32) ≤ v4 → ((v3 = v2 → Q none S I L) ∧ (¬ v3 = v2 → (((p_X4_has (L j 5) v3) = 0 → ZW G mX4_turnOver fX4_turnOver lX4_turnOver 79 [zo G j, .int v1, .int v2, .int (p_X11_pick I (j + 7) 50 v3), .int (v4 + 1), .null] [] S I L bc bs Q) ∧ (¬ (p_X4_has (L j 5) v3) = 0 → (((p_X4_has (L j 6) (p_X11_pick I (j + 7) 50 v3)) = 0 → ZW G mX4_turnOver fX4_turnOver lX4_turnOver 79 [zo G j, .int v1, .int v2, .int (p_X11_pick I (j + 7) 50 v3), .int (v4 + 1), .null] [] S I L bc bs Q) ∧ (¬ (p_X4_has (L j 6) (p_X11_pick I (j + 7) 50 v3)) = 0 → ZC G mX4_tie fX4_tie lX4_tie [zo G j, .int v3, .int (p_X11_pick I (j + 7) 50 v3)] S I L 0 0 (fun w S' I1 L1 => w = none ∧ S = S' ∧ ZW G mX4_turnOver fX4_turnOver lX4_turnOver 79 [zo G j, .int v1, .int v2, .int (p_X11_pick I (j + 7) 50 v3), .int (v4 + 1), .null] [] S I1 L1 bc bs Q)))))))))) : ZW G mX4_turnOver fX4_turnOver lX4_turnOver 79 [zo G j, .int v1, .int v2, .int v3, .int v4, .null] [] S I L bc bs Q := by
  refine zr_iload dX4_turnOver_79 rfl ?_
  refine zr_bipush (v := 50) dX4_turnOver_81 (by decide) ?_
  refine zr_icge (tgt := 140) dX4_turnOver_83 (by decide) (fun hb => ?_) (fun hb => ?_)
  · have k := k.1 hb
    exact zr_return_ dX4_turnOver_140 rfl k
  · have k := k.2 hb
    refine zr_iload_n dX4_turnOver_86 rfl rfl ?_
    refine zr_iload_n dX4_turnOver_87 rfl rfl ?_
    refine zr_iceq (tgt := 140) dX4_turnOver_88 (by decide) (fun hb => ?_) (fun hb => ?_)
    · have k := k.1 hb
      exact zr_return_ dX4_turnOver_140 rfl k
    · have k := k.2 hb
      refine zr_aload_n dX4_turnOver_91 rfl rfl ?_
      refine zr_getR dX4_turnOver_92 zf_X4_48 rfl (hS.hasJ hj 0 rfl rfl rfl) (hS.refJ hj (d := 7) rfl rfl) ?_
      refine zr_iload_n dX4_turnOver_95 rfl rfl ?_
      refine zr_callSN (As := [zo G (j + 7), .int v3]) (fr' := fX11_pick) (lo' := lX11_pick) (bc' := 0) (bs' := 0) (bcr := bc) (bsr := bs) dX4_turnOver_96 zsn_X4_83 zst_X11_pick rfl rfl (Nat.le_of_ble_eq_true rfl) (Nat.le_of_ble_eq_true rfl) (Nat.le_of_ble_eq_true rfl) (Nat.le_refl _) (Nat.le_refl _) ?_
      refine sp_X11_pick hS (hS.hasJ hj 7 rfl rfl rfl) rfl ?_
      show ZW G mX4_turnOver fX4_turnOver lX4_turnOver 99 [zo G j, .int v1, .int v2, .int v3, .int v4, .null] [.int (p_X11_pick I (j + 7) 50 v3)] S I L bc bs Q
      refine zr_istore dX4_turnOver_99 (Nat.le_of_ble_eq_true rfl) rfl ?_
      refine zr_aload_n dX4_turnOver_101 rfl rfl ?_
      refine zr_getJv (x := (L j 5)) dX4_turnOver_102 zf_X4_29 rfl (hS.hasJ hj 0 rfl rfl rfl) rfl ?_
      refine zr_iload_n dX4_turnOver_105 rfl rfl ?_
      refine zr_callS (As := [.long (L j 5), .int v3]) (fr' := fX4_has) (lo' := lX4_has) (bc' := 0) (bs' := 0) (bcr := bc) (bsr := bs) dX4_turnOver_106 zs_X4_72 zst_X4_has rfl rfl (Nat.le_of_ble_eq_true rfl) (Nat.le_of_ble_eq_true rfl) (Nat.le_of_ble_eq_true rfl) (Nat.le_refl _) (Nat.le_refl _) ?_
      refine sp_X4_has hS  ?_
      show ZW G mX4_turnOver fX4_turnOver lX4_turnOver 109 [zo G j, .int v1, .int v2, .int v3, .int v4, .int (p_X11_pick I (j + 7) 50 v3)] [.int (p_X4_has (L j 5) v3)] S I L bc bs Q
      refine zr_ifeq (tgt := 131) dX4_turnOver_109 (by decide) (fun hb => ?_) (fun hb => ?_)
      · have k := k.1 hb
        refine zr_iload dX4_turnOver_131 rfl ?_
        refine zr_istore_n dX4_turnOver_133 rfl (Nat.le_of_ble_eq_true rfl) rfl ?_
        refine zr_iinc (v := (v4 + 1)) dX4_turnOver_134 rfl rfl (Nat.le_of_ble_eq_true rfl) rfl ?_
        refine zr_goto (tgt := 79) dX4_turnOver_137 (by decide) ?_
        exact zr_mask [true, true, true, true, true, false] rfl k
      · have k := k.2 hb
        refine zr_aload_n dX4_turnOver_112 rfl rfl ?_
        refine zr_getJv (x := (L j 6)) dX4_turnOver_113 zf_X4_33 rfl (hS.hasJ hj 0 rfl rfl rfl) rfl ?_
        refine zr_iload dX4_turnOver_116 rfl ?_
        refine zr_callS (As := [.long (L j 6), .int (p_X11_pick I (j + 7) 50 v3)]) (fr' := fX4_has) (lo' := lX4_has) (bc' := 0) (bs' := 0) (bcr := bc) (bsr := bs) dX4_turnOver_118 zs_X4_72 zst_X4_has rfl rfl (Nat.le_of_ble_eq_true rfl) (Nat.le_of_ble_eq_true rfl) (Nat.le_of_ble_eq_true rfl) (Nat.le_refl _) (Nat.le_refl _) ?_
        refine sp_X4_has hS  ?_
        show ZW G mX4_turnOver fX4_turnOver lX4_turnOver 121 [zo G j, .int v1, .int v2, .int v3, .int v4, .int (p_X11_pick I (j + 7) 50 v3)] [.int (p_X4_has (L j 6) (p_X11_pick I (j + 7) 50 v3))] S I L bc bs Q
        refine zr_ifeq (tgt := 131) dX4_turnOver_121 (by decide) (fun hb => ?_) (fun hb => ?_)
        · have k := k.1 hb
          refine zr_iload dX4_turnOver_131 rfl ?_
          refine zr_istore_n dX4_turnOver_133 rfl (Nat.le_of_ble_eq_true rfl) rfl ?_
          refine zr_iinc (v := (v4 + 1)) dX4_turnOver_134 rfl rfl (Nat.le_of_ble_eq_true rfl) rfl ?_
          refine zr_goto (tgt := 79) dX4_turnOver_137 (by decide) ?_
          exact zr_mask [true, true, true, true, true, false] rfl k
        · have k := k.2 hb
          refine zr_aload_n dX4_turnOver_124 rfl rfl ?_
          refine zr_iload_n dX4_turnOver_125 rfl rfl ?_
          refine zr_iload dX4_turnOver_126 rfl ?_
          refine zr_callV (As := [.int v3, .int (p_X11_pick I (j + 7) 50 v3)]) (fr' := fX4_tie) (lo' := lX4_tie) (bc' := 0) (bs' := 0) (bcr := bc) (bsr := bs) dX4_turnOver_128 zs_X4_93 zi_X4_tie zcl_4 (hS.hasJ hj 0 rfl rfl rfl) rfl rfl (Nat.le_of_ble_eq_true rfl) (Nat.le_of_ble_eq_true rfl) (Nat.le_of_ble_eq_true rfl) (Nat.le_refl _) (Nat.le_refl _) ?_
          refine ZC.mono (fun w S' I1 L1 k => ?_) k
          obtain ⟨rfl, rfl, k⟩ := k
          show ZW G mX4_turnOver fX4_turnOver lX4_turnOver 131 [zo G j, .int v1, .int v2, .int v3, .int v4, .int (p_X11_pick I (j + 7) 50 v3)] [] S I1 L1 bc bs Q
          refine zr_iload dX4_turnOver_131 rfl ?_
          refine zr_istore_n dX4_turnOver_133 rfl (Nat.le_of_ble_eq_true rfl) rfl ?_
          refine zr_iinc (v := (v4 + 1)) dX4_turnOver_134 rfl rfl (Nat.le_of_ble_eq_true rfl) rfl ?_
          refine zr_goto (tgt := 79) dX4_turnOver_137 (by decide) ?_
          exact zr_mask [true, true, true, true, true, false] rfl k
set_option maxHeartbeats 2000000 in
theorem vX4_fill_0 {G : Gp} {bc bs : Nat} {Q : zPost} {S : zSh} {I : zFI} {L : zFL} {j : Nat} (hS : zStd S) (hj : zJn j) (k : ZW G mX4_fill fX4_fill lX4_fill 2 [zo G j, .int (0 : Int32)] [] S I L bc bs Q) : ZW G mX4_fill fX4_fill lX4_fill 0 [zo G j, .null] [] S I L bc bs Q := by
  refine zr_iconst (v := 0) dX4_fill_0 (by decide) ?_
  refine zr_istore_n dX4_fill_1 rfl (Nat.le_of_ble_eq_true rfl) rfl ?_
  exact k
set_option maxHeartbeats 2000000 in
theorem vX4_fill_2 {G : Gp} {bc bs : Nat} {Q : zPost} {S : zSh} {I : zFI} {L : zFL} {j : Nat} {v1 : Int32} (hS : zStd S) (hj : zJn j) (k : (((48 : Int32) ≤ v1 → Q none S I L) ∧ (¬ (48 : Int32) ≤ v1 → ZC G mX4_measureTo fX4_measureTo lX4_measureTo [zo G j, .int (49 : Int32)] S I L 0 0 (fun w S' I1 L1 => w = none ∧ S = S' ∧ ((¬ (I1 (j + 6) (48 : Int32).toNatClampNeg) = (1000000 : Int32) → ZC G mX4_turnOver fX4_turnOver lX4_turnOver [zo G j, .int (48 : Int32), .int (49 : Int32)] S I1 L1 0 0 (fun w S' I2 L2 => w = none ∧ S = S' ∧ ZW G mX4_fill fX4_fill lX4_fill 2 [zo G j, .int (v1 + 1)] [] S I2 L2 bc bs Q)) ∧ ((I1 (j + 6) (48 : Int32).toNatClampNeg) = (1000000 : Int32) → Q none S I1 L1)))))) : ZW G mX4_fill fX4_fill lX4_fill 2 [zo G j, .int v1] [] S I L bc bs Q := by
  refine zr_iload_n dX4_fill_2 rfl rfl ?_
  refine zr_bipush (v := 48) dX4_fill_3 (by decide) ?_
  refine zr_icge (tgt := 41) dX4_fill_5 (by decide) (fun hb => ?_) (fun hb => ?_)
  · have k := k.1 hb
    exact zr_return_ dX4_fill_41 rfl k
  · have k := k.2 hb
    refine zr_aload_n dX4_fill_8 rfl rfl ?_
    refine zr_bipush (v := 49) dX4_fill_9 (by decide) ?_
    refine zr_callV (As := [.int (49 : Int32)]) (fr' := fX4_measureTo) (lo' := lX4_measureTo) (bc' := 0) (bs' := 0) (bcr := bc) (bsr := bs) dX4_fill_11 zs_X4_63 zi_X4_measureTo zcl_4 (hS.hasJ hj 0 rfl rfl rfl) rfl rfl (Nat.le_of_ble_eq_true rfl) (Nat.le_of_ble_eq_true rfl) (Nat.le_of_ble_eq_true rfl) (Nat.le_refl _) (Nat.le_refl _) ?_
    refine ZC.mono (fun w S' I1 L1 k => ?_) k
    obtain ⟨rfl, rfl, k⟩ := k
    show ZW G mX4_fill fX4_fill lX4_fill 14 [zo G j, .int v1] [] S I1 L1 bc bs Q
    refine zr_aload_n dX4_fill_14 rfl rfl ?_
    refine zr_getR dX4_fill_15 zf_X4_45 rfl (hS.hasJ hj 0 rfl rfl rfl) (hS.refJ hj (d := 6) rfl rfl) ?_
    refine zr_bipush (v := 48) dX4_fill_18 (by decide) ?_
    refine zr_ialdv (x := (I1 (j + 6) (48 : Int32).toNatClampNeg)) dX4_fill_20 (hS.hasJ hj 6 rfl rfl rfl) (zvl (by decide)) rfl ?_
    refine zr_ldc dX4_fill_21 zk_X4_67 ?_
    refine zr_icne (tgt := 27) dX4_fill_23 (by decide) (fun hb => ?_) (fun hb => ?_)
    · have k := k.1 hb
      refine zr_aload_n dX4_fill_27 rfl rfl ?_
      refine zr_bipush (v := 48) dX4_fill_28 (by decide) ?_
      refine zr_bipush (v := 49) dX4_fill_30 (by decide) ?_
      refine zr_callV (As := [.int (48 : Int32), .int (49 : Int32)]) (fr' := fX4_turnOver) (lo' := lX4_turnOver) (bc' := 0) (bs' := 0) (bcr := bc) (bsr := bs) dX4_fill_32 zs_X4_68 zi_X4_turnOver zcl_4 (hS.hasJ hj 0 rfl rfl rfl) rfl rfl (Nat.le_of_ble_eq_true rfl) (Nat.le_of_ble_eq_true rfl) (Nat.le_of_ble_eq_true rfl) (Nat.le_refl _) (Nat.le_refl _) ?_
      refine ZC.mono (fun w S' I2 L2 k => ?_) k
      obtain ⟨rfl, rfl, k⟩ := k
      show ZW G mX4_fill fX4_fill lX4_fill 35 [zo G j, .int v1] [] S I2 L2 bc bs Q
      refine zr_iinc (v := (v1 + 1)) dX4_fill_35 rfl rfl (Nat.le_of_ble_eq_true rfl) rfl ?_
      refine zr_goto (tgt := 2) dX4_fill_38 (by decide) ?_
      exact k
    · have k := k.2 hb
      exact zr_return_ dX4_fill_26 rfl k
set_option maxHeartbeats 2000000 in
theorem vX4_chooseFirstHole_0 {G : Gp} {bc bs : Nat} {Q : zPost} {S : zSh} {I : zFI} {L : zFL} {j : Nat} {v1 : Int32} (hS : zStd S) (hj : zJn j) (k : ZW G mX4_chooseFirstHole fX4_chooseFirstHole lX4_chooseFirstHole 2 [zo G j, .int v1, .int (0 : Int32), .null] [] S I L bc bs Q) : ZW G mX4_chooseFirstHole fX4_chooseFirstHole lX4_chooseFirstHole 0 [zo G j, .int v1, .null, .null] [] S I L bc bs Q := by
  refine zr_iconst (v := 0) dX4_chooseFirstHole_0 (by decide) ?_
  refine zr_istore_n dX4_chooseFirstHole_1 rfl (Nat.le_of_ble_eq_true rfl) rfl ?_
  exact k
set_option maxHeartbeats 2000000 in
theorem vX4_chooseFirstHole_2 {G : Gp} {bc bs : Nat} {Q : zPost} {S : zSh} {I : zFI} {L : zFL} {j : Nat} {v1 : Int32} {v2 : Int32} (hS : zStd S) (hj : zJn j) (k : (((I j 4) ≤ v2 → Q none S I (u2 L j 7 ((L j 7) ||| ((1 : Int64) <<< (v1.toInt64 &&& 63))))) ∧ (¬ (I j 4) ≤ v2 → (((576 : Int32) ≤ v2 → Q none S I (u2 L j 7 ((L j 7) ||| ((1 : Int64) <<< (v1.toInt64 &&& 63))))) ∧ (¬ (576 : Int32) ≤ v2 → vp_in v2 576 ∧ (((I (j + 2) v2.toNatClampNeg) = v1 → ((¬ (p_X4_partnerOf I j v1) = (I (j + 3) v2.toNatClampNeg) → ((¬ (p_X11_pick I (j + 6) 50 (I (j + 3) v2.toNatClampNeg)) = (-(I (j + 4) v2.toNatClampNeg)) → ZW G mX4_chooseFirstHole fX4_chooseFirstHole lX4_chooseFirstHole 2 [zo G j, .int v1, .int (v2 + 1), .null] [] S I L bc bs Q) ∧ ((p_X11_pick I (j + 6) 50 (I (j + 3) v2.toNatClampNeg)) = (-(I (j + 4) v2.toNatClampNeg)) → ZC G mX4_turnOver fX4_turnOver lX4_turnOver [zo G j, .int (I (j + 3) v2.toNatClampNeg), .int v1] S I L 0 0 (fun w S' I1 L1 => w = none ∧ S = S' ∧ ZC G mX4_tie fX4_tie lX4_tie [zo G j, .int v1, .int (I (j + 3) v2.toNatClampNeg)] S I1 L1 0 0 (fun w S' I2 L2 => w = none ∧ S = S' ∧ Q none S I2 (u2 L2 j 7 ((L2 j 7) ||| ((1 : Int64) <<< (v1.toInt64 &&& 63))))))))) ∧ ((p_X4_partnerOf I j v1) = (I (j + 3) v2.toNatClampNeg) → Q none S I (u2 L j 7 ((L j 7) ||| ((1 : Int64) <<< (v1.toInt64 &&& 63))))))) ∧ (¬ (I (j + 2) v2.toNatClampNeg) = v1 → ZW G mX4_chooseFirstHole fX4_chooseFirstHole lX4_chooseFirstHole 2 [zo G j, .int v1, .int (v2 + 1), .null] [] S I L bc bs Q))))))) : ZW G mX4_chooseFirstHole fX4_chooseFirstHole lX4_chooseFirstHole 2 [zo G j, .int v1, .int v2, .null] [] S I L bc bs Q := by
  refine zr_iload_n dX4_chooseFirstHole_2 rfl rfl ?_
  refine zr_aload_n dX4_chooseFirstHole_3 rfl rfl ?_
  refine zr_getIv (x := (I j 4)) dX4_chooseFirstHole_4 zf_X4_25 rfl (hS.hasJ hj 0 rfl rfl rfl) rfl ?_
  refine zr_icge (tgt := 88) dX4_chooseFirstHole_7 (by decide) (fun hb => ?_) (fun hb => ?_)
  · have k := k.1 hb
    refine zr_aload_n dX4_chooseFirstHole_88 rfl rfl ?_
    refine zr_dup dX4_chooseFirstHole_89 rfl ?_
    refine zr_getJv (x := (L j 7)) dX4_chooseFirstHole_90 zf_X4_36 rfl (hS.hasJ hj 0 rfl rfl rfl) rfl ?_
    refine zr_lconst (v := 1) dX4_chooseFirstHole_93 (by decide) ?_
    refine zr_iload_n dX4_chooseFirstHole_94 rfl rfl ?_
    refine zr_lshl dX4_chooseFirstHole_95 rfl ?_
    refine zr_lor dX4_chooseFirstHole_96 ?_
    refine zr_putJ dX4_chooseFirstHole_97 zf_X4_36 rfl (hS.hasJ hj 0 rfl rfl rfl) rfl rfl ?_
    exact zr_return_ dX4_chooseFirstHole_100 rfl k
  · have k := k.2 hb
    refine zr_iload_n dX4_chooseFirstHole_10 rfl rfl ?_
    refine zr_sipush (v := 576) dX4_chooseFirstHole_11 (by decide) ?_
    refine zr_icge (tgt := 88) dX4_chooseFirstHole_14 (by decide) (fun hb => ?_) (fun hb => ?_)
    · have k := k.1 hb
      refine zr_aload_n dX4_chooseFirstHole_88 rfl rfl ?_
      refine zr_dup dX4_chooseFirstHole_89 rfl ?_
      refine zr_getJv (x := (L j 7)) dX4_chooseFirstHole_90 zf_X4_36 rfl (hS.hasJ hj 0 rfl rfl rfl) rfl ?_
      refine zr_lconst (v := 1) dX4_chooseFirstHole_93 (by decide) ?_
      refine zr_iload_n dX4_chooseFirstHole_94 rfl rfl ?_
      refine zr_lshl dX4_chooseFirstHole_95 rfl ?_
      refine zr_lor dX4_chooseFirstHole_96 ?_
      refine zr_putJ dX4_chooseFirstHole_97 zf_X4_36 rfl (hS.hasJ hj 0 rfl rfl rfl) rfl rfl ?_
      exact zr_return_ dX4_chooseFirstHole_100 rfl k
    · have k := k.2 hb
      refine zr_aload_n dX4_chooseFirstHole_17 rfl rfl ?_
      refine zr_getR dX4_chooseFirstHole_18 zf_X4_19 rfl (hS.hasJ hj 0 rfl rfl rfl) (hS.refJ hj (d := 3) rfl rfl) ?_
      refine zr_iload_n dX4_chooseFirstHole_21 rfl rfl ?_
      obtain ⟨hi1, k⟩ := k
      refine zr_ialdv (x := (I (j + 3) v2.toNatClampNeg)) dX4_chooseFirstHole_22 (hS.hasJ hj 3 rfl rfl rfl) hi1 rfl ?_
      refine zr_istore_n dX4_chooseFirstHole_23 rfl (Nat.le_of_ble_eq_true rfl) rfl ?_
      refine zr_aload_n dX4_chooseFirstHole_24 rfl rfl ?_
      refine zr_getR dX4_chooseFirstHole_25 zf_X4_15 rfl (hS.hasJ hj 0 rfl rfl rfl) (hS.refJ hj (d := 2) rfl rfl) ?_
      refine zr_iload_n dX4_chooseFirstHole_28 rfl rfl ?_
      refine zr_ialdv (x := (I (j + 2) v2.toNatClampNeg)) dX4_chooseFirstHole_29 (hS.hasJ hj 2 rfl rfl rfl) hi1 rfl ?_
      refine zr_iload_n dX4_chooseFirstHole_30 rfl rfl ?_
      refine zr_iceq (tgt := 37) dX4_chooseFirstHole_31 (by decide) (fun hb => ?_) (fun hb => ?_)
      · have k := k.1 hb
        refine zr_aload_n dX4_chooseFirstHole_37 rfl rfl ?_
        refine zr_iload_n dX4_chooseFirstHole_38 rfl rfl ?_
        refine zr_callV (As := [.int v1]) (fr' := fX4_partnerOf) (lo' := lX4_partnerOf) (bc' := 0) (bs' := 0) (bcr := bc) (bsr := bs) dX4_chooseFirstHole_39 zs_X4_79 zi_X4_partnerOf zcl_4 (hS.hasJ hj 0 rfl rfl rfl) rfl rfl (Nat.le_of_ble_eq_true rfl) (Nat.le_of_ble_eq_true rfl) (Nat.le_of_ble_eq_true rfl) (Nat.le_refl _) (Nat.le_refl _) ?_
        refine sp_X4_partnerOf hS hj ?_
        show ZW G mX4_chooseFirstHole fX4_chooseFirstHole lX4_chooseFirstHole 42 [zo G j, .int v1, .int v2, .int (I (j + 3) v2.toNatClampNeg)] [.int (p_X4_partnerOf I j v1)] S I L bc bs Q
        refine zr_iload_n dX4_chooseFirstHole_42 rfl rfl ?_
        refine zr_icne (tgt := 49) dX4_chooseFirstHole_43 (by decide) (fun hb => ?_) (fun hb => ?_)
        · have k := k.1 hb
          refine zr_aload_n dX4_chooseFirstHole_49 rfl rfl ?_
          refine zr_getR dX4_chooseFirstHole_50 zf_X4_45 rfl (hS.hasJ hj 0 rfl rfl rfl) (hS.refJ hj (d := 6) rfl rfl) ?_
          refine zr_iload_n dX4_chooseFirstHole_53 rfl rfl ?_
          refine zr_callSN (As := [zo G (j + 6), .int (I (j + 3) v2.toNatClampNeg)]) (fr' := fX11_pick) (lo' := lX11_pick) (bc' := 0) (bs' := 0) (bcr := bc) (bsr := bs) dX4_chooseFirstHole_54 zsn_X4_83 zst_X11_pick rfl rfl (Nat.le_of_ble_eq_true rfl) (Nat.le_of_ble_eq_true rfl) (Nat.le_of_ble_eq_true rfl) (Nat.le_refl _) (Nat.le_refl _) ?_
          refine sp_X11_pick hS (hS.hasJ hj 6 rfl rfl rfl) rfl ?_
          show ZW G mX4_chooseFirstHole fX4_chooseFirstHole lX4_chooseFirstHole 57 [zo G j, .int v1, .int v2, .int (I (j + 3) v2.toNatClampNeg)] [.int (p_X11_pick I (j + 6) 50 (I (j + 3) v2.toNatClampNeg))] S I L bc bs Q
          refine zr_aload_n dX4_chooseFirstHole_57 rfl rfl ?_
          refine zr_getR dX4_chooseFirstHole_58 zf_X4_22 rfl (hS.hasJ hj 0 rfl rfl rfl) (hS.refJ hj (d := 4) rfl rfl) ?_
          refine zr_iload_n dX4_chooseFirstHole_61 rfl rfl ?_
          refine zr_ialdv (x := (I (j + 4) v2.toNatClampNeg)) dX4_chooseFirstHole_62 (hS.hasJ hj 4 rfl rfl rfl) hi1 rfl ?_
          refine zr_ineg dX4_chooseFirstHole_63 ?_
          refine zr_icne (tgt := 82) dX4_chooseFirstHole_64 (by decide) (fun hb => ?_) (fun hb => ?_)
          · have k := k.1 hb
            refine zr_iinc (v := (v2 + 1)) dX4_chooseFirstHole_82 rfl rfl (Nat.le_of_ble_eq_true rfl) rfl ?_
            refine zr_goto (tgt := 2) dX4_chooseFirstHole_85 (by decide) ?_
            exact zr_mask [true, true, true, false] rfl k
          · have k := k.2 hb
            refine zr_aload_n dX4_chooseFirstHole_67 rfl rfl ?_
            refine zr_iload_n dX4_chooseFirstHole_68 rfl rfl ?_
            refine zr_iload_n dX4_chooseFirstHole_69 rfl rfl ?_
            refine zr_callV (As := [.int (I (j + 3) v2.toNatClampNeg), .int v1]) (fr' := fX4_turnOver) (lo' := lX4_turnOver) (bc' := 0) (bs' := 0) (bcr := bc) (bsr := bs) dX4_chooseFirstHole_70 zs_X4_68 zi_X4_turnOver zcl_4 (hS.hasJ hj 0 rfl rfl rfl) rfl rfl (Nat.le_of_ble_eq_true rfl) (Nat.le_of_ble_eq_true rfl) (Nat.le_of_ble_eq_true rfl) (Nat.le_refl _) (Nat.le_refl _) ?_
            refine ZC.mono (fun w S' I1 L1 k => ?_) k
            obtain ⟨rfl, rfl, k⟩ := k
            show ZW G mX4_chooseFirstHole fX4_chooseFirstHole lX4_chooseFirstHole 73 [zo G j, .int v1, .int v2, .int (I (j + 3) v2.toNatClampNeg)] [] S I1 L1 bc bs Q
            refine zr_aload_n dX4_chooseFirstHole_73 rfl rfl ?_
            refine zr_iload_n dX4_chooseFirstHole_74 rfl rfl ?_
            refine zr_iload_n dX4_chooseFirstHole_75 rfl rfl ?_
            refine zr_callV (As := [.int v1, .int (I (j + 3) v2.toNatClampNeg)]) (fr' := fX4_tie) (lo' := lX4_tie) (bc' := 0) (bs' := 0) (bcr := bc) (bsr := bs) dX4_chooseFirstHole_76 zs_X4_93 zi_X4_tie zcl_4 (hS.hasJ hj 0 rfl rfl rfl) rfl rfl (Nat.le_of_ble_eq_true rfl) (Nat.le_of_ble_eq_true rfl) (Nat.le_of_ble_eq_true rfl) (Nat.le_refl _) (Nat.le_refl _) ?_
            refine ZC.mono (fun w S' I2 L2 k => ?_) k
            obtain ⟨rfl, rfl, k⟩ := k
            show ZW G mX4_chooseFirstHole fX4_chooseFirstHole lX4_chooseFirstHole 79 [zo G j, .int v1, .int v2, .int (I (j + 3) v2.toNatClampNeg)] [] S I2 L2 bc bs Q
            refine zr_goto (tgt := 88) dX4_chooseFirstHole_79 (by decide) ?_
            refine zr_aload_n dX4_chooseFirstHole_88 rfl rfl ?_
            refine zr_dup dX4_chooseFirstHole_89 rfl ?_
            refine zr_getJv (x := (L2 j 7)) dX4_chooseFirstHole_90 zf_X4_36 rfl (hS.hasJ hj 0 rfl rfl rfl) rfl ?_
            refine zr_lconst (v := 1) dX4_chooseFirstHole_93 (by decide) ?_
            refine zr_iload_n dX4_chooseFirstHole_94 rfl rfl ?_
            refine zr_lshl dX4_chooseFirstHole_95 rfl ?_
            refine zr_lor dX4_chooseFirstHole_96 ?_
            refine zr_putJ dX4_chooseFirstHole_97 zf_X4_36 rfl (hS.hasJ hj 0 rfl rfl rfl) rfl rfl ?_
            exact zr_return_ dX4_chooseFirstHole_100 rfl k
        · have k := k.2 hb
          refine zr_goto (tgt := 88) dX4_chooseFirstHole_46 (by decide) ?_
          refine zr_aload_n dX4_chooseFirstHole_88 rfl rfl ?_
          refine zr_dup dX4_chooseFirstHole_89 rfl ?_
          refine zr_getJv (x := (L j 7)) dX4_chooseFirstHole_90 zf_X4_36 rfl (hS.hasJ hj 0 rfl rfl rfl) rfl ?_
          refine zr_lconst (v := 1) dX4_chooseFirstHole_93 (by decide) ?_
          refine zr_iload_n dX4_chooseFirstHole_94 rfl rfl ?_
          refine zr_lshl dX4_chooseFirstHole_95 rfl ?_
          refine zr_lor dX4_chooseFirstHole_96 ?_
          refine zr_putJ dX4_chooseFirstHole_97 zf_X4_36 rfl (hS.hasJ hj 0 rfl rfl rfl) rfl rfl ?_
          exact zr_return_ dX4_chooseFirstHole_100 rfl k
      · have k := k.2 hb
        refine zr_goto (tgt := 82) dX4_chooseFirstHole_34 (by decide) ?_
        refine zr_iinc (v := (v2 + 1)) dX4_chooseFirstHole_82 rfl rfl (Nat.le_of_ble_eq_true rfl) rfl ?_
        refine zr_goto (tgt := 2) dX4_chooseFirstHole_85 (by decide) ?_
        exact zr_mask [true, true, true, false] rfl k
set_option maxHeartbeats 2000000 in
theorem vX4_chooseHoles_0 {G : Gp} {bc bs : Nat} {Q : zPost} {S : zSh} {I : zFI} {L : zFL} {j : Nat} (hS : zStd S) (hj : zJn j) (k : ZW G mX4_chooseHoles fX4_chooseHoles lX4_chooseHoles 2 [zo G j, .int (0 : Int32)] [] S I L bc bs Q) : ZW G mX4_chooseHoles fX4_chooseHoles lX4_chooseHoles 0 [zo G j, .null] [] S I L bc bs Q := by
  refine zr_iconst (v := 0) dX4_chooseHoles_0 (by decide) ?_
  refine zr_istore_n dX4_chooseHoles_1 rfl (Nat.le_of_ble_eq_true rfl) rfl ?_
  exact k
set_option maxHeartbeats 2000000 in
theorem vX4_chooseHoles_2 {G : Gp} {bc bs : Nat} {Q : zPost} {S : zSh} {I : zFI} {L : zFL} {j : Nat} {v1 : Int32} (hS : zStd S) (hj : zJn j) (k : (((48 : Int32) ≤ v1 → Q none S I (u2 L j 7 (0 : Int64))) ∧ (¬ (48 : Int32) ≤ v1 → (((p_X4_has (L j 5) v1) = 0 → ZW G mX4_chooseHoles fX4_chooseHoles lX4_chooseHoles 2 [zo G j, .int (v1 + 1)] [] S I L bc bs Q) ∧ (¬ (p_X4_has (L j 5) v1) = 0 → ZC G mX4_measureTo fX4_measureTo lX4_measureTo [zo G j, .int v1] S I L 0 0 (fun w S' I1 L1 => w = none ∧ S = S' ∧ ZC G mX4_chooseFirstHole fX4_chooseFirstHole lX4_chooseFirstHole [zo G j, .int v1] S I1 L1 0 0 (fun w S' I2 L2 => w = none ∧ S = S' ∧ ZW G mX4_chooseHoles fX4_chooseHoles lX4_chooseHoles 2 [zo G j, .int (v1 + 1)] [] S I2 L2 bc bs Q))))))) : ZW G mX4_chooseHoles fX4_chooseHoles lX4_chooseHoles 2 [zo G j, .int v1] [] S I L bc bs Q := by
  refine zr_iload_n dX4_chooseHoles_2 rfl rfl ?_
  refine zr_bipush (v := 48) dX4_chooseHoles_3 (by decide) ?_
  refine zr_icge (tgt := 35) dX4_chooseHoles_5 (by decide) (fun hb => ?_) (fun hb => ?_)
  · have k := k.1 hb
    refine zr_aload_n dX4_chooseHoles_35 rfl rfl ?_
    refine zr_lconst (v := 0) dX4_chooseHoles_36 (by decide) ?_
    refine zr_putJ dX4_chooseHoles_37 zf_X4_36 rfl (hS.hasJ hj 0 rfl rfl rfl) rfl rfl ?_
    exact zr_return_ dX4_chooseHoles_40 rfl k
  · have k := k.2 hb
    refine zr_aload_n dX4_chooseHoles_8 rfl rfl ?_
    refine zr_getJv (x := (L j 5)) dX4_chooseHoles_9 zf_X4_29 rfl (hS.hasJ hj 0 rfl rfl rfl) rfl ?_
    refine zr_iload_n dX4_chooseHoles_12 rfl rfl ?_
    refine zr_callS (As := [.long (L j 5), .int v1]) (fr' := fX4_has) (lo' := lX4_has) (bc' := 0) (bs' := 0) (bcr := bc) (bsr := bs) dX4_chooseHoles_13 zs_X4_72 zst_X4_has rfl rfl (Nat.le_of_ble_eq_true rfl) (Nat.le_of_ble_eq_true rfl) (Nat.le_of_ble_eq_true rfl) (Nat.le_refl _) (Nat.le_refl _) ?_
    refine sp_X4_has hS  ?_
    show ZW G mX4_chooseHoles fX4_chooseHoles lX4_chooseHoles 16 [zo G j, .int v1] [.int (p_X4_has (L j 5) v1)] S I L bc bs Q
    refine zr_ifeq (tgt := 29) dX4_chooseHoles_16 (by decide) (fun hb => ?_) (fun hb => ?_)
    · have k := k.1 hb
      refine zr_iinc (v := (v1 + 1)) dX4_chooseHoles_29 rfl rfl (Nat.le_of_ble_eq_true rfl) rfl ?_
      refine zr_goto (tgt := 2) dX4_chooseHoles_32 (by decide) ?_
      exact k
    · have k := k.2 hb
      refine zr_aload_n dX4_chooseHoles_19 rfl rfl ?_
      refine zr_iload_n dX4_chooseHoles_20 rfl rfl ?_
      refine zr_callV (As := [.int v1]) (fr' := fX4_measureTo) (lo' := lX4_measureTo) (bc' := 0) (bs' := 0) (bcr := bc) (bsr := bs) dX4_chooseHoles_21 zs_X4_63 zi_X4_measureTo zcl_4 (hS.hasJ hj 0 rfl rfl rfl) rfl rfl (Nat.le_of_ble_eq_true rfl) (Nat.le_of_ble_eq_true rfl) (Nat.le_of_ble_eq_true rfl) (Nat.le_refl _) (Nat.le_refl _) ?_
      refine ZC.mono (fun w S' I1 L1 k => ?_) k
      obtain ⟨rfl, rfl, k⟩ := k
      show ZW G mX4_chooseHoles fX4_chooseHoles lX4_chooseHoles 24 [zo G j, .int v1] [] S I1 L1 bc bs Q
      refine zr_aload_n dX4_chooseHoles_24 rfl rfl ?_
      refine zr_iload_n dX4_chooseHoles_25 rfl rfl ?_
      refine zr_callV (As := [.int v1]) (fr' := fX4_chooseFirstHole) (lo' := lX4_chooseFirstHole) (bc' := 0) (bs' := 0) (bcr := bc) (bsr := bs) dX4_chooseHoles_26 zs_X4_76 zi_X4_chooseFirstHole zcl_4 (hS.hasJ hj 0 rfl rfl rfl) rfl rfl (Nat.le_of_ble_eq_true rfl) (Nat.le_of_ble_eq_true rfl) (Nat.le_of_ble_eq_true rfl) (Nat.le_refl _) (Nat.le_refl _) ?_
      refine ZC.mono (fun w S' I2 L2 k => ?_) k
      obtain ⟨rfl, rfl, k⟩ := k
      show ZW G mX4_chooseHoles fX4_chooseHoles lX4_chooseHoles 29 [zo G j, .int v1] [] S I2 L2 bc bs Q
      refine zr_iinc (v := (v1 + 1)) dX4_chooseHoles_29 rfl rfl (Nat.le_of_ble_eq_true rfl) rfl ?_
      refine zr_goto (tgt := 2) dX4_chooseHoles_32 (by decide) ?_
      exact k
set_option maxHeartbeats 2000000 in
theorem vX4_findForced_0 {G : Gp} {bc bs : Nat} {Q : zPost} {S : zSh} {I : zFI} {L : zFL} {j : Nat} (hS : zStd S) (hj : zJn j) (k : ZW G mX4_findForced fX4_findForced lX4_findForced 2 [zo G j, .int (0 : Int32), .null, .null] [] S I L bc bs Q) : ZW G mX4_findForced fX4_findForced lX4_findForced 0 [zo G j, .null, .null, .null] [] S I L bc bs Q := by
  refine zr_iconst (v := 0) dX4_findForced_0 (by decide) ?_
  refine zr_istore_n dX4_findForced_1 rfl (Nat.le_of_ble_eq_true rfl) rfl ?_
  exact k
set_option maxHeartbeats 2000000 in
theorem vX4_findForced_2 {G : Gp} {bc bs : Nat} {Q : zPost} {S : zSh} {I : zFI} {L : zFL} {j : Nat} {v1 : Int32} (hS : zStd S) (hj : zJn j) (k : (((I j 4) ≤ v1 → Q none S I L) ∧ (¬ (I j 4) ≤ v1 → (((576 : Int32) ≤ v1 → Q none S I L) ∧ (¬ (576 : Int32) ≤ v1 → vp_in v1 576 ∧ ((¬ (p_X4_partnerOf I j (I (j + 2) v1.toNatClampNeg)) = (I (j + 3) v1.toNatClampNeg) → ZW G mX4_findForced fX4_findForced lX4_findForced 2 [zo G j, .int (v1 + 1), .null, .null] [] S I L bc bs Q) ∧ ((p_X4_partnerOf I j (I (j + 2) v1.toNatClampNeg)) = (I (j + 3) v1.toNatClampNeg) → ZC G mX4_measureTo fX4_measureTo lX4_measureTo [zo G j, .int (I (j + 3) v1.toNatClampNeg)] S (u2 (u2 I j 12 ((I j 12) + (1 : Int32))) j 13 (((u2 I j 12 ((I j 12) + (1 : Int32))) j 13) + ((u2 I j 12 ((I j 12) + (1 : Int32))) (j + 4) v1.toNatClampNeg))) L 0 0 (fun w S' I1 L1 => w = none ∧ S = S' ∧ (((p_X11_pick I1 (j + 6) 50 (I (j + 2) v1.toNatClampNeg)) = (I1 (j + 4) v1.toNatClampNeg) → ZW G mX4_findForced fX4_findForced lX4_findForced 2 [zo G j, .int (v1 + 1), .null, .null] [] S I1 L1 bc bs Q) ∧ (¬ (p_X11_pick I1 (j + 6) 50 (I (j + 2) v1.toNatClampNeg)) = (I1 (j + 4) v1.toNatClampNeg) → ZW G mX4_findForced fX4_findForced lX4_findForced 2 [zo G j, .int (v1 + 1), .null, .null] [] S I1 (u2 L1 j 8 ((L1 j 8) ||| (((1 : Int64) <<< ((I (j + 2) v1.toNatClampNeg).toInt64 &&& 63)) ||| ((1 : Int64) <<< ((I (j + 3) v1.toNatClampNeg).toInt64 &&& 63))))) bc bs Q)))))))))) : ZW G mX4_findForced fX4_findForced lX4_findForced 2 [zo G j, .int v1, .null, .null] [] S I L bc bs Q := by
  refine zr_iload_n dX4_findForced_2 rfl rfl ?_
  refine zr_aload_n dX4_findForced_3 rfl rfl ?_
  refine zr_getIv (x := (I j 4)) dX4_findForced_4 zf_X4_25 rfl (hS.hasJ hj 0 rfl rfl rfl) rfl ?_
  refine zr_icge (tgt := 109) dX4_findForced_7 (by decide) (fun hb => ?_) (fun hb => ?_)
  · have k := k.1 hb
    exact zr_return_ dX4_findForced_109 rfl k
  · have k := k.2 hb
    refine zr_iload_n dX4_findForced_10 rfl rfl ?_
    refine zr_sipush (v := 576) dX4_findForced_11 (by decide) ?_
    refine zr_icge (tgt := 109) dX4_findForced_14 (by decide) (fun hb => ?_) (fun hb => ?_)
    · have k := k.1 hb
      exact zr_return_ dX4_findForced_109 rfl k
    · have k := k.2 hb
      refine zr_aload_n dX4_findForced_17 rfl rfl ?_
      refine zr_getR dX4_findForced_18 zf_X4_15 rfl (hS.hasJ hj 0 rfl rfl rfl) (hS.refJ hj (d := 2) rfl rfl) ?_
      refine zr_iload_n dX4_findForced_21 rfl rfl ?_
      obtain ⟨hi1, k⟩ := k
      refine zr_ialdv (x := (I (j + 2) v1.toNatClampNeg)) dX4_findForced_22 (hS.hasJ hj 2 rfl rfl rfl) hi1 rfl ?_
      refine zr_istore_n dX4_findForced_23 rfl (Nat.le_of_ble_eq_true rfl) rfl ?_
      refine zr_aload_n dX4_findForced_24 rfl rfl ?_
      refine zr_getR dX4_findForced_25 zf_X4_19 rfl (hS.hasJ hj 0 rfl rfl rfl) (hS.refJ hj (d := 3) rfl rfl) ?_
      refine zr_iload_n dX4_findForced_28 rfl rfl ?_
      refine zr_ialdv (x := (I (j + 3) v1.toNatClampNeg)) dX4_findForced_29 (hS.hasJ hj 3 rfl rfl rfl) hi1 rfl ?_
      refine zr_istore_n dX4_findForced_30 rfl (Nat.le_of_ble_eq_true rfl) rfl ?_
      refine zr_aload_n dX4_findForced_31 rfl rfl ?_
      refine zr_iload_n dX4_findForced_32 rfl rfl ?_
      refine zr_callV (As := [.int (I (j + 2) v1.toNatClampNeg)]) (fr' := fX4_partnerOf) (lo' := lX4_partnerOf) (bc' := 0) (bs' := 0) (bcr := bc) (bsr := bs) dX4_findForced_33 zs_X4_79 zi_X4_partnerOf zcl_4 (hS.hasJ hj 0 rfl rfl rfl) rfl rfl (Nat.le_of_ble_eq_true rfl) (Nat.le_of_ble_eq_true rfl) (Nat.le_of_ble_eq_true rfl) (Nat.le_refl _) (Nat.le_refl _) ?_
      refine sp_X4_partnerOf hS hj ?_
      show ZW G mX4_findForced fX4_findForced lX4_findForced 36 [zo G j, .int v1, .int (I (j + 2) v1.toNatClampNeg), .int (I (j + 3) v1.toNatClampNeg)] [.int (p_X4_partnerOf I j (I (j + 2) v1.toNatClampNeg))] S I L bc bs Q
      refine zr_iload_n dX4_findForced_36 rfl rfl ?_
      refine zr_icne (tgt := 103) dX4_findForced_37 (by decide) (fun hb => ?_) (fun hb => ?_)
      · have k := k.1 hb
        refine zr_iinc (v := (v1 + 1)) dX4_findForced_103 rfl rfl (Nat.le_of_ble_eq_true rfl) rfl ?_
        refine zr_goto (tgt := 2) dX4_findForced_106 (by decide) ?_
        exact zr_mask [true, true, false, false] rfl k
      · have k := k.2 hb
        refine zr_aload_n dX4_findForced_40 rfl rfl ?_
        refine zr_dup dX4_findForced_41 rfl ?_
        refine zr_getIv (x := (I j 12)) dX4_findForced_42 zf_X4_51 rfl (hS.hasJ hj 0 rfl rfl rfl) rfl ?_
        refine zr_iconst (v := 1) dX4_findForced_45 (by decide) ?_
        refine zr_iadd dX4_findForced_46 ?_
        refine zr_putI dX4_findForced_47 zf_X4_51 rfl (hS.hasJ hj 0 rfl rfl rfl) rfl rfl ?_
        refine zr_aload_n dX4_findForced_50 rfl rfl ?_
        refine zr_dup dX4_findForced_51 rfl ?_
        refine zr_getIv (x := ((u2 I j 12 ((I j 12) + (1 : Int32))) j 13)) dX4_findForced_52 zf_X4_54 rfl (hS.hasJ hj 0 rfl rfl rfl) rfl ?_
        refine zr_aload_n dX4_findForced_55 rfl rfl ?_
        refine zr_getR dX4_findForced_56 zf_X4_22 rfl (hS.hasJ hj 0 rfl rfl rfl) (hS.refJ hj (d := 4) rfl rfl) ?_
        refine zr_iload_n dX4_findForced_59 rfl rfl ?_
        refine zr_ialdv (x := ((u2 I j 12 ((I j 12) + (1 : Int32))) (j + 4) v1.toNatClampNeg)) dX4_findForced_60 (hS.hasJ hj 4 rfl rfl rfl) hi1 rfl ?_
        refine zr_iadd dX4_findForced_61 ?_
        refine zr_putI dX4_findForced_62 zf_X4_54 rfl (hS.hasJ hj 0 rfl rfl rfl) rfl rfl ?_
        refine zr_aload_n dX4_findForced_65 rfl rfl ?_
        refine zr_iload_n dX4_findForced_66 rfl rfl ?_
        refine zr_callV (As := [.int (I (j + 3) v1.toNatClampNeg)]) (fr' := fX4_measureTo) (lo' := lX4_measureTo) (bc' := 0) (bs' := 0) (bcr := bc) (bsr := bs) dX4_findForced_67 zs_X4_63 zi_X4_measureTo zcl_4 (hS.hasJ hj 0 rfl rfl rfl) rfl rfl (Nat.le_of_ble_eq_true rfl) (Nat.le_of_ble_eq_true rfl) (Nat.le_of_ble_eq_true rfl) (Nat.le_refl _) (Nat.le_refl _) ?_
        refine ZC.mono (fun w S' I1 L1 k => ?_) k
        obtain ⟨rfl, rfl, k⟩ := k
        show ZW G mX4_findForced fX4_findForced lX4_findForced 70 [zo G j, .int v1, .int (I (j + 2) v1.toNatClampNeg), .int (I (j + 3) v1.toNatClampNeg)] [] S I1 L1 bc bs Q
        refine zr_aload_n dX4_findForced_70 rfl rfl ?_
        refine zr_getR dX4_findForced_71 zf_X4_45 rfl (hS.hasJ hj 0 rfl rfl rfl) (hS.refJ hj (d := 6) rfl rfl) ?_
        refine zr_iload_n dX4_findForced_74 rfl rfl ?_
        refine zr_callSN (As := [zo G (j + 6), .int (I (j + 2) v1.toNatClampNeg)]) (fr' := fX11_pick) (lo' := lX11_pick) (bc' := 0) (bs' := 0) (bcr := bc) (bsr := bs) dX4_findForced_75 zsn_X4_83 zst_X11_pick rfl rfl (Nat.le_of_ble_eq_true rfl) (Nat.le_of_ble_eq_true rfl) (Nat.le_of_ble_eq_true rfl) (Nat.le_refl _) (Nat.le_refl _) ?_
        refine sp_X11_pick hS (hS.hasJ hj 6 rfl rfl rfl) rfl ?_
        show ZW G mX4_findForced fX4_findForced lX4_findForced 78 [zo G j, .int v1, .int (I (j + 2) v1.toNatClampNeg), .int (I (j + 3) v1.toNatClampNeg)] [.int (p_X11_pick I1 (j + 6) 50 (I (j + 2) v1.toNatClampNeg))] S I1 L1 bc bs Q
        refine zr_aload_n dX4_findForced_78 rfl rfl ?_
        refine zr_getR dX4_findForced_79 zf_X4_22 rfl (hS.hasJ hj 0 rfl rfl rfl) (hS.refJ hj (d := 4) rfl rfl) ?_
        refine zr_iload_n dX4_findForced_82 rfl rfl ?_
        refine zr_ialdv (x := (I1 (j + 4) v1.toNatClampNeg)) dX4_findForced_83 (hS.hasJ hj 4 rfl rfl rfl) hi1 rfl ?_
        refine zr_iceq (tgt := 103) dX4_findForced_84 (by decide) (fun hb => ?_) (fun hb => ?_)
        · have k := k.1 hb
          refine zr_iinc (v := (v1 + 1)) dX4_findForced_103 rfl rfl (Nat.le_of_ble_eq_true rfl) rfl ?_
          refine zr_goto (tgt := 2) dX4_findForced_106 (by decide) ?_
          exact zr_mask [true, true, false, false] rfl k
        · have k := k.2 hb
          refine zr_aload_n dX4_findForced_87 rfl rfl ?_
          refine zr_dup dX4_findForced_88 rfl ?_
          refine zr_getJv (x := (L1 j 8)) dX4_findForced_89 zf_X4_39 rfl (hS.hasJ hj 0 rfl rfl rfl) rfl ?_
          refine zr_lconst (v := 1) dX4_findForced_92 (by decide) ?_
          refine zr_iload_n dX4_findForced_93 rfl rfl ?_
          refine zr_lshl dX4_findForced_94 rfl ?_
          refine zr_lconst (v := 1) dX4_findForced_95 (by decide) ?_
          refine zr_iload_n dX4_findForced_96 rfl rfl ?_
          refine zr_lshl dX4_findForced_97 rfl ?_
          refine zr_lor dX4_findForced_98 ?_
          refine zr_lor dX4_findForced_99 ?_
          refine zr_putJ dX4_findForced_100 zf_X4_39 rfl (hS.hasJ hj 0 rfl rfl rfl) rfl rfl ?_
          refine zr_iinc (v := (v1 + 1)) dX4_findForced_103 rfl rfl (Nat.le_of_ble_eq_true rfl) rfl ?_
          refine zr_goto (tgt := 2) dX4_findForced_106 (by decide) ?_
          exact zr_mask [true, true, false, false] rfl k
set_option maxHeartbeats 2000000 in
theorem vX4_pairCount_0 {G : Gp} {bc bs : Nat} {Q : zPost} {S : zSh} {I : zFI} {L : zFL} {j : Nat} (hS : zStd S) (hj : zJn j) (k : Q (some (.int (I j 12))) S I L) : ZW G mX4_pairCount fX4_pairCount lX4_pairCount 0 [zo G j] [] S I L bc bs Q := by
  refine zr_aload_n dX4_pairCount_0 rfl rfl ?_
  refine zr_getIv (x := (I j 12)) dX4_pairCount_1 zf_X4_51 rfl (hS.hasJ hj 0 rfl rfl rfl) rfl ?_
  exact zr_ireturn dX4_pairCount_4 rfl rfl k
def p_X4_pairCount (I : zFI) (j : Nat) : Int32 := (I j 12)
set_option maxHeartbeats 2000000 in
theorem sp_X4_pairCount {G : Gp} {Q : zPost} {S : zSh} {I : zFI} {L : zFL} {j : Nat} (hS : zStd S) (hj : zJn j) (h : Q (some (.int (p_X4_pairCount I j))) S I L) : ZC G mX4_pairCount fX4_pairCount lX4_pairCount [zo G j] S I L 0 0 Q := by
  refine ZC.of' (vX4_pairCount_0 hS hj ?_) rfl (Nat.le_of_ble_eq_true rfl) rfl
  unfold p_X4_pairCount at h
  exact h
set_option maxHeartbeats 2000000 in
theorem vX4_moreInAll_0 {G : Gp} {bc bs : Nat} {Q : zPost} {S : zSh} {I : zFI} {L : zFL} {j : Nat} (hS : zStd S) (hj : zJn j) (k : Q (some (.int (I j 13))) S I L) : ZW G mX4_moreInAll fX4_moreInAll lX4_moreInAll 0 [zo G j] [] S I L bc bs Q := by
  refine zr_aload_n dX4_moreInAll_0 rfl rfl ?_
  refine zr_getIv (x := (I j 13)) dX4_moreInAll_1 zf_X4_54 rfl (hS.hasJ hj 0 rfl rfl rfl) rfl ?_
  exact zr_ireturn dX4_moreInAll_4 rfl rfl k
def p_X4_moreInAll (I : zFI) (j : Nat) : Int32 := (I j 13)
set_option maxHeartbeats 2000000 in
theorem sp_X4_moreInAll {G : Gp} {Q : zPost} {S : zSh} {I : zFI} {L : zFL} {j : Nat} (hS : zStd S) (hj : zJn j) (h : Q (some (.int (p_X4_moreInAll I j))) S I L) : ZC G mX4_moreInAll fX4_moreInAll lX4_moreInAll [zo G j] S I L 0 0 Q := by
  refine ZC.of' (vX4_moreInAll_0 hS hj ?_) rfl (Nat.le_of_ble_eq_true rfl) rfl
  unfold p_X4_moreInAll at h
  exact h
set_option maxHeartbeats 2000000 in
theorem vX4_forcedCount_0 {G : Gp} {bc bs : Nat} {Q : zPost} {S : zSh} {I : zFI} {L : zFL} {j : Nat} (hS : zStd S) (hj : zJn j) (k : ZC G mJ13_bitCount_95d88 fJ13_bitCount_95d88 lJ13_bitCount_95d88 [.long ((L j 8) &&& (L j 5))] S I L 0 0 (fun w S' I1 L1 => ∃ r1 : Int32, w = some (.int r1) ∧ S = S' ∧ Q (some (.int r1)) S I1 L1)) : ZW G mX4_forcedCount fX4_forcedCount lX4_forcedCount 0 [zo G j] [] S I L bc bs Q := by
  refine zr_aload_n dX4_forcedCount_0 rfl rfl ?_
  refine zr_getJv (x := (L j 8)) dX4_forcedCount_1 zf_X4_39 rfl (hS.hasJ hj 0 rfl rfl rfl) rfl ?_
  refine zr_aload_n dX4_forcedCount_4 rfl rfl ?_
  refine zr_getJv (x := (L j 5)) dX4_forcedCount_5 zf_X4_29 rfl (hS.hasJ hj 0 rfl rfl rfl) rfl ?_
  refine zr_land dX4_forcedCount_8 ?_
  refine zr_callS (As := [.long ((L j 8) &&& (L j 5))]) (fr' := fJ13_bitCount_95d88) (lo' := lJ13_bitCount_95d88) (bc' := 0) (bs' := 0) (bcr := bc) (bsr := bs) dX4_forcedCount_9 zs_X4_87 zst_J13_bitCount_95d88 rfl rfl (Nat.le_of_ble_eq_true rfl) (Nat.le_of_ble_eq_true rfl) (Nat.le_of_ble_eq_true rfl) (Nat.le_refl _) (Nat.le_refl _) ?_
  refine ZC.mono (fun w S' I1 L1 k => ?_) k
  obtain ⟨r1, rfl, rfl, k⟩ := k
  show ZW G mX4_forcedCount fX4_forcedCount lX4_forcedCount 12 [zo G j] [.int r1] S I1 L1 bc bs Q
  exact zr_ireturn dX4_forcedCount_12 rfl rfl k
set_option maxHeartbeats 2000000 in
theorem vX4_isForced_0 {G : Gp} {bc bs : Nat} {Q : zPost} {S : zSh} {I : zFI} {L : zFL} {j : Nat} {v1 : Int32} (hS : zStd S) (hj : zJn j) (k : Q (some (.int (p_X4_has (L j 8) v1))) S I L) : ZW G mX4_isForced fX4_isForced lX4_isForced 0 [zo G j, .int v1] [] S I L bc bs Q := by
  refine zr_aload_n dX4_isForced_0 rfl rfl ?_
  refine zr_getJv (x := (L j 8)) dX4_isForced_1 zf_X4_39 rfl (hS.hasJ hj 0 rfl rfl rfl) rfl ?_
  refine zr_iload_n dX4_isForced_4 rfl rfl ?_
  refine zr_callS (As := [.long (L j 8), .int v1]) (fr' := fX4_has) (lo' := lX4_has) (bc' := 0) (bs' := 0) (bcr := bc) (bsr := bs) dX4_isForced_5 zs_X4_72 zst_X4_has rfl rfl (Nat.le_of_ble_eq_true rfl) (Nat.le_of_ble_eq_true rfl) (Nat.le_of_ble_eq_true rfl) (Nat.le_refl _) (Nat.le_refl _) ?_
  refine sp_X4_has hS  ?_
  show ZW G mX4_isForced fX4_isForced lX4_isForced 8 [zo G j, .int v1] [.int (p_X4_has (L j 8) v1)] S I L bc bs Q
  exact zr_ireturn dX4_isForced_8 rfl (zb01n (pb_X4_has _ _)) k
def p_X4_isForced (L : zFL) (j : Nat) (v1 : Int32) : Int32 := (p_X4_has (L j 8) v1)
set_option maxHeartbeats 2000000 in
theorem sp_X4_isForced {G : Gp} {Q : zPost} {S : zSh} {I : zFI} {L : zFL} {j : Nat} {v1 : Int32} (hS : zStd S) (hj : zJn j) (h : Q (some (.int (p_X4_isForced L j v1))) S I L) : ZC G mX4_isForced fX4_isForced lX4_isForced [zo G j, .int v1] S I L 0 0 Q := by
  refine ZC.of' (vX4_isForced_0 hS hj ?_) rfl (Nat.le_of_ble_eq_true rfl) rfl
  unfold p_X4_isForced at h
  exact h
theorem pb_X4_isForced (L : zFL) (j : Nat) (v1 : Int32) : p_X4_isForced L j v1 = 0 ∨ p_X4_isForced L j v1 = 1 := by
  unfold p_X4_isForced
  repeat' split
  all_goals first | exact Or.inl rfl | exact Or.inr rfl | exact pb_X4_has _ _
set_option maxHeartbeats 2000000 in
theorem vX5_tell_0 {G : Gp} {bc bs : Nat} {Q : zPost} {S : zSh} {I : zFI} {L : zFL} {v1 : Int32} {v2 : Int32} {v3 : Int32} {v4 : Int32} (hS : zStd S)  (k : ((v2 < 0 → Q (some (.int (0 : Int32))) S I L) ∧ (¬ v2 < 0 → (((999 : Int32) < v2 → Q (some (.int (0 : Int32))) S I L) ∧ (¬ (999 : Int32) < v2 → ((v3 < (-99 : Int32) → Q (some (.int (0 : Int32))) S I L) ∧ (¬ v3 < (-99 : Int32) → (((99 : Int32) < v3 → Q (some (.int (0 : Int32))) S I L) ∧ (¬ (99 : Int32) < v3 → (((I 77 0) < (60 : Int32) → vp_in (I 77 0) 60 ∧ Q (some (.int (1 : Int32))) S (u2 (u2 (u2 (u2 (u2 I 78 (I 77 0).toNatClampNeg v1) 79 (I 77 0).toNatClampNeg v2) 80 (I 77 0).toNatClampNeg v3) 81 (I 77 0).toNatClampNeg v4) 77 0 ((I 77 0) + (1 : Int32))) L) ∧ (¬ (I 77 0) < (60 : Int32) → Q (some (.int (0 : Int32))) S I L))))))))))) : ZW G mX5_tell fX5_tell lX5_tell 0 [zo G 77, .int v1, .int v2, .int v3, .int v4] [] S I L bc bs Q := by
  refine zr_iload_n dX5_tell_0 rfl rfl ?_
  refine zr_iflt (tgt := 32) dX5_tell_1 (by decide) (fun hb => ?_) (fun hb => ?_)
  · have k := k.1 hb
    refine zr_iconst (v := 0) dX5_tell_32 (by decide) ?_
    exact zr_ireturn dX5_tell_33 rfl rfl k
  · have k := k.2 hb
    refine zr_iload_n dX5_tell_4 rfl rfl ?_
    refine zr_sipush (v := 999) dX5_tell_5 (by decide) ?_
    refine zr_icgt (tgt := 32) dX5_tell_8 (by decide) (fun hb => ?_) (fun hb => ?_)
    · have k := k.1 hb
      refine zr_iconst (v := 0) dX5_tell_32 (by decide) ?_
      exact zr_ireturn dX5_tell_33 rfl rfl k
    · have k := k.2 hb
      refine zr_iload_n dX5_tell_11 rfl rfl ?_
      refine zr_bipush (v := -99) dX5_tell_12 (by decide) ?_
      refine zr_iclt (tgt := 32) dX5_tell_14 (by decide) (fun hb => ?_) (fun hb => ?_)
      · have k := k.1 hb
        refine zr_iconst (v := 0) dX5_tell_32 (by decide) ?_
        exact zr_ireturn dX5_tell_33 rfl rfl k
      · have k := k.2 hb
        refine zr_iload_n dX5_tell_17 rfl rfl ?_
        refine zr_bipush (v := 99) dX5_tell_18 (by decide) ?_
        refine zr_icgt (tgt := 32) dX5_tell_20 (by decide) (fun hb => ?_) (fun hb => ?_)
        · have k := k.1 hb
          refine zr_iconst (v := 0) dX5_tell_32 (by decide) ?_
          exact zr_ireturn dX5_tell_33 rfl rfl k
        · have k := k.2 hb
          refine zr_aload_n dX5_tell_23 rfl rfl ?_
          refine zr_getIv (x := (I 77 0)) dX5_tell_24 zf_X5_9 rfl (hS.has (a := 77) rfl rfl) rfl ?_
          refine zr_bipush (v := 60) dX5_tell_27 (by decide) ?_
          refine zr_iclt (tgt := 34) dX5_tell_29 (by decide) (fun hb => ?_) (fun hb => ?_)
          · have k := k.1 hb
            refine zr_aload_n dX5_tell_34 rfl rfl ?_
            refine zr_getR dX5_tell_35 zf_X5_15 rfl (hS.has (a := 77) rfl rfl) (hS.ref (a := 78) rfl) ?_
            refine zr_aload_n dX5_tell_38 rfl rfl ?_
            refine zr_getIv (x := (I 77 0)) dX5_tell_39 zf_X5_9 rfl (hS.has (a := 77) rfl rfl) rfl ?_
            refine zr_iload_n dX5_tell_42 rfl rfl ?_
            obtain ⟨hi1, k⟩ := k
            refine zr_iast dX5_tell_43 (hS.has (a := 78) rfl rfl) hi1 ?_
            refine zr_aload_n dX5_tell_44 rfl rfl ?_
            refine zr_getR dX5_tell_45 zf_X5_19 rfl (hS.has (a := 77) rfl rfl) (hS.ref (a := 79) rfl) ?_
            refine zr_aload_n dX5_tell_48 rfl rfl ?_
            refine zr_getIv (x := (I 77 0)) dX5_tell_49 zf_X5_9 rfl (hS.has (a := 77) rfl rfl) rfl ?_
            refine zr_iload_n dX5_tell_52 rfl rfl ?_
            refine zr_iast dX5_tell_53 (hS.has (a := 79) rfl rfl) hi1 ?_
            refine zr_aload_n dX5_tell_54 rfl rfl ?_
            refine zr_getR dX5_tell_55 zf_X5_22 rfl (hS.has (a := 77) rfl rfl) (hS.ref (a := 80) rfl) ?_
            refine zr_aload_n dX5_tell_58 rfl rfl ?_
            refine zr_getIv (x := (I 77 0)) dX5_tell_59 zf_X5_9 rfl (hS.has (a := 77) rfl rfl) rfl ?_
            refine zr_iload_n dX5_tell_62 rfl rfl ?_
            refine zr_iast dX5_tell_63 (hS.has (a := 80) rfl rfl) hi1 ?_
            refine zr_aload_n dX5_tell_64 rfl rfl ?_
            refine zr_getR dX5_tell_65 zf_X5_25 rfl (hS.has (a := 77) rfl rfl) (hS.ref (a := 81) rfl) ?_
            refine zr_aload_n dX5_tell_68 rfl rfl ?_
            refine zr_getIv (x := (I 77 0)) dX5_tell_69 zf_X5_9 rfl (hS.has (a := 77) rfl rfl) rfl ?_
            refine zr_iload dX5_tell_72 rfl ?_
            refine zr_iast dX5_tell_74 (hS.has (a := 81) rfl rfl) hi1 ?_
            refine zr_aload_n dX5_tell_75 rfl rfl ?_
            refine zr_dup dX5_tell_76 rfl ?_
            refine zr_getIv (x := (I 77 0)) dX5_tell_77 zf_X5_9 rfl (hS.has (a := 77) rfl rfl) rfl ?_
            refine zr_iconst (v := 1) dX5_tell_80 (by decide) ?_
            refine zr_iadd dX5_tell_81 ?_
            refine zr_putI dX5_tell_82 zf_X5_9 rfl (hS.has (a := 77) rfl rfl) rfl rfl ?_
            refine zr_iconst (v := 1) dX5_tell_85 (by decide) ?_
            exact zr_ireturn dX5_tell_86 rfl rfl k
          · have k := k.2 hb
            refine zr_iconst (v := 0) dX5_tell_32 (by decide) ?_
            exact zr_ireturn dX5_tell_33 rfl rfl k
set_option maxHeartbeats 2000000 in
theorem vX5_isToldAnew_0 {G : Gp} {bc bs : Nat} {Q : zPost} {S : zSh} {I : zFI} {L : zFL} {v1 : Int32} {v2 : Int32} (hS : zStd S)  (k : ZW G mX5_isToldAnew fX5_isToldAnew lX5_isToldAnew 4 [zo G 77, .int v1, .int v2, .int (v1 + (1 : Int32))] [] S I L bc bs Q) : ZW G mX5_isToldAnew fX5_isToldAnew lX5_isToldAnew 0 [zo G 77, .int v1, .int v2, .null] [] S I L bc bs Q := by
  refine zr_iload_n dX5_isToldAnew_0 rfl rfl ?_
  refine zr_iconst (v := 1) dX5_isToldAnew_1 (by decide) ?_
  refine zr_iadd dX5_isToldAnew_2 ?_
  refine zr_istore_n dX5_isToldAnew_3 rfl (Nat.le_of_ble_eq_true rfl) rfl ?_
  exact k
set_option maxHeartbeats 2000000 in
theorem vX5_isToldAnew_4 {G : Gp} {bc bs : Nat} {Q : zPost} {S : zSh} {I : zFI} {L : zFL} {v1 : Int32} {v2 : Int32} {v3 : Int32} (hS : zStd S)  (k : (((I 77 0) ≤ v3 → Q (some (.int (0 : Int32))) S I L) ∧ (¬ (I 77 0) ≤ v3 → (((60 : Int32) ≤ v3 → Q (some (.int (0 : Int32))) S I L) ∧ (¬ (60 : Int32) ≤ v3 → vp_in v3 60 ∧ vp_in v1 60 ∧ ((¬ (I 78 v3.toNatClampNeg) = (I 78 v1.toNatClampNeg) → ZW G mX5_isToldAnew fX5_isToldAnew lX5_isToldAnew 4 [zo G 77, .int v1, .int v2, .int (v3 + 1)] [] S I L bc bs Q) ∧ ((I 78 v3.toNatClampNeg) = (I 78 v1.toNatClampNeg) → ((¬ (I 79 v3.toNatClampNeg) = (I 79 v1.toNatClampNeg) → ZW G mX5_isToldAnew fX5_isToldAnew lX5_isToldAnew 4 [zo G 77, .int v1, .int v2, .int (v3 + 1)] [] S I L bc bs Q) ∧ ((I 79 v3.toNatClampNeg) = (I 79 v1.toNatClampNeg) → ((v2 < (I 81 v3.toNatClampNeg) → ZW G mX5_isToldAnew fX5_isToldAnew lX5_isToldAnew 4 [zo G 77, .int v1, .int v2, .int (v3 + 1)] [] S I L bc bs Q) ∧ (¬ v2 < (I 81 v3.toNatClampNeg) → Q (some (.int (1 : Int32))) S I L))))))))))) : ZW G mX5_isToldAnew fX5_isToldAnew lX5_isToldAnew 4 [zo G 77, .int v1, .int v2, .int v3] [] S I L bc bs Q := by
  refine zr_iload_n dX5_isToldAnew_4 rfl rfl ?_
  refine zr_aload_n dX5_isToldAnew_5 rfl rfl ?_
  refine zr_getIv (x := (I 77 0)) dX5_isToldAnew_6 zf_X5_9 rfl (hS.has (a := 77) rfl rfl) rfl ?_
  refine zr_icge (tgt := 66) dX5_isToldAnew_9 (by decide) (fun hb => ?_) (fun hb => ?_)
  · have k := k.1 hb
    refine zr_iconst (v := 0) dX5_isToldAnew_66 (by decide) ?_
    exact zr_ireturn dX5_isToldAnew_67 rfl rfl k
  · have k := k.2 hb
    refine zr_iload_n dX5_isToldAnew_12 rfl rfl ?_
    refine zr_bipush (v := 60) dX5_isToldAnew_13 (by decide) ?_
    refine zr_icge (tgt := 66) dX5_isToldAnew_15 (by decide) (fun hb => ?_) (fun hb => ?_)
    · have k := k.1 hb
      refine zr_iconst (v := 0) dX5_isToldAnew_66 (by decide) ?_
      exact zr_ireturn dX5_isToldAnew_67 rfl rfl k
    · have k := k.2 hb
      refine zr_aload_n dX5_isToldAnew_18 rfl rfl ?_
      refine zr_getR dX5_isToldAnew_19 zf_X5_15 rfl (hS.has (a := 77) rfl rfl) (hS.ref (a := 78) rfl) ?_
      refine zr_iload_n dX5_isToldAnew_22 rfl rfl ?_
      obtain ⟨hi1, k⟩ := k
      refine zr_ialdv (x := (I 78 v3.toNatClampNeg)) dX5_isToldAnew_23 (hS.has (a := 78) rfl rfl) hi1 rfl ?_
      refine zr_aload_n dX5_isToldAnew_24 rfl rfl ?_
      refine zr_getR dX5_isToldAnew_25 zf_X5_15 rfl (hS.has (a := 77) rfl rfl) (hS.ref (a := 78) rfl) ?_
      refine zr_iload_n dX5_isToldAnew_28 rfl rfl ?_
      obtain ⟨hi2, k⟩ := k
      refine zr_ialdv (x := (I 78 v1.toNatClampNeg)) dX5_isToldAnew_29 (hS.has (a := 78) rfl rfl) hi2 rfl ?_
      refine zr_icne (tgt := 60) dX5_isToldAnew_30 (by decide) (fun hb => ?_) (fun hb => ?_)
      · have k := k.1 hb
        refine zr_iinc (v := (v3 + 1)) dX5_isToldAnew_60 rfl rfl (Nat.le_of_ble_eq_true rfl) rfl ?_
        refine zr_goto (tgt := 4) dX5_isToldAnew_63 (by decide) ?_
        exact k
      · have k := k.2 hb
        refine zr_aload_n dX5_isToldAnew_33 rfl rfl ?_
        refine zr_getR dX5_isToldAnew_34 zf_X5_19 rfl (hS.has (a := 77) rfl rfl) (hS.ref (a := 79) rfl) ?_
        refine zr_iload_n dX5_isToldAnew_37 rfl rfl ?_
        refine zr_ialdv (x := (I 79 v3.toNatClampNeg)) dX5_isToldAnew_38 (hS.has (a := 79) rfl rfl) hi1 rfl ?_
        refine zr_aload_n dX5_isToldAnew_39 rfl rfl ?_
        refine zr_getR dX5_isToldAnew_40 zf_X5_19 rfl (hS.has (a := 77) rfl rfl) (hS.ref (a := 79) rfl) ?_
        refine zr_iload_n dX5_isToldAnew_43 rfl rfl ?_
        refine zr_ialdv (x := (I 79 v1.toNatClampNeg)) dX5_isToldAnew_44 (hS.has (a := 79) rfl rfl) hi2 rfl ?_
        refine zr_icne (tgt := 60) dX5_isToldAnew_45 (by decide) (fun hb => ?_) (fun hb => ?_)
        · have k := k.1 hb
          refine zr_iinc (v := (v3 + 1)) dX5_isToldAnew_60 rfl rfl (Nat.le_of_ble_eq_true rfl) rfl ?_
          refine zr_goto (tgt := 4) dX5_isToldAnew_63 (by decide) ?_
          exact k
        · have k := k.2 hb
          refine zr_aload_n dX5_isToldAnew_48 rfl rfl ?_
          refine zr_getR dX5_isToldAnew_49 zf_X5_25 rfl (hS.has (a := 77) rfl rfl) (hS.ref (a := 81) rfl) ?_
          refine zr_iload_n dX5_isToldAnew_52 rfl rfl ?_
          refine zr_ialdv (x := (I 81 v3.toNatClampNeg)) dX5_isToldAnew_53 (hS.has (a := 81) rfl rfl) hi1 rfl ?_
          refine zr_iload_n dX5_isToldAnew_54 rfl rfl ?_
          refine zr_icgt (tgt := 60) dX5_isToldAnew_55 (by decide) (fun hb => ?_) (fun hb => ?_)
          · have k := k.1 hb
            refine zr_iinc (v := (v3 + 1)) dX5_isToldAnew_60 rfl rfl (Nat.le_of_ble_eq_true rfl) rfl ?_
            refine zr_goto (tgt := 4) dX5_isToldAnew_63 (by decide) ?_
            exact k
          · have k := k.2 hb
            refine zr_iconst (v := 1) dX5_isToldAnew_58 (by decide) ?_
            exact zr_ireturn dX5_isToldAnew_59 rfl rfl k
set_option maxHeartbeats 2000000 in
theorem vX5_findRate_0 {G : Gp} {bc bs : Nat} {Q : zPost} {S : zSh} {I : zFI} {L : zFL}  (hS : zStd S)  (k : ZW G mX5_findRate fX5_findRate lX5_findRate 69 [zo G 77, .int (if 0 ≤ ((p_X11_pick I 80 60 (I 77 7)) - (p_X11_pick I 80 60 (I 77 6))) then ((p_X11_pick I 80 60 (I 77 7)) - (p_X11_pick I 80 60 (I 77 6))) else 0 - ((p_X11_pick I 80 60 (I 77 7)) - (p_X11_pick I 80 60 (I 77 6)))), .int ((p_X11_pick (u2 I 77 8 ((p_X11_pick I 80 60 (I 77 7)) - (p_X11_pick I 80 60 (I 77 6)))) 79 60 (I 77 7)) - (p_X11_pick (u2 I 77 8 ((p_X11_pick I 80 60 (I 77 7)) - (p_X11_pick I 80 60 (I 77 6)))) 79 60 (I 77 6))), .int (0 : Int32), .null] [] S (u2 (u2 I 77 8 ((p_X11_pick I 80 60 (I 77 7)) - (p_X11_pick I 80 60 (I 77 6)))) 77 9 ((p_X11_pick (u2 I 77 8 ((p_X11_pick I 80 60 (I 77 7)) - (p_X11_pick I 80 60 (I 77 6)))) 79 60 (I 77 7)) - (p_X11_pick (u2 I 77 8 ((p_X11_pick I 80 60 (I 77 7)) - (p_X11_pick I 80 60 (I 77 6)))) 79 60 (I 77 6)))) L bc bs Q) : ZW G mX5_findRate fX5_findRate lX5_findRate 0 [zo G 77, .null, .null, .null, .null] [] S I L bc bs Q := by
  refine zr_aload_n dX5_findRate_0 rfl rfl ?_
  refine zr_aload_n dX5_findRate_1 rfl rfl ?_
  refine zr_getR dX5_findRate_2 zf_X5_22 rfl (hS.has (a := 77) rfl rfl) (hS.ref (a := 80) rfl) ?_
  refine zr_aload_n dX5_findRate_5 rfl rfl ?_
  refine zr_getIv (x := (I 77 7)) dX5_findRate_6 zf_X5_34 rfl (hS.has (a := 77) rfl rfl) rfl ?_
  refine zr_callSN (As := [zo G 80, .int (I 77 7)]) (fr' := fX11_pick) (lo' := lX11_pick) (bc' := 0) (bs' := 0) (bcr := bc) (bsr := bs) dX5_findRate_9 zsn_X5_44 zst_X11_pick rfl rfl (Nat.le_of_ble_eq_true rfl) (Nat.le_of_ble_eq_true rfl) (Nat.le_of_ble_eq_true rfl) (Nat.le_refl _) (Nat.le_refl _) ?_
  refine sp_X11_pick hS (hS.has (a := 80) rfl rfl) rfl ?_
  show ZW G mX5_findRate fX5_findRate lX5_findRate 12 [zo G 77, .null, .null, .null, .null] [.int (p_X11_pick I 80 60 (I 77 7)), zo G 77] S I L bc bs Q
  refine zr_aload_n dX5_findRate_12 rfl rfl ?_
  refine zr_getR dX5_findRate_13 zf_X5_22 rfl (hS.has (a := 77) rfl rfl) (hS.ref (a := 80) rfl) ?_
  refine zr_aload_n dX5_findRate_16 rfl rfl ?_
  refine zr_getIv (x := (I 77 6)) dX5_findRate_17 zf_X5_31 rfl (hS.has (a := 77) rfl rfl) rfl ?_
  refine zr_callSN (As := [zo G 80, .int (I 77 6)]) (fr' := fX11_pick) (lo' := lX11_pick) (bc' := 0) (bs' := 0) (bcr := bc) (bsr := bs) dX5_findRate_20 zsn_X5_44 zst_X11_pick rfl rfl (Nat.le_of_ble_eq_true rfl) (Nat.le_of_ble_eq_true rfl) (Nat.le_of_ble_eq_true rfl) (Nat.le_refl _) (Nat.le_refl _) ?_
  refine sp_X11_pick hS (hS.has (a := 80) rfl rfl) rfl ?_
  show ZW G mX5_findRate fX5_findRate lX5_findRate 23 [zo G 77, .null, .null, .null, .null] [.int (p_X11_pick I 80 60 (I 77 6)), .int (p_X11_pick I 80 60 (I 77 7)), zo G 77] S I L bc bs Q
  refine zr_isub dX5_findRate_23 ?_
  refine zr_putI dX5_findRate_24 zf_X5_48 rfl (hS.has (a := 77) rfl rfl) rfl rfl ?_
  refine zr_aload_n dX5_findRate_27 rfl rfl ?_
  refine zr_aload_n dX5_findRate_28 rfl rfl ?_
  refine zr_getR dX5_findRate_29 zf_X5_19 rfl (hS.has (a := 77) rfl rfl) (hS.ref (a := 79) rfl) ?_
  refine zr_aload_n dX5_findRate_32 rfl rfl ?_
  refine zr_getIv (x := (I 77 7)) dX5_findRate_33 zf_X5_34 rfl (hS.has (a := 77) rfl rfl) rfl ?_
  refine zr_callSN (As := [zo G 79, .int (I 77 7)]) (fr' := fX11_pick) (lo' := lX11_pick) (bc' := 0) (bs' := 0) (bcr := bc) (bsr := bs) dX5_findRate_36 zsn_X5_44 zst_X11_pick rfl rfl (Nat.le_of_ble_eq_true rfl) (Nat.le_of_ble_eq_true rfl) (Nat.le_of_ble_eq_true rfl) (Nat.le_refl _) (Nat.le_refl _) ?_
  refine sp_X11_pick hS (hS.has (a := 79) rfl rfl) rfl ?_
  show ZW G mX5_findRate fX5_findRate lX5_findRate 39 [zo G 77, .null, .null, .null, .null] [.int (p_X11_pick (u2 I 77 8 ((p_X11_pick I 80 60 (I 77 7)) - (p_X11_pick I 80 60 (I 77 6)))) 79 60 (I 77 7)), zo G 77] S (u2 I 77 8 ((p_X11_pick I 80 60 (I 77 7)) - (p_X11_pick I 80 60 (I 77 6)))) L bc bs Q
  refine zr_aload_n dX5_findRate_39 rfl rfl ?_
  refine zr_getR dX5_findRate_40 zf_X5_19 rfl (hS.has (a := 77) rfl rfl) (hS.ref (a := 79) rfl) ?_
  refine zr_aload_n dX5_findRate_43 rfl rfl ?_
  refine zr_getIv (x := (I 77 6)) dX5_findRate_44 zf_X5_31 rfl (hS.has (a := 77) rfl rfl) rfl ?_
  refine zr_callSN (As := [zo G 79, .int (I 77 6)]) (fr' := fX11_pick) (lo' := lX11_pick) (bc' := 0) (bs' := 0) (bcr := bc) (bsr := bs) dX5_findRate_47 zsn_X5_44 zst_X11_pick rfl rfl (Nat.le_of_ble_eq_true rfl) (Nat.le_of_ble_eq_true rfl) (Nat.le_of_ble_eq_true rfl) (Nat.le_refl _) (Nat.le_refl _) ?_
  refine sp_X11_pick hS (hS.has (a := 79) rfl rfl) rfl ?_
  show ZW G mX5_findRate fX5_findRate lX5_findRate 50 [zo G 77, .null, .null, .null, .null] [.int (p_X11_pick (u2 I 77 8 ((p_X11_pick I 80 60 (I 77 7)) - (p_X11_pick I 80 60 (I 77 6)))) 79 60 (I 77 6)), .int (p_X11_pick (u2 I 77 8 ((p_X11_pick I 80 60 (I 77 7)) - (p_X11_pick I 80 60 (I 77 6)))) 79 60 (I 77 7)), zo G 77] S (u2 I 77 8 ((p_X11_pick I 80 60 (I 77 7)) - (p_X11_pick I 80 60 (I 77 6)))) L bc bs Q
  refine zr_isub dX5_findRate_50 ?_
  refine zr_putI dX5_findRate_51 zf_X5_51 rfl (hS.has (a := 77) rfl rfl) rfl rfl ?_
  refine zr_aload_n dX5_findRate_54 rfl rfl ?_
  refine zr_getIv (x := ((p_X11_pick I 80 60 (I 77 7)) - (p_X11_pick I 80 60 (I 77 6)))) dX5_findRate_55 zf_X5_48 rfl (hS.has (a := 77) rfl rfl) rfl ?_
  refine zr_mabs dX5_findRate_58 zmt_X5_54 (Nat.le_of_ble_eq_true rfl) (Nat.le_of_ble_eq_true rfl) (Nat.le_of_ble_eq_true rfl) ?_
  refine zr_istore_n dX5_findRate_61 rfl (Nat.le_of_ble_eq_true rfl) rfl ?_
  refine zr_aload_n dX5_findRate_62 rfl rfl ?_
  refine zr_getIv (x := ((p_X11_pick (u2 I 77 8 ((p_X11_pick I 80 60 (I 77 7)) - (p_X11_pick I 80 60 (I 77 6)))) 79 60 (I 77 7)) - (p_X11_pick (u2 I 77 8 ((p_X11_pick I 80 60 (I 77 7)) - (p_X11_pick I 80 60 (I 77 6)))) 79 60 (I 77 6)))) dX5_findRate_63 zf_X5_51 rfl (hS.has (a := 77) rfl rfl) rfl ?_
  refine zr_istore_n dX5_findRate_66 rfl (Nat.le_of_ble_eq_true rfl) rfl ?_
  refine zr_iconst (v := 0) dX5_findRate_67 (by decide) ?_
  refine zr_istore_n dX5_findRate_68 rfl (Nat.le_of_ble_eq_true rfl) rfl ?_
  exact k
set_option maxHeartbeats 2000000 in
theorem vX5_findRate_69 {G : Gp} {bc bs : Nat} {Q : zPost} {S : zSh} {I : zFI} {L : zFL} {v1 : Int32} {v2 : Int32} {v3 : Int32} (hS : zStd S)  (k : (((64 : Int32) ≤ v3 → ((v2 ≤ 0 → Q none S I L) ∧ (¬ v2 ≤ 0 → ¬ v2 = 0 ∧ ¬ v2 = 0 ∧ Q none S (u2 (u2 I 77 8 ((I 77 8) / v2)) 77 9 ((I 77 9) / v2)) L))) ∧ (¬ (64 : Int32) ≤ v3 → ((v1 = 0 → ((v2 ≤ 0 → Q none S I L) ∧ (¬ v2 ≤ 0 → ¬ v2 = 0 ∧ ¬ v2 = 0 ∧ Q none S (u2 (u2 I 77 8 ((I 77 8) / v2)) 77 9 ((I 77 9) / v2)) L))) ∧ (¬ v1 = 0 → ¬ v1 = 0 ∧ ZW G mX5_findRate fX5_findRate lX5_findRate 69 [zo G 77, .int (v2 - v2 / v1 * v1), .int v1, .int (v3 + 1), .null] [] S I L bc bs Q))))) : ZW G mX5_findRate fX5_findRate lX5_findRate 69 [zo G 77, .int v1, .int v2, .int v3, .null] [] S I L bc bs Q := by
  refine zr_iload_n dX5_findRate_69 rfl rfl ?_
  refine zr_bipush (v := 64) dX5_findRate_70 (by decide) ?_
  refine zr_icge (tgt := 95) dX5_findRate_72 (by decide) (fun hb => ?_) (fun hb => ?_)
  · have k := k.1 hb
    refine zr_iload_n dX5_findRate_95 rfl rfl ?_
    refine zr_ifle (tgt := 119) dX5_findRate_96 (by decide) (fun hb => ?_) (fun hb => ?_)
    · have k := k.1 hb
      exact zr_return_ dX5_findRate_119 rfl k
    · have k := k.2 hb
      refine zr_aload_n dX5_findRate_99 rfl rfl ?_
      refine zr_dup dX5_findRate_100 rfl ?_
      refine zr_getIv (x := (I 77 8)) dX5_findRate_101 zf_X5_48 rfl (hS.has (a := 77) rfl rfl) rfl ?_
      refine zr_iload_n dX5_findRate_104 rfl rfl ?_
      obtain ⟨hc, k⟩ := k
      refine zr_idiv dX5_findRate_105 hc ?_
      refine zr_putI dX5_findRate_106 zf_X5_48 rfl (hS.has (a := 77) rfl rfl) rfl rfl ?_
      refine zr_aload_n dX5_findRate_109 rfl rfl ?_
      refine zr_dup dX5_findRate_110 rfl ?_
      refine zr_getIv (x := (I 77 9)) dX5_findRate_111 zf_X5_51 rfl (hS.has (a := 77) rfl rfl) rfl ?_
      refine zr_iload_n dX5_findRate_114 rfl rfl ?_
      obtain ⟨hc, k⟩ := k
      refine zr_idiv dX5_findRate_115 hc ?_
      refine zr_putI dX5_findRate_116 zf_X5_51 rfl (hS.has (a := 77) rfl rfl) rfl rfl ?_
      exact zr_return_ dX5_findRate_119 rfl k
  · have k := k.2 hb
    refine zr_iload_n dX5_findRate_75 rfl rfl ?_
    refine zr_ifeq (tgt := 95) dX5_findRate_76 (by decide) (fun hb => ?_) (fun hb => ?_)
    · have k := k.1 hb
      refine zr_iload_n dX5_findRate_95 rfl rfl ?_
      refine zr_ifle (tgt := 119) dX5_findRate_96 (by decide) (fun hb => ?_) (fun hb => ?_)
      · have k := k.1 hb
        exact zr_return_ dX5_findRate_119 rfl k
      · have k := k.2 hb
        refine zr_aload_n dX5_findRate_99 rfl rfl ?_
        refine zr_dup dX5_findRate_100 rfl ?_
        refine zr_getIv (x := (I 77 8)) dX5_findRate_101 zf_X5_48 rfl (hS.has (a := 77) rfl rfl) rfl ?_
        refine zr_iload_n dX5_findRate_104 rfl rfl ?_
        obtain ⟨hc, k⟩ := k
        refine zr_idiv dX5_findRate_105 hc ?_
        refine zr_putI dX5_findRate_106 zf_X5_48 rfl (hS.has (a := 77) rfl rfl) rfl rfl ?_
        refine zr_aload_n dX5_findRate_109 rfl rfl ?_
        refine zr_dup dX5_findRate_110 rfl ?_
        refine zr_getIv (x := (I 77 9)) dX5_findRate_111 zf_X5_51 rfl (hS.has (a := 77) rfl rfl) rfl ?_
        refine zr_iload_n dX5_findRate_114 rfl rfl ?_
        obtain ⟨hc, k⟩ := k
        refine zr_idiv dX5_findRate_115 hc ?_
        refine zr_putI dX5_findRate_116 zf_X5_51 rfl (hS.has (a := 77) rfl rfl) rfl rfl ?_
        exact zr_return_ dX5_findRate_119 rfl k
    · have k := k.2 hb
      refine zr_iload_n dX5_findRate_79 rfl rfl ?_
      refine zr_iload_n dX5_findRate_80 rfl rfl ?_
      obtain ⟨hc, k⟩ := k
      refine zr_irem dX5_findRate_81 hc ?_
      refine zr_istore dX5_findRate_82 (Nat.le_of_ble_eq_true rfl) rfl ?_
      refine zr_iload_n dX5_findRate_84 rfl rfl ?_
      refine zr_istore_n dX5_findRate_85 rfl (Nat.le_of_ble_eq_true rfl) rfl ?_
      refine zr_iload dX5_findRate_86 rfl ?_
      refine zr_istore_n dX5_findRate_88 rfl (Nat.le_of_ble_eq_true rfl) rfl ?_
      refine zr_iinc (v := (v3 + 1)) dX5_findRate_89 rfl rfl (Nat.le_of_ble_eq_true rfl) rfl ?_
      refine zr_goto (tgt := 69) dX5_findRate_92 (by decide) ?_
      exact zr_mask [true, true, true, true, false] rfl k
set_option maxHeartbeats 2000000 in
theorem vX5_measure_0 {G : Gp} {bc bs : Nat} {Q : zPost} {S : zSh} {I : zFI} {L : zFL} {v1 : Int32} {v2 : Int32} (hS : zStd S)  (k : ZW G mX5_measure fX5_measure lX5_measure 17 [zo G 77, .int v1, .int v2, .int (0 : Int32)] [] S (u2 (u2 (u2 I 77 5 (0 : Int32)) 77 6 (-1 : Int32)) 77 7 (-1 : Int32)) L bc bs Q) : ZW G mX5_measure fX5_measure lX5_measure 0 [zo G 77, .int v1, .int v2, .null] [] S I L bc bs Q := by
  refine zr_aload_n dX5_measure_0 rfl rfl ?_
  refine zr_iconst (v := 0) dX5_measure_1 (by decide) ?_
  refine zr_putI dX5_measure_2 zf_X5_28 rfl (hS.has (a := 77) rfl rfl) rfl rfl ?_
  refine zr_aload_n dX5_measure_5 rfl rfl ?_
  refine zr_iconst (v := -1) dX5_measure_6 (by decide) ?_
  refine zr_putI dX5_measure_7 zf_X5_31 rfl (hS.has (a := 77) rfl rfl) rfl rfl ?_
  refine zr_aload_n dX5_measure_10 rfl rfl ?_
  refine zr_iconst (v := -1) dX5_measure_11 (by decide) ?_
  refine zr_putI dX5_measure_12 zf_X5_34 rfl (hS.has (a := 77) rfl rfl) rfl rfl ?_
  refine zr_iconst (v := 0) dX5_measure_15 (by decide) ?_
  refine zr_istore_n dX5_measure_16 rfl (Nat.le_of_ble_eq_true rfl) rfl ?_
  exact k
set_option maxHeartbeats 2000000 in
theorem vX5_measure_17 {G : Gp} {bc bs : Nat} {Q : zPost} {S : zSh} {I : zFI} {L : zFL} {v1 : Int32} {v2 : Int32} {v3 : Int32} (hS : zStd S)  (k : (((I 77 0) ≤ v3 → (((I 77 5) < (2 : Int32) → Q none S I L) ∧ (¬ (I 77 5) < (2 : Int32) → ZC G mX5_findRate fX5_findRate lX5_findRate [zo G 77] S I L 0 0 (fun w S' I1 L1 => w = none ∧ S = S' ∧ Q none S I1 L1)))) ∧ (¬ (I 77 0) ≤ v3 → (((60 : Int32) ≤ v3 → (((I 77 5) < (2 : Int32) → Q none S I L) ∧ (¬ (I 77 5) < (2 : Int32) → ZC G mX5_findRate fX5_findRate lX5_findRate [zo G 77] S I L 0 0 (fun w S' I2 L2 => w = none ∧ S = S' ∧ Q none S I2 L2)))) ∧ (¬ (60 : Int32) ≤ v3 → vp_in v3 60 ∧ ((¬ (I 78 v3.toNatClampNeg) = v1 → ZW G mX5_measure fX5_measure lX5_measure 17 [zo G 77, .int v1, .int v2, .int (v3 + 1)] [] S I L bc bs Q) ∧ ((I 78 v3.toNatClampNeg) = v1 → ((v2 < (I 81 v3.toNatClampNeg) → ZW G mX5_measure fX5_measure lX5_measure 17 [zo G 77, .int v1, .int v2, .int (v3 + 1)] [] S I L bc bs Q) ∧ (¬ v2 < (I 81 v3.toNatClampNeg) → ZC G mX5_isToldAnew fX5_isToldAnew lX5_isToldAnew [zo G 77, .int v3, .int v2] S I L 0 0 (fun w S' I3 L3 => ∃ r3 : Int32, w = some (.int r3) ∧ S = S' ∧ ((r3 = 0 → (((I3 77 6) = (-1 : Int32) → (((I3 77 7) = (-1 : Int32) → ZW G mX5_measure fX5_measure lX5_measure 17 [zo G 77, .int v1, .int v2, .int (v3 + 1)] [] S (u2 (u2 (u2 I3 77 5 ((I3 77 5) + (1 : Int32))) 77 6 v3) 77 7 v3) L3 bc bs Q) ∧ (¬ (I3 77 7) = (-1 : Int32) → vp_in (I3 77 7) 60 ∧ (((I3 79 v3.toNatClampNeg) ≤ (I3 79 (I3 77 7).toNatClampNeg) → ZW G mX5_measure fX5_measure lX5_measure 17 [zo G 77, .int v1, .int v2, .int (v3 + 1)] [] S (u2 (u2 I3 77 5 ((I3 77 5) + (1 : Int32))) 77 6 v3) L3 bc bs Q) ∧ (¬ (I3 79 v3.toNatClampNeg) ≤ (I3 79 (I3 77 7).toNatClampNeg) → ZW G mX5_measure fX5_measure lX5_measure 17 [zo G 77, .int v1, .int v2, .int (v3 + 1)] [] S (u2 (u2 (u2 I3 77 5 ((I3 77 5) + (1 : Int32))) 77 6 v3) 77 7 v3) L3 bc bs Q))))) ∧ (¬ (I3 77 6) = (-1 : Int32) → vp_in (I3 77 6) 60 ∧ (((I3 79 (I3 77 6).toNatClampNeg) ≤ (I3 79 v3.toNatClampNeg) → (((I3 77 7) = (-1 : Int32) → ZW G mX5_measure fX5_measure lX5_measure 17 [zo G 77, .int v1, .int v2, .int (v3 + 1)] [] S (u2 (u2 I3 77 5 ((I3 77 5) + (1 : Int32))) 77 7 v3) L3 bc bs Q) ∧ (¬ (I3 77 7) = (-1 : Int32) → vp_in (I3 77 7) 60 ∧ (((I3 79 v3.toNatClampNeg) ≤ (I3 79 (I3 77 7).toNatClampNeg) → ZW G mX5_measure fX5_measure lX5_measure 17 [zo G 77, .int v1, .int v2, .int (v3 + 1)] [] S (u2 I3 77 5 ((I3 77 5) + (1 : Int32))) L3 bc bs Q) ∧ (¬ (I3 79 v3.toNatClampNeg) ≤ (I3 79 (I3 77 7).toNatClampNeg) → ZW G mX5_measure fX5_measure lX5_measure 17 [zo G 77, .int v1, .int v2, .int (v3 + 1)] [] S (u2 (u2 I3 77 5 ((I3 77 5) + (1 : Int32))) 77 7 v3) L3 bc bs Q))))) ∧ (¬ (I3 79 (I3 77 6).toNatClampNeg) ≤ (I3 79 v3.toNatClampNeg) → (((I3 77 7) = (-1 : Int32) → ZW G mX5_measure fX5_measure lX5_measure 17 [zo G 77, .int v1, .int v2, .int (v3 + 1)] [] S (u2 (u2 (u2 I3 77 5 ((I3 77 5) + (1 : Int32))) 77 6 v3) 77 7 v3) L3 bc bs Q) ∧ (¬ (I3 77 7) = (-1 : Int32) → vp_in (I3 77 7) 60 ∧ (((I3 79 v3.toNatClampNeg) ≤ (I3 79 (I3 77 7).toNatClampNeg) → ZW G mX5_measure fX5_measure lX5_measure 17 [zo G 77, .int v1, .int v2, .int (v3 + 1)] [] S (u2 (u2 I3 77 5 ((I3 77 5) + (1 : Int32))) 77 6 v3) L3 bc bs Q) ∧ (¬ (I3 79 v3.toNatClampNeg) ≤ (I3 79 (I3 77 7).toNatClampNeg) → ZW G mX5_measure fX5_measure lX5_measure 17 [zo G 77, .int v1, .int v2, .int (v3 + 1)] [] S (u2 (u2 (u2 I3 77 5 ((I3 77 5) + (1 : Int32))) 77 6 v3) 77 7 v3) L3 bc bs Q))))))))) ∧ (¬ r3 = 0 → ZW G mX5_measure fX5_measure lX5_measure 17 [zo G 77, .int v1, .int v2, .int (v3 + 1)] [] S I3 L3 bc bs Q)))))))))))) : ZW G mX5_measure fX5_measure lX5_measure 17 [zo G 77, .int v1, .int v2, .int v3] [] S I L bc bs Q := by
  refine zr_iload_n dX5_measure_17 rfl rfl ?_
  refine zr_aload_n dX5_measure_18 rfl rfl ?_
  refine zr_getIv (x := (I 77 0)) dX5_measure_19 zf_X5_9 rfl (hS.has (a := 77) rfl rfl) rfl ?_
  refine zr_icge (tgt := 141) dX5_measure_22 (by decide) (fun hb => ?_) (fun hb => ?_)
  · have k := k.1 hb
    refine zr_aload_n dX5_measure_141 rfl rfl ?_
    refine zr_getIv (x := (I 77 5)) dX5_measure_142 zf_X5_28 rfl (hS.has (a := 77) rfl rfl) rfl ?_
    refine zr_iconst (v := 2) dX5_measure_145 (by decide) ?_
    refine zr_iclt (tgt := 153) dX5_measure_146 (by decide) (fun hb => ?_) (fun hb => ?_)
    · have k := k.1 hb
      exact zr_return_ dX5_measure_153 rfl k
    · have k := k.2 hb
      refine zr_aload_n dX5_measure_149 rfl rfl ?_
      refine zr_callV (As := []) (fr' := fX5_findRate) (lo' := lX5_findRate) (bc' := 0) (bs' := 0) (bcr := bc) (bsr := bs) dX5_measure_150 zs_X5_41 zi_X5_findRate zcl_5 (hS.has (a := 77) rfl rfl) rfl rfl (Nat.le_of_ble_eq_true rfl) (Nat.le_of_ble_eq_true rfl) (Nat.le_of_ble_eq_true rfl) (Nat.le_refl _) (Nat.le_refl _) ?_
      refine ZC.mono (fun w S' I1 L1 k => ?_) k
      obtain ⟨rfl, rfl, k⟩ := k
      show ZW G mX5_measure fX5_measure lX5_measure 153 [zo G 77, .int v1, .int v2, .int v3] [] S I1 L1 bc bs Q
      exact zr_return_ dX5_measure_153 rfl k
  · have k := k.2 hb
    refine zr_iload_n dX5_measure_25 rfl rfl ?_
    refine zr_bipush (v := 60) dX5_measure_26 (by decide) ?_
    refine zr_icge (tgt := 141) dX5_measure_28 (by decide) (fun hb => ?_) (fun hb => ?_)
    · have k := k.1 hb
      refine zr_aload_n dX5_measure_141 rfl rfl ?_
      refine zr_getIv (x := (I 77 5)) dX5_measure_142 zf_X5_28 rfl (hS.has (a := 77) rfl rfl) rfl ?_
      refine zr_iconst (v := 2) dX5_measure_145 (by decide) ?_
      refine zr_iclt (tgt := 153) dX5_measure_146 (by decide) (fun hb => ?_) (fun hb => ?_)
      · have k := k.1 hb
        exact zr_return_ dX5_measure_153 rfl k
      · have k := k.2 hb
        refine zr_aload_n dX5_measure_149 rfl rfl ?_
        refine zr_callV (As := []) (fr' := fX5_findRate) (lo' := lX5_findRate) (bc' := 0) (bs' := 0) (bcr := bc) (bsr := bs) dX5_measure_150 zs_X5_41 zi_X5_findRate zcl_5 (hS.has (a := 77) rfl rfl) rfl rfl (Nat.le_of_ble_eq_true rfl) (Nat.le_of_ble_eq_true rfl) (Nat.le_of_ble_eq_true rfl) (Nat.le_refl _) (Nat.le_refl _) ?_
        refine ZC.mono (fun w S' I2 L2 k => ?_) k
        obtain ⟨rfl, rfl, k⟩ := k
        show ZW G mX5_measure fX5_measure lX5_measure 153 [zo G 77, .int v1, .int v2, .int v3] [] S I2 L2 bc bs Q
        exact zr_return_ dX5_measure_153 rfl k
    · have k := k.2 hb
      refine zr_aload_n dX5_measure_31 rfl rfl ?_
      refine zr_getR dX5_measure_32 zf_X5_15 rfl (hS.has (a := 77) rfl rfl) (hS.ref (a := 78) rfl) ?_
      refine zr_iload_n dX5_measure_35 rfl rfl ?_
      obtain ⟨hi1, k⟩ := k
      refine zr_ialdv (x := (I 78 v3.toNatClampNeg)) dX5_measure_36 (hS.has (a := 78) rfl rfl) hi1 rfl ?_
      refine zr_iload_n dX5_measure_37 rfl rfl ?_
      refine zr_icne (tgt := 135) dX5_measure_38 (by decide) (fun hb => ?_) (fun hb => ?_)
      · have k := k.1 hb
        refine zr_iinc (v := (v3 + 1)) dX5_measure_135 rfl rfl (Nat.le_of_ble_eq_true rfl) rfl ?_
        refine zr_goto (tgt := 17) dX5_measure_138 (by decide) ?_
        exact k
      · have k := k.2 hb
        refine zr_aload_n dX5_measure_41 rfl rfl ?_
        refine zr_getR dX5_measure_42 zf_X5_25 rfl (hS.has (a := 77) rfl rfl) (hS.ref (a := 81) rfl) ?_
        refine zr_iload_n dX5_measure_45 rfl rfl ?_
        refine zr_ialdv (x := (I 81 v3.toNatClampNeg)) dX5_measure_46 (hS.has (a := 81) rfl rfl) hi1 rfl ?_
        refine zr_iload_n dX5_measure_47 rfl rfl ?_
        refine zr_icgt (tgt := 135) dX5_measure_48 (by decide) (fun hb => ?_) (fun hb => ?_)
        · have k := k.1 hb
          refine zr_iinc (v := (v3 + 1)) dX5_measure_135 rfl rfl (Nat.le_of_ble_eq_true rfl) rfl ?_
          refine zr_goto (tgt := 17) dX5_measure_138 (by decide) ?_
          exact k
        · have k := k.2 hb
          refine zr_aload_n dX5_measure_51 rfl rfl ?_
          refine zr_iload_n dX5_measure_52 rfl rfl ?_
          refine zr_iload_n dX5_measure_53 rfl rfl ?_
          refine zr_callV (As := [.int v3, .int v2]) (fr' := fX5_isToldAnew) (lo' := lX5_isToldAnew) (bc' := 0) (bs' := 0) (bcr := bc) (bsr := bs) dX5_measure_54 zs_X5_37 zi_X5_isToldAnew zcl_5 (hS.has (a := 77) rfl rfl) rfl rfl (Nat.le_of_ble_eq_true rfl) (Nat.le_of_ble_eq_true rfl) (Nat.le_of_ble_eq_true rfl) (Nat.le_refl _) (Nat.le_refl _) ?_
          refine ZC.mono (fun w S' I3 L3 k => ?_) k
          obtain ⟨r3, rfl, rfl, k⟩ := k
          show ZW G mX5_measure fX5_measure lX5_measure 57 [zo G 77, .int v1, .int v2, .int v3] [.int r3] S I3 L3 bc bs Q
          refine zr_ifeq (tgt := 63) dX5_measure_57 (by decide) (fun hb => ?_) (fun hb => ?_)
          · have k := k.1 hb
            refine zr_aload_n dX5_measure_63 rfl rfl ?_
            refine zr_dup dX5_measure_64 rfl ?_
            refine zr_getIv (x := (I3 77 5)) dX5_measure_65 zf_X5_28 rfl (hS.has (a := 77) rfl rfl) rfl ?_
            refine zr_iconst (v := 1) dX5_measure_68 (by decide) ?_
            refine zr_iadd dX5_measure_69 ?_
            refine zr_putI dX5_measure_70 zf_X5_28 rfl (hS.has (a := 77) rfl rfl) rfl rfl ?_
            refine zr_aload_n dX5_measure_73 rfl rfl ?_
            refine zr_getIv (x := (I3 77 6)) dX5_measure_74 zf_X5_31 rfl (hS.has (a := 77) rfl rfl) rfl ?_
            refine zr_iconst (v := -1) dX5_measure_77 (by decide) ?_
            refine zr_iceq (tgt := 99) dX5_measure_78 (by decide) (fun hb => ?_) (fun hb => ?_)
            · have k := k.1 hb
              refine zr_aload_n dX5_measure_99 rfl rfl ?_
              refine zr_iload_n dX5_measure_100 rfl rfl ?_
              refine zr_putI dX5_measure_101 zf_X5_31 rfl (hS.has (a := 77) rfl rfl) rfl rfl ?_
              refine zr_aload_n dX5_measure_104 rfl rfl ?_
              refine zr_getIv (x := (I3 77 7)) dX5_measure_105 zf_X5_34 rfl (hS.has (a := 77) rfl rfl) rfl ?_
              refine zr_iconst (v := -1) dX5_measure_108 (by decide) ?_
              refine zr_iceq (tgt := 130) dX5_measure_109 (by decide) (fun hb => ?_) (fun hb => ?_)
              · have k := k.1 hb
                refine zr_aload_n dX5_measure_130 rfl rfl ?_
                refine zr_iload_n dX5_measure_131 rfl rfl ?_
                refine zr_putI dX5_measure_132 zf_X5_34 rfl (hS.has (a := 77) rfl rfl) rfl rfl ?_
                refine zr_iinc (v := (v3 + 1)) dX5_measure_135 rfl rfl (Nat.le_of_ble_eq_true rfl) rfl ?_
                refine zr_goto (tgt := 17) dX5_measure_138 (by decide) ?_
                exact k
              · have k := k.2 hb
                refine zr_aload_n dX5_measure_112 rfl rfl ?_
                refine zr_getR dX5_measure_113 zf_X5_19 rfl (hS.has (a := 77) rfl rfl) (hS.ref (a := 79) rfl) ?_
                refine zr_iload_n dX5_measure_116 rfl rfl ?_
                refine zr_ialdv (x := (I3 79 v3.toNatClampNeg)) dX5_measure_117 (hS.has (a := 79) rfl rfl) hi1 rfl ?_
                refine zr_aload_n dX5_measure_118 rfl rfl ?_
                refine zr_getR dX5_measure_119 zf_X5_19 rfl (hS.has (a := 77) rfl rfl) (hS.ref (a := 79) rfl) ?_
                refine zr_aload_n dX5_measure_122 rfl rfl ?_
                refine zr_getIv (x := (I3 77 7)) dX5_measure_123 zf_X5_34 rfl (hS.has (a := 77) rfl rfl) rfl ?_
                obtain ⟨hi2, k⟩ := k
                refine zr_ialdv (x := (I3 79 (I3 77 7).toNatClampNeg)) dX5_measure_126 (hS.has (a := 79) rfl rfl) hi2 rfl ?_
                refine zr_icle (tgt := 135) dX5_measure_127 (by decide) (fun hb => ?_) (fun hb => ?_)
                · have k := k.1 hb
                  refine zr_iinc (v := (v3 + 1)) dX5_measure_135 rfl rfl (Nat.le_of_ble_eq_true rfl) rfl ?_
                  refine zr_goto (tgt := 17) dX5_measure_138 (by decide) ?_
                  exact k
                · have k := k.2 hb
                  refine zr_aload_n dX5_measure_130 rfl rfl ?_
                  refine zr_iload_n dX5_measure_131 rfl rfl ?_
                  refine zr_putI dX5_measure_132 zf_X5_34 rfl (hS.has (a := 77) rfl rfl) rfl rfl ?_
                  refine zr_iinc (v := (v3 + 1)) dX5_measure_135 rfl rfl (Nat.le_of_ble_eq_true rfl) rfl ?_
                  refine zr_goto (tgt := 17) dX5_measure_138 (by decide) ?_
                  exact k
            · have k := k.2 hb
              refine zr_aload_n dX5_measure_81 rfl rfl ?_
              refine zr_getR dX5_measure_82 zf_X5_19 rfl (hS.has (a := 77) rfl rfl) (hS.ref (a := 79) rfl) ?_
              refine zr_iload_n dX5_measure_85 rfl rfl ?_
              refine zr_ialdv (x := (I3 79 v3.toNatClampNeg)) dX5_measure_86 (hS.has (a := 79) rfl rfl) hi1 rfl ?_
              refine zr_aload_n dX5_measure_87 rfl rfl ?_
              refine zr_getR dX5_measure_88 zf_X5_19 rfl (hS.has (a := 77) rfl rfl) (hS.ref (a := 79) rfl) ?_
              refine zr_aload_n dX5_measure_91 rfl rfl ?_
              refine zr_getIv (x := (I3 77 6)) dX5_measure_92 zf_X5_31 rfl (hS.has (a := 77) rfl rfl) rfl ?_
              obtain ⟨hi3, k⟩ := k
              refine zr_ialdv (x := (I3 79 (I3 77 6).toNatClampNeg)) dX5_measure_95 (hS.has (a := 79) rfl rfl) hi3 rfl ?_
              refine zr_icge (tgt := 104) dX5_measure_96 (by decide) (fun hb => ?_) (fun hb => ?_)
              · have k := k.1 hb
                refine zr_aload_n dX5_measure_104 rfl rfl ?_
                refine zr_getIv (x := (I3 77 7)) dX5_measure_105 zf_X5_34 rfl (hS.has (a := 77) rfl rfl) rfl ?_
                refine zr_iconst (v := -1) dX5_measure_108 (by decide) ?_
                refine zr_iceq (tgt := 130) dX5_measure_109 (by decide) (fun hb => ?_) (fun hb => ?_)
                · have k := k.1 hb
                  refine zr_aload_n dX5_measure_130 rfl rfl ?_
                  refine zr_iload_n dX5_measure_131 rfl rfl ?_
                  refine zr_putI dX5_measure_132 zf_X5_34 rfl (hS.has (a := 77) rfl rfl) rfl rfl ?_
                  refine zr_iinc (v := (v3 + 1)) dX5_measure_135 rfl rfl (Nat.le_of_ble_eq_true rfl) rfl ?_
                  refine zr_goto (tgt := 17) dX5_measure_138 (by decide) ?_
                  exact k
                · have k := k.2 hb
                  refine zr_aload_n dX5_measure_112 rfl rfl ?_
                  refine zr_getR dX5_measure_113 zf_X5_19 rfl (hS.has (a := 77) rfl rfl) (hS.ref (a := 79) rfl) ?_
                  refine zr_iload_n dX5_measure_116 rfl rfl ?_
                  refine zr_ialdv (x := (I3 79 v3.toNatClampNeg)) dX5_measure_117 (hS.has (a := 79) rfl rfl) hi1 rfl ?_
                  refine zr_aload_n dX5_measure_118 rfl rfl ?_
                  refine zr_getR dX5_measure_119 zf_X5_19 rfl (hS.has (a := 77) rfl rfl) (hS.ref (a := 79) rfl) ?_
                  refine zr_aload_n dX5_measure_122 rfl rfl ?_
                  refine zr_getIv (x := (I3 77 7)) dX5_measure_123 zf_X5_34 rfl (hS.has (a := 77) rfl rfl) rfl ?_
                  obtain ⟨hi4, k⟩ := k
                  refine zr_ialdv (x := (I3 79 (I3 77 7).toNatClampNeg)) dX5_measure_126 (hS.has (a := 79) rfl rfl) hi4 rfl ?_
                  refine zr_icle (tgt := 135) dX5_measure_127 (by decide) (fun hb => ?_) (fun hb => ?_)
                  · have k := k.1 hb
                    refine zr_iinc (v := (v3 + 1)) dX5_measure_135 rfl rfl (Nat.le_of_ble_eq_true rfl) rfl ?_
                    refine zr_goto (tgt := 17) dX5_measure_138 (by decide) ?_
                    exact k
                  · have k := k.2 hb
                    refine zr_aload_n dX5_measure_130 rfl rfl ?_
                    refine zr_iload_n dX5_measure_131 rfl rfl ?_
                    refine zr_putI dX5_measure_132 zf_X5_34 rfl (hS.has (a := 77) rfl rfl) rfl rfl ?_
                    refine zr_iinc (v := (v3 + 1)) dX5_measure_135 rfl rfl (Nat.le_of_ble_eq_true rfl) rfl ?_
                    refine zr_goto (tgt := 17) dX5_measure_138 (by decide) ?_
                    exact k
              · have k := k.2 hb
                refine zr_aload_n dX5_measure_99 rfl rfl ?_
                refine zr_iload_n dX5_measure_100 rfl rfl ?_
                refine zr_putI dX5_measure_101 zf_X5_31 rfl (hS.has (a := 77) rfl rfl) rfl rfl ?_
                refine zr_aload_n dX5_measure_104 rfl rfl ?_
                refine zr_getIv (x := (I3 77 7)) dX5_measure_105 zf_X5_34 rfl (hS.has (a := 77) rfl rfl) rfl ?_
                refine zr_iconst (v := -1) dX5_measure_108 (by decide) ?_
                refine zr_iceq (tgt := 130) dX5_measure_109 (by decide) (fun hb => ?_) (fun hb => ?_)
                · have k := k.1 hb
                  refine zr_aload_n dX5_measure_130 rfl rfl ?_
                  refine zr_iload_n dX5_measure_131 rfl rfl ?_
                  refine zr_putI dX5_measure_132 zf_X5_34 rfl (hS.has (a := 77) rfl rfl) rfl rfl ?_
                  refine zr_iinc (v := (v3 + 1)) dX5_measure_135 rfl rfl (Nat.le_of_ble_eq_true rfl) rfl ?_
                  refine zr_goto (tgt := 17) dX5_measure_138 (by decide) ?_
                  exact k
                · have k := k.2 hb
                  refine zr_aload_n dX5_measure_112 rfl rfl ?_
                  refine zr_getR dX5_measure_113 zf_X5_19 rfl (hS.has (a := 77) rfl rfl) (hS.ref (a := 79) rfl) ?_
                  refine zr_iload_n dX5_measure_116 rfl rfl ?_
                  refine zr_ialdv (x := (I3 79 v3.toNatClampNeg)) dX5_measure_117 (hS.has (a := 79) rfl rfl) hi1 rfl ?_
                  refine zr_aload_n dX5_measure_118 rfl rfl ?_
                  refine zr_getR dX5_measure_119 zf_X5_19 rfl (hS.has (a := 77) rfl rfl) (hS.ref (a := 79) rfl) ?_
                  refine zr_aload_n dX5_measure_122 rfl rfl ?_
                  refine zr_getIv (x := (I3 77 7)) dX5_measure_123 zf_X5_34 rfl (hS.has (a := 77) rfl rfl) rfl ?_
                  obtain ⟨hi5, k⟩ := k
                  refine zr_ialdv (x := (I3 79 (I3 77 7).toNatClampNeg)) dX5_measure_126 (hS.has (a := 79) rfl rfl) hi5 rfl ?_
                  refine zr_icle (tgt := 135) dX5_measure_127 (by decide) (fun hb => ?_) (fun hb => ?_)
                  · have k := k.1 hb
                    refine zr_iinc (v := (v3 + 1)) dX5_measure_135 rfl rfl (Nat.le_of_ble_eq_true rfl) rfl ?_
                    refine zr_goto (tgt := 17) dX5_measure_138 (by decide) ?_
                    exact k
                  · have k := k.2 hb
                    refine zr_aload_n dX5_measure_130 rfl rfl ?_
                    refine zr_iload_n dX5_measure_131 rfl rfl ?_
                    refine zr_putI dX5_measure_132 zf_X5_34 rfl (hS.has (a := 77) rfl rfl) rfl rfl ?_
                    refine zr_iinc (v := (v3 + 1)) dX5_measure_135 rfl rfl (Nat.le_of_ble_eq_true rfl) rfl ?_
                    refine zr_goto (tgt := 17) dX5_measure_138 (by decide) ?_
                    exact k
          · have k := k.2 hb
            refine zr_goto (tgt := 135) dX5_measure_60 (by decide) ?_
            refine zr_iinc (v := (v3 + 1)) dX5_measure_135 rfl rfl (Nat.le_of_ble_eq_true rfl) rfl ?_
            refine zr_goto (tgt := 17) dX5_measure_138 (by decide) ?_
            exact k
set_option maxHeartbeats 2000000 in
theorem vX5_measured_0 {G : Gp} {bc bs : Nat} {Q : zPost} {S : zSh} {I : zFI} {L : zFL} {v1 : Int32} (hS : zStd S)  (k : ((¬ v1 = 0 → (((I 77 7) < 0 → Q (some (.int (-1000 : Int32))) S I L) ∧ (¬ (I 77 7) < 0 → (((60 : Int32) ≤ (I 77 7) → Q (some (.int (-1000 : Int32))) S I L) ∧ (¬ (60 : Int32) ≤ (I 77 7) → (((2 : Int32) ≤ (I 77 5) → ((v1 = 1 → vp_in (I 77 7) 60 ∧ Q (some (.int (I 79 (I 77 7).toNatClampNeg))) S I L) ∧ (v1 = 2 → vp_in (I 77 7) 60 ∧ Q (some (.int (I 80 (I 77 7).toNatClampNeg))) S I L) ∧ (v1 = 3 → Q (some (.int (I 77 8))) S I L) ∧ (v1 = 4 → Q (some (.int (I 77 9))) S I L) ∧ (¬ v1 = 1 → ¬ v1 = 2 → ¬ v1 = 3 → ¬ v1 = 4 → Q (some (.int (-1000 : Int32))) S I L))) ∧ (¬ (2 : Int32) ≤ (I 77 5) → ((v1 ≤ (2 : Int32) → ((v1 = 1 → vp_in (I 77 7) 60 ∧ Q (some (.int (I 79 (I 77 7).toNatClampNeg))) S I L) ∧ (v1 = 2 → vp_in (I 77 7) 60 ∧ Q (some (.int (I 80 (I 77 7).toNatClampNeg))) S I L) ∧ (v1 = 3 → Q (some (.int (I 77 8))) S I L) ∧ (v1 = 4 → Q (some (.int (I 77 9))) S I L) ∧ (¬ v1 = 1 → ¬ v1 = 2 → ¬ v1 = 3 → ¬ v1 = 4 → Q (some (.int (-1000 : Int32))) S I L))) ∧ (¬ v1 ≤ (2 : Int32) → Q (some (.int (-1000 : Int32))) S I L))))))))) ∧ (v1 = 0 → Q (some (.int (I 77 5))) S I L))) : ZW G mX5_measured fX5_measured lX5_measured 0 [zo G 77, .int v1] [] S I L bc bs Q := by
  refine zr_iload_n dX5_measured_0 rfl rfl ?_
  refine zr_ifne (tgt := 9) dX5_measured_1 (by decide) (fun hb => ?_) (fun hb => ?_)
  · have k := k.1 hb
    refine zr_aload_n dX5_measured_9 rfl rfl ?_
    refine zr_getIv (x := (I 77 7)) dX5_measured_10 zf_X5_34 rfl (hS.has (a := 77) rfl rfl) rfl ?_
    refine zr_iflt (tgt := 38) dX5_measured_13 (by decide) (fun hb => ?_) (fun hb => ?_)
    · have k := k.1 hb
      refine zr_sipush (v := -1000) dX5_measured_38 (by decide) ?_
      exact zr_ireturn dX5_measured_41 rfl rfl k
    · have k := k.2 hb
      refine zr_aload_n dX5_measured_16 rfl rfl ?_
      refine zr_getIv (x := (I 77 7)) dX5_measured_17 zf_X5_34 rfl (hS.has (a := 77) rfl rfl) rfl ?_
      refine zr_bipush (v := 60) dX5_measured_20 (by decide) ?_
      refine zr_icge (tgt := 38) dX5_measured_22 (by decide) (fun hb => ?_) (fun hb => ?_)
      · have k := k.1 hb
        refine zr_sipush (v := -1000) dX5_measured_38 (by decide) ?_
        exact zr_ireturn dX5_measured_41 rfl rfl k
      · have k := k.2 hb
        refine zr_aload_n dX5_measured_25 rfl rfl ?_
        refine zr_getIv (x := (I 77 5)) dX5_measured_26 zf_X5_28 rfl (hS.has (a := 77) rfl rfl) rfl ?_
        refine zr_iconst (v := 2) dX5_measured_29 (by decide) ?_
        refine zr_icge (tgt := 42) dX5_measured_30 (by decide) (fun hb => ?_) (fun hb => ?_)
        · have k := k.1 hb
          refine zr_iload_n dX5_measured_42 rfl rfl ?_
          by_cases h0 : v1 = 1
          · have k := k.1 h0
            refine zr_tabIn (off := 29) (tgt := 72) dX5_measured_43 (by rw [h0]; decide) (by rw [h0]; decide) (by rw [h0]; rfl) (by decide) ?_
            refine zr_aload_n dX5_measured_72 rfl rfl ?_
            refine zr_getR dX5_measured_73 zf_X5_19 rfl (hS.has (a := 77) rfl rfl) (hS.ref (a := 79) rfl) ?_
            refine zr_aload_n dX5_measured_76 rfl rfl ?_
            refine zr_getIv (x := (I 77 7)) dX5_measured_77 zf_X5_34 rfl (hS.has (a := 77) rfl rfl) rfl ?_
            obtain ⟨hi1, k⟩ := k
            refine zr_ialdv (x := (I 79 (I 77 7).toNatClampNeg)) dX5_measured_80 (hS.has (a := 79) rfl rfl) hi1 rfl ?_
            exact zr_ireturn dX5_measured_81 rfl rfl k
          · by_cases h1 : v1 = 2
            · have k := k.2.1 h1
              refine zr_tabIn (off := 39) (tgt := 82) dX5_measured_43 (by rw [h1]; decide) (by rw [h1]; decide) (by rw [h1]; rfl) (by decide) ?_
              refine zr_aload_n dX5_measured_82 rfl rfl ?_
              refine zr_getR dX5_measured_83 zf_X5_22 rfl (hS.has (a := 77) rfl rfl) (hS.ref (a := 80) rfl) ?_
              refine zr_aload_n dX5_measured_86 rfl rfl ?_
              refine zr_getIv (x := (I 77 7)) dX5_measured_87 zf_X5_34 rfl (hS.has (a := 77) rfl rfl) rfl ?_
              obtain ⟨hi2, k⟩ := k
              refine zr_ialdv (x := (I 80 (I 77 7).toNatClampNeg)) dX5_measured_90 (hS.has (a := 80) rfl rfl) hi2 rfl ?_
              exact zr_ireturn dX5_measured_91 rfl rfl k
            · by_cases h2 : v1 = 3
              · have k := k.2.2.1 h2
                refine zr_tabIn (off := 49) (tgt := 92) dX5_measured_43 (by rw [h2]; decide) (by rw [h2]; decide) (by rw [h2]; rfl) (by decide) ?_
                refine zr_aload_n dX5_measured_92 rfl rfl ?_
                refine zr_getIv (x := (I 77 8)) dX5_measured_93 zf_X5_48 rfl (hS.has (a := 77) rfl rfl) rfl ?_
                exact zr_ireturn dX5_measured_96 rfl rfl k
              · by_cases h3 : v1 = 4
                · have k := k.2.2.2.1 h3
                  refine zr_tabIn (off := 54) (tgt := 97) dX5_measured_43 (by rw [h3]; decide) (by rw [h3]; decide) (by rw [h3]; rfl) (by decide) ?_
                  refine zr_aload_n dX5_measured_97 rfl rfl ?_
                  refine zr_getIv (x := (I 77 9)) dX5_measured_98 zf_X5_51 rfl (hS.has (a := 77) rfl rfl) rfl ?_
                  exact zr_ireturn dX5_measured_101 rfl rfl k
                · have k := k.2.2.2.2 h0 h1 h2 h3
                  refine zr_tabOut (tgt := 102) dX5_measured_43 ?_ (by decide) ?_
                  · have e0 := ztab_ne h0; have e1 := ztab_ne h1; have e2 := ztab_ne h2; have e3 := ztab_ne h3; simp only [ztabv_1, ztabv_2, ztabv_3, ztabv_4] at e0 e1 e2 e3; omega
                  refine zr_sipush (v := -1000) dX5_measured_102 (by decide) ?_
                  exact zr_ireturn dX5_measured_105 rfl rfl k
        · have k := k.2 hb
          refine zr_iload_n dX5_measured_33 rfl rfl ?_
          refine zr_iconst (v := 2) dX5_measured_34 (by decide) ?_
          refine zr_icle (tgt := 42) dX5_measured_35 (by decide) (fun hb => ?_) (fun hb => ?_)
          · have k := k.1 hb
            refine zr_iload_n dX5_measured_42 rfl rfl ?_
            by_cases h0 : v1 = 1
            · have k := k.1 h0
              refine zr_tabIn (off := 29) (tgt := 72) dX5_measured_43 (by rw [h0]; decide) (by rw [h0]; decide) (by rw [h0]; rfl) (by decide) ?_
              refine zr_aload_n dX5_measured_72 rfl rfl ?_
              refine zr_getR dX5_measured_73 zf_X5_19 rfl (hS.has (a := 77) rfl rfl) (hS.ref (a := 79) rfl) ?_
              refine zr_aload_n dX5_measured_76 rfl rfl ?_
              refine zr_getIv (x := (I 77 7)) dX5_measured_77 zf_X5_34 rfl (hS.has (a := 77) rfl rfl) rfl ?_
              obtain ⟨hi3, k⟩ := k
              refine zr_ialdv (x := (I 79 (I 77 7).toNatClampNeg)) dX5_measured_80 (hS.has (a := 79) rfl rfl) hi3 rfl ?_
              exact zr_ireturn dX5_measured_81 rfl rfl k
            · by_cases h1 : v1 = 2
              · have k := k.2.1 h1
                refine zr_tabIn (off := 39) (tgt := 82) dX5_measured_43 (by rw [h1]; decide) (by rw [h1]; decide) (by rw [h1]; rfl) (by decide) ?_
                refine zr_aload_n dX5_measured_82 rfl rfl ?_
                refine zr_getR dX5_measured_83 zf_X5_22 rfl (hS.has (a := 77) rfl rfl) (hS.ref (a := 80) rfl) ?_
                refine zr_aload_n dX5_measured_86 rfl rfl ?_
                refine zr_getIv (x := (I 77 7)) dX5_measured_87 zf_X5_34 rfl (hS.has (a := 77) rfl rfl) rfl ?_
                obtain ⟨hi4, k⟩ := k
                refine zr_ialdv (x := (I 80 (I 77 7).toNatClampNeg)) dX5_measured_90 (hS.has (a := 80) rfl rfl) hi4 rfl ?_
                exact zr_ireturn dX5_measured_91 rfl rfl k
              · by_cases h2 : v1 = 3
                · have k := k.2.2.1 h2
                  refine zr_tabIn (off := 49) (tgt := 92) dX5_measured_43 (by rw [h2]; decide) (by rw [h2]; decide) (by rw [h2]; rfl) (by decide) ?_
                  refine zr_aload_n dX5_measured_92 rfl rfl ?_
                  refine zr_getIv (x := (I 77 8)) dX5_measured_93 zf_X5_48 rfl (hS.has (a := 77) rfl rfl) rfl ?_
                  exact zr_ireturn dX5_measured_96 rfl rfl k
                · by_cases h3 : v1 = 4
                  · have k := k.2.2.2.1 h3
                    refine zr_tabIn (off := 54) (tgt := 97) dX5_measured_43 (by rw [h3]; decide) (by rw [h3]; decide) (by rw [h3]; rfl) (by decide) ?_
                    refine zr_aload_n dX5_measured_97 rfl rfl ?_
                    refine zr_getIv (x := (I 77 9)) dX5_measured_98 zf_X5_51 rfl (hS.has (a := 77) rfl rfl) rfl ?_
                    exact zr_ireturn dX5_measured_101 rfl rfl k
                  · have k := k.2.2.2.2 h0 h1 h2 h3
                    refine zr_tabOut (tgt := 102) dX5_measured_43 ?_ (by decide) ?_
                    · have e0 := ztab_ne h0; have e1 := ztab_ne h1; have e2 := ztab_ne h2; have e3 := ztab_ne h3; simp only [ztabv_1, ztabv_2, ztabv_3, ztabv_4] at e0 e1 e2 e3; omega
                    refine zr_sipush (v := -1000) dX5_measured_102 (by decide) ?_
                    exact zr_ireturn dX5_measured_105 rfl rfl k
          · have k := k.2 hb
            refine zr_sipush (v := -1000) dX5_measured_38 (by decide) ?_
            exact zr_ireturn dX5_measured_41 rfl rfl k
  · have k := k.2 hb
    refine zr_aload_n dX5_measured_4 rfl rfl ?_
    refine zr_getIv (x := (I 77 5)) dX5_measured_5 zf_X5_28 rfl (hS.has (a := 77) rfl rfl) rfl ?_
    exact zr_ireturn dX5_measured_8 rfl rfl k
def p_X5_measured (I : zFI) (v1 : Int32) : Int32 := (if v1 = 0 then (I 77 5) else (if (I 77 7) < 0 then (-1000 : Int32) else (if (60 : Int32) ≤ (I 77 7) then (-1000 : Int32) else (if (2 : Int32) ≤ (I 77 5) then (if v1 = 1 then (I 79 (I 77 7).toNatClampNeg) else (if v1 = 2 then (I 80 (I 77 7).toNatClampNeg) else (if v1 = 3 then (I 77 8) else (if v1 = 4 then (I 77 9) else (-1000 : Int32))))) else (if v1 ≤ (2 : Int32) then (if v1 = 1 then (I 79 (I 77 7).toNatClampNeg) else (if v1 = 2 then (I 80 (I 77 7).toNatClampNeg) else (if v1 = 3 then (I 77 8) else (if v1 = 4 then (I 77 9) else (-1000 : Int32))))) else (-1000 : Int32))))))
set_option maxHeartbeats 2000000 in
theorem sp_X5_measured {G : Gp} {Q : zPost} {S : zSh} {I : zFI} {L : zFL} {v1 : Int32} (hS : zStd S)  (h : Q (some (.int (p_X5_measured I v1))) S I L) : ZC G mX5_measured fX5_measured lX5_measured [zo G 77, .int v1] S I L 0 0 Q := by
  refine ZC.of' (vX5_measured_0 hS  ?_) rfl (Nat.le_of_ble_eq_true rfl) rfl
  unfold p_X5_measured at h
  refine ⟨fun hb1 => ?_, fun hb1 => ?_⟩
  · rw [if_neg hb1] at h
    refine ⟨fun hb2 => ?_, fun hb2 => ?_⟩
    · rw [if_pos hb2] at h
      exact h
    · rw [if_neg hb2] at h
      refine ⟨fun hb3 => ?_, fun hb3 => ?_⟩
      · rw [if_pos hb3] at h
        exact h
      · rw [if_neg hb3] at h
        refine ⟨fun hb4 => ?_, fun hb4 => ?_⟩
        · rw [if_pos hb4] at h
          refine ⟨?_, ?_, ?_, ?_, ?_⟩
          · intro hz
            rw [if_pos hz] at h
            refine ⟨zvin (m := 60) rfl (by first | lia) (by first | lia), ?_⟩
            exact h
          · intro hz
            rw [if_neg (by rw [hz]; decide), if_pos hz] at h
            refine ⟨zvin (m := 60) rfl (by first | lia) (by first | lia), ?_⟩
            exact h
          · intro hz
            rw [if_neg (by rw [hz]; decide), if_neg (by rw [hz]; decide), if_pos hz] at h
            exact h
          · intro hz
            rw [if_neg (by rw [hz]; decide), if_neg (by rw [hz]; decide), if_neg (by rw [hz]; decide), if_pos hz] at h
            exact h
          · intro hs5_0 hs5_1 hs5_2 hs5_3
            rw [if_neg hs5_0, if_neg hs5_1, if_neg hs5_2, if_neg hs5_3] at h
            exact h
        · rw [if_neg hb4] at h
          refine ⟨fun hb6 => ?_, fun hb6 => ?_⟩
          · rw [if_pos hb6] at h
            refine ⟨?_, ?_, ?_, ?_, ?_⟩
            · intro hz
              rw [if_pos hz] at h
              refine ⟨zvin (m := 60) rfl (by first | lia) (by first | lia), ?_⟩
              exact h
            · intro hz
              rw [if_neg (by rw [hz]; decide), if_pos hz] at h
              refine ⟨zvin (m := 60) rfl (by first | lia) (by first | lia), ?_⟩
              exact h
            · intro hz
              rw [if_neg (by rw [hz]; decide), if_neg (by rw [hz]; decide), if_pos hz] at h
              exact h
            · intro hz
              rw [if_neg (by rw [hz]; decide), if_neg (by rw [hz]; decide), if_neg (by rw [hz]; decide), if_pos hz] at h
              exact h
            · intro hs7_0 hs7_1 hs7_2 hs7_3
              rw [if_neg hs7_0, if_neg hs7_1, if_neg hs7_2, if_neg hs7_3] at h
              exact h
          · rw [if_neg hb6] at h
            exact h
  · rw [if_pos hb1] at h
    exact h
set_option maxHeartbeats 2000000 in
theorem vX5_fallYear_0 {G : Gp} {bc bs : Nat} {Q : zPost} {S : zSh} {I : zFI} {L : zFL} {v1 : Int32} (hS : zStd S)  (k : (((I 77 5) < (2 : Int32) → Q (some (.int (-1 : Int32))) S I L) ∧ (¬ (I 77 5) < (2 : Int32) → (((I 77 7) < 0 → Q (some (.int (-1 : Int32))) S I L) ∧ (¬ (I 77 7) < 0 → (((I 77 7) < (60 : Int32) → vp_in (I 77 7) 60 ∧ (((if 0 ≤ (I 80 (I 77 7).toNatClampNeg) then (I 80 (I 77 7).toNatClampNeg) else 0 - (I 80 (I 77 7).toNatClampNeg)) ≤ v1 → ((¬ (I 77 8) = 0 → (((I 77 8) ≤ 0 → ¬ (if 0 ≤ (I 77 8) then (I 77 8) else 0 - (I 77 8)) = 0 ∧ (((9999 : Int32) < (((I 79 (I 77 7).toNatClampNeg) + (((v1 + (I 80 (I 77 7).toNatClampNeg)) * (I 77 9)) / (if 0 ≤ (I 77 8) then (I 77 8) else 0 - (I 77 8)))) + (1 : Int32)) → Q (some (.int (-1 : Int32))) S I L) ∧ (¬ (9999 : Int32) < (((I 79 (I 77 7).toNatClampNeg) + (((v1 + (I 80 (I 77 7).toNatClampNeg)) * (I 77 9)) / (if 0 ≤ (I 77 8) then (I 77 8) else 0 - (I 77 8)))) + (1 : Int32)) → Q (some (.int (((I 79 (I 77 7).toNatClampNeg) + (((v1 + (I 80 (I 77 7).toNatClampNeg)) * (I 77 9)) / (if 0 ≤ (I 77 8) then (I 77 8) else 0 - (I 77 8)))) + (1 : Int32)))) S I L))) ∧ (¬ (I 77 8) ≤ 0 → ¬ (if 0 ≤ (I 77 8) then (I 77 8) else 0 - (I 77 8)) = 0 ∧ (((9999 : Int32) < (((I 79 (I 77 7).toNatClampNeg) + (((v1 - (I 80 (I 77 7).toNatClampNeg)) * (I 77 9)) / (if 0 ≤ (I 77 8) then (I 77 8) else 0 - (I 77 8)))) + (1 : Int32)) → Q (some (.int (-1 : Int32))) S I L) ∧ (¬ (9999 : Int32) < (((I 79 (I 77 7).toNatClampNeg) + (((v1 - (I 80 (I 77 7).toNatClampNeg)) * (I 77 9)) / (if 0 ≤ (I 77 8) then (I 77 8) else 0 - (I 77 8)))) + (1 : Int32)) → Q (some (.int (((I 79 (I 77 7).toNatClampNeg) + (((v1 - (I 80 (I 77 7).toNatClampNeg)) * (I 77 9)) / (if 0 ≤ (I 77 8) then (I 77 8) else 0 - (I 77 8)))) + (1 : Int32)))) S I L))))) ∧ ((I 77 8) = 0 → Q (some (.int (-1 : Int32))) S I L))) ∧ (¬ (if 0 ≤ (I 80 (I 77 7).toNatClampNeg) then (I 80 (I 77 7).toNatClampNeg) else 0 - (I 80 (I 77 7).toNatClampNeg)) ≤ v1 → Q (some (.int (I 79 (I 77 7).toNatClampNeg))) S I L))) ∧ (¬ (I 77 7) < (60 : Int32) → Q (some (.int (-1 : Int32))) S I L))))))) : ZW G mX5_fallYear fX5_fallYear lX5_fallYear 0 [zo G 77, .int v1, .null, .null] [] S I L bc bs Q := by
  refine zr_aload_n dX5_fallYear_0 rfl rfl ?_
  refine zr_getIv (x := (I 77 5)) dX5_fallYear_1 zf_X5_28 rfl (hS.has (a := 77) rfl rfl) rfl ?_
  refine zr_iconst (v := 2) dX5_fallYear_4 (by decide) ?_
  refine zr_iclt (tgt := 24) dX5_fallYear_5 (by decide) (fun hb => ?_) (fun hb => ?_)
  · have k := k.1 hb
    refine zr_iconst (v := -1) dX5_fallYear_24 (by decide) ?_
    exact zr_ireturn dX5_fallYear_25 rfl rfl k
  · have k := k.2 hb
    refine zr_aload_n dX5_fallYear_8 rfl rfl ?_
    refine zr_getIv (x := (I 77 7)) dX5_fallYear_9 zf_X5_34 rfl (hS.has (a := 77) rfl rfl) rfl ?_
    refine zr_iflt (tgt := 24) dX5_fallYear_12 (by decide) (fun hb => ?_) (fun hb => ?_)
    · have k := k.1 hb
      refine zr_iconst (v := -1) dX5_fallYear_24 (by decide) ?_
      exact zr_ireturn dX5_fallYear_25 rfl rfl k
    · have k := k.2 hb
      refine zr_aload_n dX5_fallYear_15 rfl rfl ?_
      refine zr_getIv (x := (I 77 7)) dX5_fallYear_16 zf_X5_34 rfl (hS.has (a := 77) rfl rfl) rfl ?_
      refine zr_bipush (v := 60) dX5_fallYear_19 (by decide) ?_
      refine zr_iclt (tgt := 26) dX5_fallYear_21 (by decide) (fun hb => ?_) (fun hb => ?_)
      · have k := k.1 hb
        refine zr_aload_n dX5_fallYear_26 rfl rfl ?_
        refine zr_getR dX5_fallYear_27 zf_X5_22 rfl (hS.has (a := 77) rfl rfl) (hS.ref (a := 80) rfl) ?_
        refine zr_aload_n dX5_fallYear_30 rfl rfl ?_
        refine zr_getIv (x := (I 77 7)) dX5_fallYear_31 zf_X5_34 rfl (hS.has (a := 77) rfl rfl) rfl ?_
        obtain ⟨hi1, k⟩ := k
        refine zr_ialdv (x := (I 80 (I 77 7).toNatClampNeg)) dX5_fallYear_34 (hS.has (a := 80) rfl rfl) hi1 rfl ?_
        refine zr_mabs dX5_fallYear_35 zmt_X5_54 (Nat.le_of_ble_eq_true rfl) (Nat.le_of_ble_eq_true rfl) (Nat.le_of_ble_eq_true rfl) ?_
        refine zr_iload_n dX5_fallYear_38 rfl rfl ?_
        refine zr_icle (tgt := 52) dX5_fallYear_39 (by decide) (fun hb => ?_) (fun hb => ?_)
        · have k := k.1 hb
          refine zr_aload_n dX5_fallYear_52 rfl rfl ?_
          refine zr_getIv (x := (I 77 8)) dX5_fallYear_53 zf_X5_48 rfl (hS.has (a := 77) rfl rfl) rfl ?_
          refine zr_ifne (tgt := 61) dX5_fallYear_56 (by decide) (fun hb => ?_) (fun hb => ?_)
          · have k := k.1 hb
            refine zr_aload_n dX5_fallYear_61 rfl rfl ?_
            refine zr_getIv (x := (I 77 8)) dX5_fallYear_62 zf_X5_48 rfl (hS.has (a := 77) rfl rfl) rfl ?_
            refine zr_ifle (tgt := 82) dX5_fallYear_65 (by decide) (fun hb => ?_) (fun hb => ?_)
            · have k := k.1 hb
              refine zr_iload_n dX5_fallYear_82 rfl rfl ?_
              refine zr_aload_n dX5_fallYear_83 rfl rfl ?_
              refine zr_getR dX5_fallYear_84 zf_X5_22 rfl (hS.has (a := 77) rfl rfl) (hS.ref (a := 80) rfl) ?_
              refine zr_aload_n dX5_fallYear_87 rfl rfl ?_
              refine zr_getIv (x := (I 77 7)) dX5_fallYear_88 zf_X5_34 rfl (hS.has (a := 77) rfl rfl) rfl ?_
              refine zr_ialdv (x := (I 80 (I 77 7).toNatClampNeg)) dX5_fallYear_91 (hS.has (a := 80) rfl rfl) hi1 rfl ?_
              refine zr_iadd dX5_fallYear_92 ?_
              refine zr_istore_n dX5_fallYear_93 rfl (Nat.le_of_ble_eq_true rfl) rfl ?_
              refine zr_aload_n dX5_fallYear_94 rfl rfl ?_
              refine zr_getR dX5_fallYear_95 zf_X5_19 rfl (hS.has (a := 77) rfl rfl) (hS.ref (a := 79) rfl) ?_
              refine zr_aload_n dX5_fallYear_98 rfl rfl ?_
              refine zr_getIv (x := (I 77 7)) dX5_fallYear_99 zf_X5_34 rfl (hS.has (a := 77) rfl rfl) rfl ?_
              refine zr_ialdv (x := (I 79 (I 77 7).toNatClampNeg)) dX5_fallYear_102 (hS.has (a := 79) rfl rfl) hi1 rfl ?_
              refine zr_iload_n dX5_fallYear_103 rfl rfl ?_
              refine zr_aload_n dX5_fallYear_104 rfl rfl ?_
              refine zr_getIv (x := (I 77 9)) dX5_fallYear_105 zf_X5_51 rfl (hS.has (a := 77) rfl rfl) rfl ?_
              refine zr_imul dX5_fallYear_108 ?_
              refine zr_aload_n dX5_fallYear_109 rfl rfl ?_
              refine zr_getIv (x := (I 77 8)) dX5_fallYear_110 zf_X5_48 rfl (hS.has (a := 77) rfl rfl) rfl ?_
              refine zr_mabs dX5_fallYear_113 zmt_X5_54 (Nat.le_of_ble_eq_true rfl) (Nat.le_of_ble_eq_true rfl) (Nat.le_of_ble_eq_true rfl) ?_
              obtain ⟨hc, k⟩ := k
              refine zr_idiv dX5_fallYear_116 hc ?_
              refine zr_iadd dX5_fallYear_117 ?_
              refine zr_iconst (v := 1) dX5_fallYear_118 (by decide) ?_
              refine zr_iadd dX5_fallYear_119 ?_
              refine zr_istore_n dX5_fallYear_120 rfl (Nat.le_of_ble_eq_true rfl) rfl ?_
              refine zr_iload_n dX5_fallYear_121 rfl rfl ?_
              refine zr_sipush (v := 9999) dX5_fallYear_122 (by decide) ?_
              refine zr_icgt (tgt := 132) dX5_fallYear_125 (by decide) (fun hb => ?_) (fun hb => ?_)
              · have k := k.1 hb
                refine zr_iconst (v := -1) dX5_fallYear_132 (by decide) ?_
                exact zr_ireturn dX5_fallYear_133 rfl rfl k
              · have k := k.2 hb
                refine zr_iload_n dX5_fallYear_128 rfl rfl ?_
                refine zr_goto (tgt := 133) dX5_fallYear_129 (by decide) ?_
                exact zr_ireturn dX5_fallYear_133 rfl rfl k
            · have k := k.2 hb
              refine zr_iload_n dX5_fallYear_68 rfl rfl ?_
              refine zr_aload_n dX5_fallYear_69 rfl rfl ?_
              refine zr_getR dX5_fallYear_70 zf_X5_22 rfl (hS.has (a := 77) rfl rfl) (hS.ref (a := 80) rfl) ?_
              refine zr_aload_n dX5_fallYear_73 rfl rfl ?_
              refine zr_getIv (x := (I 77 7)) dX5_fallYear_74 zf_X5_34 rfl (hS.has (a := 77) rfl rfl) rfl ?_
              refine zr_ialdv (x := (I 80 (I 77 7).toNatClampNeg)) dX5_fallYear_77 (hS.has (a := 80) rfl rfl) hi1 rfl ?_
              refine zr_isub dX5_fallYear_78 ?_
              refine zr_goto (tgt := 93) dX5_fallYear_79 (by decide) ?_
              refine zr_istore_n dX5_fallYear_93 rfl (Nat.le_of_ble_eq_true rfl) rfl ?_
              refine zr_aload_n dX5_fallYear_94 rfl rfl ?_
              refine zr_getR dX5_fallYear_95 zf_X5_19 rfl (hS.has (a := 77) rfl rfl) (hS.ref (a := 79) rfl) ?_
              refine zr_aload_n dX5_fallYear_98 rfl rfl ?_
              refine zr_getIv (x := (I 77 7)) dX5_fallYear_99 zf_X5_34 rfl (hS.has (a := 77) rfl rfl) rfl ?_
              refine zr_ialdv (x := (I 79 (I 77 7).toNatClampNeg)) dX5_fallYear_102 (hS.has (a := 79) rfl rfl) hi1 rfl ?_
              refine zr_iload_n dX5_fallYear_103 rfl rfl ?_
              refine zr_aload_n dX5_fallYear_104 rfl rfl ?_
              refine zr_getIv (x := (I 77 9)) dX5_fallYear_105 zf_X5_51 rfl (hS.has (a := 77) rfl rfl) rfl ?_
              refine zr_imul dX5_fallYear_108 ?_
              refine zr_aload_n dX5_fallYear_109 rfl rfl ?_
              refine zr_getIv (x := (I 77 8)) dX5_fallYear_110 zf_X5_48 rfl (hS.has (a := 77) rfl rfl) rfl ?_
              refine zr_mabs dX5_fallYear_113 zmt_X5_54 (Nat.le_of_ble_eq_true rfl) (Nat.le_of_ble_eq_true rfl) (Nat.le_of_ble_eq_true rfl) ?_
              obtain ⟨hc, k⟩ := k
              refine zr_idiv dX5_fallYear_116 hc ?_
              refine zr_iadd dX5_fallYear_117 ?_
              refine zr_iconst (v := 1) dX5_fallYear_118 (by decide) ?_
              refine zr_iadd dX5_fallYear_119 ?_
              refine zr_istore_n dX5_fallYear_120 rfl (Nat.le_of_ble_eq_true rfl) rfl ?_
              refine zr_iload_n dX5_fallYear_121 rfl rfl ?_
              refine zr_sipush (v := 9999) dX5_fallYear_122 (by decide) ?_
              refine zr_icgt (tgt := 132) dX5_fallYear_125 (by decide) (fun hb => ?_) (fun hb => ?_)
              · have k := k.1 hb
                refine zr_iconst (v := -1) dX5_fallYear_132 (by decide) ?_
                exact zr_ireturn dX5_fallYear_133 rfl rfl k
              · have k := k.2 hb
                refine zr_iload_n dX5_fallYear_128 rfl rfl ?_
                refine zr_goto (tgt := 133) dX5_fallYear_129 (by decide) ?_
                exact zr_ireturn dX5_fallYear_133 rfl rfl k
          · have k := k.2 hb
            refine zr_iconst (v := -1) dX5_fallYear_59 (by decide) ?_
            exact zr_ireturn dX5_fallYear_60 rfl rfl k
        · have k := k.2 hb
          refine zr_aload_n dX5_fallYear_42 rfl rfl ?_
          refine zr_getR dX5_fallYear_43 zf_X5_19 rfl (hS.has (a := 77) rfl rfl) (hS.ref (a := 79) rfl) ?_
          refine zr_aload_n dX5_fallYear_46 rfl rfl ?_
          refine zr_getIv (x := (I 77 7)) dX5_fallYear_47 zf_X5_34 rfl (hS.has (a := 77) rfl rfl) rfl ?_
          refine zr_ialdv (x := (I 79 (I 77 7).toNatClampNeg)) dX5_fallYear_50 (hS.has (a := 79) rfl rfl) hi1 rfl ?_
          exact zr_ireturn dX5_fallYear_51 rfl rfl k
      · have k := k.2 hb
        refine zr_iconst (v := -1) dX5_fallYear_24 (by decide) ?_
        exact zr_ireturn dX5_fallYear_25 rfl rfl k
set_option maxHeartbeats 2000000 in
theorem vX6_isSign_0 {G : Gp} {bc bs : Nat} {Q : zPost} {S : zSh} {I : zFI} {L : zFL} {v0 : Int32} (hS : zStd S)  (k : ((v0 = (73 : Int32) → Q (some (.int (1 : Int32))) S I L) ∧ (¬ v0 = (73 : Int32) → ((v0 = (86 : Int32) → Q (some (.int (1 : Int32))) S I L) ∧ (¬ v0 = (86 : Int32) → ((v0 = (88 : Int32) → Q (some (.int (1 : Int32))) S I L) ∧ (¬ v0 = (88 : Int32) → ((¬ v0 = (63 : Int32) → Q (some (.int (0 : Int32))) S I L) ∧ (v0 = (63 : Int32) → Q (some (.int (1 : Int32))) S I L))))))))) : ZW G mX6_isSign fX6_isSign lX6_isSign 0 [.int v0] [] S I L bc bs Q := by
  refine zr_iload_n dX6_isSign_0 rfl rfl ?_
  refine zr_bipush (v := 73) dX6_isSign_1 (by decide) ?_
  refine zr_iceq (tgt := 24) dX6_isSign_3 (by decide) (fun hb => ?_) (fun hb => ?_)
  · have k := k.1 hb
    refine zr_iconst (v := 1) dX6_isSign_24 (by decide) ?_
    refine zr_goto (tgt := 29) dX6_isSign_25 (by decide) ?_
    exact zr_ireturn dX6_isSign_29 rfl rfl k
  · have k := k.2 hb
    refine zr_iload_n dX6_isSign_6 rfl rfl ?_
    refine zr_bipush (v := 86) dX6_isSign_7 (by decide) ?_
    refine zr_iceq (tgt := 24) dX6_isSign_9 (by decide) (fun hb => ?_) (fun hb => ?_)
    · have k := k.1 hb
      refine zr_iconst (v := 1) dX6_isSign_24 (by decide) ?_
      refine zr_goto (tgt := 29) dX6_isSign_25 (by decide) ?_
      exact zr_ireturn dX6_isSign_29 rfl rfl k
    · have k := k.2 hb
      refine zr_iload_n dX6_isSign_12 rfl rfl ?_
      refine zr_bipush (v := 88) dX6_isSign_13 (by decide) ?_
      refine zr_iceq (tgt := 24) dX6_isSign_15 (by decide) (fun hb => ?_) (fun hb => ?_)
      · have k := k.1 hb
        refine zr_iconst (v := 1) dX6_isSign_24 (by decide) ?_
        refine zr_goto (tgt := 29) dX6_isSign_25 (by decide) ?_
        exact zr_ireturn dX6_isSign_29 rfl rfl k
      · have k := k.2 hb
        refine zr_iload_n dX6_isSign_18 rfl rfl ?_
        refine zr_bipush (v := 63) dX6_isSign_19 (by decide) ?_
        refine zr_icne (tgt := 28) dX6_isSign_21 (by decide) (fun hb => ?_) (fun hb => ?_)
        · have k := k.1 hb
          refine zr_iconst (v := 0) dX6_isSign_28 (by decide) ?_
          exact zr_ireturn dX6_isSign_29 rfl rfl k
        · have k := k.2 hb
          refine zr_iconst (v := 1) dX6_isSign_24 (by decide) ?_
          refine zr_goto (tgt := 29) dX6_isSign_25 (by decide) ?_
          exact zr_ireturn dX6_isSign_29 rfl rfl k
def p_X6_isSign  (v0 : Int32) : Int32 := (if v0 = (73 : Int32) then (1 : Int32) else (if v0 = (86 : Int32) then (1 : Int32) else (if v0 = (88 : Int32) then (1 : Int32) else (if v0 = (63 : Int32) then (1 : Int32) else (0 : Int32)))))
set_option maxHeartbeats 2000000 in
theorem sp_X6_isSign {G : Gp} {Q : zPost} {S : zSh} {I : zFI} {L : zFL} {v0 : Int32} (hS : zStd S)  (h : Q (some (.int (p_X6_isSign  v0))) S I L) : ZC G mX6_isSign fX6_isSign lX6_isSign [.int v0] S I L 0 0 Q := by
  refine ZC.of' (vX6_isSign_0 hS  ?_) rfl (Nat.le_of_ble_eq_true rfl) rfl
  unfold p_X6_isSign at h
  refine ⟨fun hb1 => ?_, fun hb1 => ?_⟩
  · rw [if_pos hb1] at h
    exact h
  · rw [if_neg hb1] at h
    refine ⟨fun hb2 => ?_, fun hb2 => ?_⟩
    · rw [if_pos hb2] at h
      exact h
    · rw [if_neg hb2] at h
      refine ⟨fun hb3 => ?_, fun hb3 => ?_⟩
      · rw [if_pos hb3] at h
        exact h
      · rw [if_neg hb3] at h
        refine ⟨fun hb4 => ?_, fun hb4 => ?_⟩
        · rw [if_neg hb4] at h
          exact h
        · rw [if_pos hb4] at h
          exact h
theorem pb_X6_isSign  (v0 : Int32) : p_X6_isSign  v0 = 0 ∨ p_X6_isSign  v0 = 1 := by
  unfold p_X6_isSign
  repeat' split
  all_goals first | exact Or.inl rfl | exact Or.inr rfl | assumption
set_option maxHeartbeats 2000000 in
theorem vX6_tell_0 {G : Gp} {bc bs : Nat} {Q : zPost} {S : zSh} {I : zFI} {L : zFL} {v1 : Int32} {v2 : Int32} (hS : zStd S)  (k : (((p_X9_size I) ≤ 0 → (((200 : Int32) ≤ (I 19 0) → Q (some (.int (-1 : Int32))) S I L) ∧ (¬ (200 : Int32) ≤ (I 19 0) → ((((p_X9_size I) - (0 : Int32)) ≤ (6 : Int32) → ZW G mX6_tell fX6_tell lX6_tell 60 [zo G 19, .int v1, .int v2, zo G 1, .int (0 : Int32), .int ((p_X9_size I) - (0 : Int32)), .int (0 : Int32)] [] S I L bc bs Q) ∧ (¬ ((p_X9_size I) - (0 : Int32)) ≤ (6 : Int32) → Q (some (.int (-1 : Int32))) S I L))))) ∧ (¬ (p_X9_size I) ≤ 0 → ((¬ (p_X9_byteAt I ((p_X9_size I) - (1 : Int32))) = (39 : Int32) → (((200 : Int32) ≤ (I 19 0) → Q (some (.int (-1 : Int32))) S I L) ∧ (¬ (200 : Int32) ≤ (I 19 0) → ((((p_X9_size I) - (0 : Int32)) ≤ (6 : Int32) → ZW G mX6_tell fX6_tell lX6_tell 60 [zo G 19, .int v1, .int v2, zo G 1, .int (0 : Int32), .int ((p_X9_size I) - (0 : Int32)), .int (0 : Int32)] [] S I L bc bs Q) ∧ (¬ ((p_X9_size I) - (0 : Int32)) ≤ (6 : Int32) → Q (some (.int (-1 : Int32))) S I L))))) ∧ ((p_X9_byteAt I ((p_X9_size I) - (1 : Int32))) = (39 : Int32) → (((200 : Int32) ≤ (I 19 0) → Q (some (.int (-1 : Int32))) S I L) ∧ (¬ (200 : Int32) ≤ (I 19 0) → ((((p_X9_size I) - (1 : Int32)) ≤ (6 : Int32) → ZW G mX6_tell fX6_tell lX6_tell 60 [zo G 19, .int v1, .int v2, zo G 1, .int (1 : Int32), .int ((p_X9_size I) - (1 : Int32)), .int (0 : Int32)] [] S I L bc bs Q) ∧ (¬ ((p_X9_size I) - (1 : Int32)) ≤ (6 : Int32) → Q (some (.int (-1 : Int32))) S I L))))))))) : ZW G mX6_tell fX6_tell lX6_tell 0 [zo G 19, .int v1, .int v2, zo G 1, .null, .null, .null] [] S I L bc bs Q := by
  refine zr_aload_n dX6_tell_0 rfl rfl ?_
  refine zr_callV (As := []) (fr' := fX9_size) (lo' := lX9_size) (bc' := 0) (bs' := 0) (bcr := bc) (bsr := bs) dX6_tell_1 zs_X6_40 zi_X9_size zcl_9 (hS.has (a := 1) rfl rfl) rfl rfl (Nat.le_of_ble_eq_true rfl) (Nat.le_of_ble_eq_true rfl) (Nat.le_of_ble_eq_true rfl) (Nat.le_refl _) (Nat.le_refl _) ?_
  refine sp_X9_size hS  ?_
  show ZW G mX6_tell fX6_tell lX6_tell 4 [zo G 19, .int v1, .int v2, zo G 1, .null, .null, .null] [.int (p_X9_size I)] S I L bc bs Q
  refine zr_ifle (tgt := 26) dX6_tell_4 (by decide) (fun hb => ?_) (fun hb => ?_)
  · have k := k.1 hb
    refine zr_iconst (v := 0) dX6_tell_26 (by decide) ?_
    refine zr_istore dX6_tell_27 (Nat.le_of_ble_eq_true rfl) rfl ?_
    refine zr_aload_n dX6_tell_29 rfl rfl ?_
    refine zr_callV (As := []) (fr' := fX9_size) (lo' := lX9_size) (bc' := 0) (bs' := 0) (bcr := bc) (bsr := bs) dX6_tell_30 zs_X6_40 zi_X9_size zcl_9 (hS.has (a := 1) rfl rfl) rfl rfl (Nat.le_of_ble_eq_true rfl) (Nat.le_of_ble_eq_true rfl) (Nat.le_of_ble_eq_true rfl) (Nat.le_refl _) (Nat.le_refl _) ?_
    refine sp_X9_size hS  ?_
    show ZW G mX6_tell fX6_tell lX6_tell 33 [zo G 19, .int v1, .int v2, zo G 1, .int (0 : Int32), .null, .null] [.int (p_X9_size I)] S I L bc bs Q
    refine zr_iload dX6_tell_33 rfl ?_
    refine zr_isub dX6_tell_35 ?_
    refine zr_istore dX6_tell_36 (Nat.le_of_ble_eq_true rfl) rfl ?_
    refine zr_aload_n dX6_tell_38 rfl rfl ?_
    refine zr_getIv (x := (I 19 0)) dX6_tell_39 zf_X6_9 rfl (hS.has (a := 19) rfl rfl) rfl ?_
    refine zr_sipush (v := 200) dX6_tell_42 (by decide) ?_
    refine zr_icge (tgt := 55) dX6_tell_45 (by decide) (fun hb => ?_) (fun hb => ?_)
    · have k := k.1 hb
      refine zr_iconst (v := -1) dX6_tell_55 (by decide) ?_
      exact zr_ireturn dX6_tell_56 rfl rfl k
    · have k := k.2 hb
      refine zr_iload dX6_tell_48 rfl ?_
      refine zr_bipush (v := 6) dX6_tell_50 (by decide) ?_
      refine zr_icle (tgt := 57) dX6_tell_52 (by decide) (fun hb => ?_) (fun hb => ?_)
      · have k := k.1 hb
        refine zr_iconst (v := 0) dX6_tell_57 (by decide) ?_
        refine zr_istore dX6_tell_58 (Nat.le_of_ble_eq_true rfl) rfl ?_
        exact k
      · have k := k.2 hb
        refine zr_iconst (v := -1) dX6_tell_55 (by decide) ?_
        exact zr_ireturn dX6_tell_56 rfl rfl k
  · have k := k.2 hb
    refine zr_aload_n dX6_tell_7 rfl rfl ?_
    refine zr_aload_n dX6_tell_8 rfl rfl ?_
    refine zr_callV (As := []) (fr' := fX9_size) (lo' := lX9_size) (bc' := 0) (bs' := 0) (bcr := bc) (bsr := bs) dX6_tell_9 zs_X6_40 zi_X9_size zcl_9 (hS.has (a := 1) rfl rfl) rfl rfl (Nat.le_of_ble_eq_true rfl) (Nat.le_of_ble_eq_true rfl) (Nat.le_of_ble_eq_true rfl) (Nat.le_refl _) (Nat.le_refl _) ?_
    refine sp_X9_size hS  ?_
    show ZW G mX6_tell fX6_tell lX6_tell 12 [zo G 19, .int v1, .int v2, zo G 1, .null, .null, .null] [.int (p_X9_size I), zo G 1] S I L bc bs Q
    refine zr_iconst (v := 1) dX6_tell_12 (by decide) ?_
    refine zr_isub dX6_tell_13 ?_
    refine zr_callV (As := [.int ((p_X9_size I) - (1 : Int32))]) (fr' := fX9_byteAt) (lo' := lX9_byteAt) (bc' := 0) (bs' := 0) (bcr := bc) (bsr := bs) dX6_tell_14 zs_X6_46 zi_X9_byteAt zcl_9 (hS.has (a := 1) rfl rfl) rfl rfl (Nat.le_of_ble_eq_true rfl) (Nat.le_of_ble_eq_true rfl) (Nat.le_of_ble_eq_true rfl) (Nat.le_refl _) (Nat.le_refl _) ?_
    refine sp_X9_byteAt hS  ?_
    show ZW G mX6_tell fX6_tell lX6_tell 17 [zo G 19, .int v1, .int v2, zo G 1, .null, .null, .null] [.int (p_X9_byteAt I ((p_X9_size I) - (1 : Int32)))] S I L bc bs Q
    refine zr_bipush (v := 39) dX6_tell_17 (by decide) ?_
    refine zr_icne (tgt := 26) dX6_tell_19 (by decide) (fun hb => ?_) (fun hb => ?_)
    · have k := k.1 hb
      refine zr_iconst (v := 0) dX6_tell_26 (by decide) ?_
      refine zr_istore dX6_tell_27 (Nat.le_of_ble_eq_true rfl) rfl ?_
      refine zr_aload_n dX6_tell_29 rfl rfl ?_
      refine zr_callV (As := []) (fr' := fX9_size) (lo' := lX9_size) (bc' := 0) (bs' := 0) (bcr := bc) (bsr := bs) dX6_tell_30 zs_X6_40 zi_X9_size zcl_9 (hS.has (a := 1) rfl rfl) rfl rfl (Nat.le_of_ble_eq_true rfl) (Nat.le_of_ble_eq_true rfl) (Nat.le_of_ble_eq_true rfl) (Nat.le_refl _) (Nat.le_refl _) ?_
      refine sp_X9_size hS  ?_
      show ZW G mX6_tell fX6_tell lX6_tell 33 [zo G 19, .int v1, .int v2, zo G 1, .int (0 : Int32), .null, .null] [.int (p_X9_size I)] S I L bc bs Q
      refine zr_iload dX6_tell_33 rfl ?_
      refine zr_isub dX6_tell_35 ?_
      refine zr_istore dX6_tell_36 (Nat.le_of_ble_eq_true rfl) rfl ?_
      refine zr_aload_n dX6_tell_38 rfl rfl ?_
      refine zr_getIv (x := (I 19 0)) dX6_tell_39 zf_X6_9 rfl (hS.has (a := 19) rfl rfl) rfl ?_
      refine zr_sipush (v := 200) dX6_tell_42 (by decide) ?_
      refine zr_icge (tgt := 55) dX6_tell_45 (by decide) (fun hb => ?_) (fun hb => ?_)
      · have k := k.1 hb
        refine zr_iconst (v := -1) dX6_tell_55 (by decide) ?_
        exact zr_ireturn dX6_tell_56 rfl rfl k
      · have k := k.2 hb
        refine zr_iload dX6_tell_48 rfl ?_
        refine zr_bipush (v := 6) dX6_tell_50 (by decide) ?_
        refine zr_icle (tgt := 57) dX6_tell_52 (by decide) (fun hb => ?_) (fun hb => ?_)
        · have k := k.1 hb
          refine zr_iconst (v := 0) dX6_tell_57 (by decide) ?_
          refine zr_istore dX6_tell_58 (Nat.le_of_ble_eq_true rfl) rfl ?_
          exact k
        · have k := k.2 hb
          refine zr_iconst (v := -1) dX6_tell_55 (by decide) ?_
          exact zr_ireturn dX6_tell_56 rfl rfl k
    · have k := k.2 hb
      refine zr_iconst (v := 1) dX6_tell_22 (by decide) ?_
      refine zr_goto (tgt := 27) dX6_tell_23 (by decide) ?_
      refine zr_istore dX6_tell_27 (Nat.le_of_ble_eq_true rfl) rfl ?_
      refine zr_aload_n dX6_tell_29 rfl rfl ?_
      refine zr_callV (As := []) (fr' := fX9_size) (lo' := lX9_size) (bc' := 0) (bs' := 0) (bcr := bc) (bsr := bs) dX6_tell_30 zs_X6_40 zi_X9_size zcl_9 (hS.has (a := 1) rfl rfl) rfl rfl (Nat.le_of_ble_eq_true rfl) (Nat.le_of_ble_eq_true rfl) (Nat.le_of_ble_eq_true rfl) (Nat.le_refl _) (Nat.le_refl _) ?_
      refine sp_X9_size hS  ?_
      show ZW G mX6_tell fX6_tell lX6_tell 33 [zo G 19, .int v1, .int v2, zo G 1, .int (1 : Int32), .null, .null] [.int (p_X9_size I)] S I L bc bs Q
      refine zr_iload dX6_tell_33 rfl ?_
      refine zr_isub dX6_tell_35 ?_
      refine zr_istore dX6_tell_36 (Nat.le_of_ble_eq_true rfl) rfl ?_
      refine zr_aload_n dX6_tell_38 rfl rfl ?_
      refine zr_getIv (x := (I 19 0)) dX6_tell_39 zf_X6_9 rfl (hS.has (a := 19) rfl rfl) rfl ?_
      refine zr_sipush (v := 200) dX6_tell_42 (by decide) ?_
      refine zr_icge (tgt := 55) dX6_tell_45 (by decide) (fun hb => ?_) (fun hb => ?_)
      · have k := k.1 hb
        refine zr_iconst (v := -1) dX6_tell_55 (by decide) ?_
        exact zr_ireturn dX6_tell_56 rfl rfl k
      · have k := k.2 hb
        refine zr_iload dX6_tell_48 rfl ?_
        refine zr_bipush (v := 6) dX6_tell_50 (by decide) ?_
        refine zr_icle (tgt := 57) dX6_tell_52 (by decide) (fun hb => ?_) (fun hb => ?_)
        · have k := k.1 hb
          refine zr_iconst (v := 0) dX6_tell_57 (by decide) ?_
          refine zr_istore dX6_tell_58 (Nat.le_of_ble_eq_true rfl) rfl ?_
          exact k
        · have k := k.2 hb
          refine zr_iconst (v := -1) dX6_tell_55 (by decide) ?_
          exact zr_ireturn dX6_tell_56 rfl rfl k
set_option maxHeartbeats 2000000 in
theorem vX6_tell_60 {G : Gp} {bc bs : Nat} {Q : zPost} {S : zSh} {I : zFI} {L : zFL} {v1 : Int32} {v2 : Int32} {v4 : Int32} {v5 : Int32} {v6 : Int32} (hS : zStd S)  (k : ((v5 ≤ v6 → vp_in (I 19 0) 200 ∧ Q (some (.int v5)) S (u2 (u2 (u2 (u2 (u2 I 20 (I 19 0).toNatClampNeg v1) 21 (I 19 0).toNatClampNeg v2) 22 (I 19 0).toNatClampNeg v5) 23 (I 19 0).toNatClampNeg v4) 19 0 ((I 19 0) + (1 : Int32))) L) ∧ (¬ v5 ≤ v6 → ((¬ (p_X6_isSign (p_X9_byteAt I v6)) = 0 → vp_in (((I 19 0) * (6 : Int32)) + v6) 1200 ∧ ZW G mX6_tell fX6_tell lX6_tell 60 [zo G 19, .int v1, .int v2, zo G 1, .int v4, .int v5, .int (v6 + 1)] [] S (u2 I 24 (((I 19 0) * (6 : Int32)) + v6).toNatClampNeg (p_X9_byteAt I v6)) L bc bs Q) ∧ ((p_X6_isSign (p_X9_byteAt I v6)) = 0 → Q (some (.int (-1 : Int32))) S I L))))) : ZW G mX6_tell fX6_tell lX6_tell 60 [zo G 19, .int v1, .int v2, zo G 1, .int v4, .int v5, .int v6] [] S I L bc bs Q := by
  refine zr_iload dX6_tell_60 rfl ?_
  refine zr_iload dX6_tell_62 rfl ?_
  refine zr_icge (tgt := 108) dX6_tell_64 (by decide) (fun hb => ?_) (fun hb => ?_)
  · have k := k.1 hb
    refine zr_aload_n dX6_tell_108 rfl rfl ?_
    refine zr_getR dX6_tell_109 zf_X6_15 rfl (hS.has (a := 19) rfl rfl) (hS.ref (a := 20) rfl) ?_
    refine zr_aload_n dX6_tell_112 rfl rfl ?_
    refine zr_getIv (x := (I 19 0)) dX6_tell_113 zf_X6_9 rfl (hS.has (a := 19) rfl rfl) rfl ?_
    refine zr_iload_n dX6_tell_116 rfl rfl ?_
    obtain ⟨hi1, k⟩ := k
    refine zr_iast dX6_tell_117 (hS.has (a := 20) rfl rfl) hi1 ?_
    refine zr_aload_n dX6_tell_118 rfl rfl ?_
    refine zr_getR dX6_tell_119 zf_X6_19 rfl (hS.has (a := 19) rfl rfl) (hS.ref (a := 21) rfl) ?_
    refine zr_aload_n dX6_tell_122 rfl rfl ?_
    refine zr_getIv (x := (I 19 0)) dX6_tell_123 zf_X6_9 rfl (hS.has (a := 19) rfl rfl) rfl ?_
    refine zr_iload_n dX6_tell_126 rfl rfl ?_
    refine zr_iast dX6_tell_127 (hS.has (a := 21) rfl rfl) hi1 ?_
    refine zr_aload_n dX6_tell_128 rfl rfl ?_
    refine zr_getR dX6_tell_129 zf_X6_22 rfl (hS.has (a := 19) rfl rfl) (hS.ref (a := 22) rfl) ?_
    refine zr_aload_n dX6_tell_132 rfl rfl ?_
    refine zr_getIv (x := (I 19 0)) dX6_tell_133 zf_X6_9 rfl (hS.has (a := 19) rfl rfl) rfl ?_
    refine zr_iload dX6_tell_136 rfl ?_
    refine zr_iast dX6_tell_138 (hS.has (a := 22) rfl rfl) hi1 ?_
    refine zr_aload_n dX6_tell_139 rfl rfl ?_
    refine zr_getR dX6_tell_140 zf_X6_25 rfl (hS.has (a := 19) rfl rfl) (hS.ref (a := 23) rfl) ?_
    refine zr_aload_n dX6_tell_143 rfl rfl ?_
    refine zr_getIv (x := (I 19 0)) dX6_tell_144 zf_X6_9 rfl (hS.has (a := 19) rfl rfl) rfl ?_
    refine zr_iload dX6_tell_147 rfl ?_
    refine zr_iast dX6_tell_149 (hS.has (a := 23) rfl rfl) hi1 ?_
    refine zr_aload_n dX6_tell_150 rfl rfl ?_
    refine zr_dup dX6_tell_151 rfl ?_
    refine zr_getIv (x := (I 19 0)) dX6_tell_152 zf_X6_9 rfl (hS.has (a := 19) rfl rfl) rfl ?_
    refine zr_iconst (v := 1) dX6_tell_155 (by decide) ?_
    refine zr_iadd dX6_tell_156 ?_
    refine zr_putI dX6_tell_157 zf_X6_9 rfl (hS.has (a := 19) rfl rfl) rfl rfl ?_
    refine zr_iload dX6_tell_160 rfl ?_
    exact zr_ireturn dX6_tell_162 rfl rfl k
  · have k := k.2 hb
    refine zr_aload_n dX6_tell_67 rfl rfl ?_
    refine zr_iload dX6_tell_68 rfl ?_
    refine zr_callV (As := [.int v6]) (fr' := fX9_byteAt) (lo' := lX9_byteAt) (bc' := 0) (bs' := 0) (bcr := bc) (bsr := bs) dX6_tell_70 zs_X6_46 zi_X9_byteAt zcl_9 (hS.has (a := 1) rfl rfl) rfl rfl (Nat.le_of_ble_eq_true rfl) (Nat.le_of_ble_eq_true rfl) (Nat.le_of_ble_eq_true rfl) (Nat.le_refl _) (Nat.le_refl _) ?_
    refine sp_X9_byteAt hS  ?_
    show ZW G mX6_tell fX6_tell lX6_tell 73 [zo G 19, .int v1, .int v2, zo G 1, .int v4, .int v5, .int v6] [.int (p_X9_byteAt I v6)] S I L bc bs Q
    refine zr_callS (As := [.int (p_X9_byteAt I v6)]) (fr' := fX6_isSign) (lo' := lX6_isSign) (bc' := 0) (bs' := 0) (bcr := bc) (bsr := bs) dX6_tell_73 zs_X6_50 zst_X6_isSign rfl rfl (Nat.le_of_ble_eq_true rfl) (Nat.le_of_ble_eq_true rfl) (Nat.le_of_ble_eq_true rfl) (Nat.le_refl _) (Nat.le_refl _) ?_
    refine sp_X6_isSign hS  ?_
    show ZW G mX6_tell fX6_tell lX6_tell 76 [zo G 19, .int v1, .int v2, zo G 1, .int v4, .int v5, .int v6] [.int (p_X6_isSign (p_X9_byteAt I v6))] S I L bc bs Q
    refine zr_ifne (tgt := 81) dX6_tell_76 (by decide) (fun hb => ?_) (fun hb => ?_)
    · have k := k.1 hb
      refine zr_aload_n dX6_tell_81 rfl rfl ?_
      refine zr_getR dX6_tell_82 zf_X6_28 rfl (hS.has (a := 19) rfl rfl) (hS.ref (a := 24) rfl) ?_
      refine zr_aload_n dX6_tell_85 rfl rfl ?_
      refine zr_getIv (x := (I 19 0)) dX6_tell_86 zf_X6_9 rfl (hS.has (a := 19) rfl rfl) rfl ?_
      refine zr_bipush (v := 6) dX6_tell_89 (by decide) ?_
      refine zr_imul dX6_tell_91 ?_
      refine zr_iload dX6_tell_92 rfl ?_
      refine zr_iadd dX6_tell_94 ?_
      refine zr_aload_n dX6_tell_95 rfl rfl ?_
      refine zr_iload dX6_tell_96 rfl ?_
      refine zr_callV (As := [.int v6]) (fr' := fX9_byteAt) (lo' := lX9_byteAt) (bc' := 0) (bs' := 0) (bcr := bc) (bsr := bs) dX6_tell_98 zs_X6_46 zi_X9_byteAt zcl_9 (hS.has (a := 1) rfl rfl) rfl rfl (Nat.le_of_ble_eq_true rfl) (Nat.le_of_ble_eq_true rfl) (Nat.le_of_ble_eq_true rfl) (Nat.le_refl _) (Nat.le_refl _) ?_
      refine sp_X9_byteAt hS  ?_
      show ZW G mX6_tell fX6_tell lX6_tell 101 [zo G 19, .int v1, .int v2, zo G 1, .int v4, .int v5, .int v6] [.int (p_X9_byteAt I v6), .int (((I 19 0) * (6 : Int32)) + v6), zo G 24] S I L bc bs Q
      obtain ⟨hi2, k⟩ := k
      refine zr_iast dX6_tell_101 (hS.has (a := 24) rfl rfl) hi2 ?_
      refine zr_iinc (v := (v6 + 1)) dX6_tell_102 rfl rfl (Nat.le_of_ble_eq_true rfl) rfl ?_
      refine zr_goto (tgt := 60) dX6_tell_105 (by decide) ?_
      exact k
    · have k := k.2 hb
      refine zr_iconst (v := -1) dX6_tell_79 (by decide) ?_
      exact zr_ireturn dX6_tell_80 rfl rfl k
set_option maxHeartbeats 2000000 in
theorem vX6_showUpTo_0 {G : Gp} {bc bs : Nat} {Q : zPost} {S : zSh} {I : zFI} {L : zFL} {v1 : Int32} (hS : zStd S)  (k : ZC G mJ7_fill_53178 fJ7_fill_53178 lJ7_fill_53178 [zo G 25, .int (-1 : Int32)] S I L 0 0 (fun w S' I1 L1 => w = none ∧ S = S' ∧ ZW G mX6_showUpTo fX6_showUpTo lX6_showUpTo 10 [zo G 19, .int v1, .int (0 : Int32), .null] [] S I1 L1 bc bs Q)) : ZW G mX6_showUpTo fX6_showUpTo lX6_showUpTo 0 [zo G 19, .int v1, .null, .null] [] S I L bc bs Q := by
  refine zr_aload_n dX6_showUpTo_0 rfl rfl ?_
  refine zr_getR dX6_showUpTo_1 zf_X6_31 rfl (hS.has (a := 19) rfl rfl) (hS.ref (a := 25) rfl) ?_
  refine zr_iconst (v := -1) dX6_showUpTo_4 (by decide) ?_
  refine zr_callS (As := [zo G 25, .int (-1 : Int32)]) (fr' := fJ7_fill_53178) (lo' := lJ7_fill_53178) (bc' := 0) (bs' := 0) (bcr := bc) (bsr := bs) dX6_showUpTo_5 zs_X6_34 zst_J7_fill_53178 rfl rfl (Nat.le_of_ble_eq_true rfl) (Nat.le_of_ble_eq_true rfl) (Nat.le_of_ble_eq_true rfl) (Nat.le_refl _) (Nat.le_refl _) ?_
  refine ZC.mono (fun w S' I1 L1 k => ?_) k
  obtain ⟨rfl, rfl, k⟩ := k
  show ZW G mX6_showUpTo fX6_showUpTo lX6_showUpTo 8 [zo G 19, .int v1, .null, .null] [] S I1 L1 bc bs Q
  refine zr_iconst (v := 0) dX6_showUpTo_8 (by decide) ?_
  refine zr_istore_n dX6_showUpTo_9 rfl (Nat.le_of_ble_eq_true rfl) rfl ?_
  exact k
set_option maxHeartbeats 2000000 in
theorem vX6_showUpTo_10 {G : Gp} {bc bs : Nat} {Q : zPost} {S : zSh} {I : zFI} {L : zFL} {v1 : Int32} {v2 : Int32} (hS : zStd S)  (k : (((I 19 0) ≤ v2 → Q none S I L) ∧ (¬ (I 19 0) ≤ v2 → (((200 : Int32) ≤ v2 → Q none S I L) ∧ (¬ (200 : Int32) ≤ v2 → vp_in v2 200 ∧ ((v1 < (I 21 v2.toNatClampNeg) → ZW G mX6_showUpTo fX6_showUpTo lX6_showUpTo 10 [zo G 19, .int v1, .int (v2 + 1), .null] [] S I L bc bs Q) ∧ (¬ v1 < (I 21 v2.toNatClampNeg) → (((I 20 v2.toNatClampNeg) < 0 → ZW G mX6_showUpTo fX6_showUpTo lX6_showUpTo 10 [zo G 19, .int v1, .int (v2 + 1), .null] [] S I L bc bs Q) ∧ (¬ (I 20 v2.toNatClampNeg) < 0 → (((48 : Int32) ≤ (I 20 v2.toNatClampNeg) → ZW G mX6_showUpTo fX6_showUpTo lX6_showUpTo 10 [zo G 19, .int v1, .int (v2 + 1), .null] [] S I L bc bs Q) ∧ (¬ (48 : Int32) ≤ (I 20 v2.toNatClampNeg) → vp_in (I 20 v2.toNatClampNeg) 48 ∧ ZW G mX6_showUpTo fX6_showUpTo lX6_showUpTo 10 [zo G 19, .int v1, .int (v2 + 1), .null] [] S (u2 I 25 (I 20 v2.toNatClampNeg).toNatClampNeg v2) L bc bs Q))))))))))) : ZW G mX6_showUpTo fX6_showUpTo lX6_showUpTo 10 [zo G 19, .int v1, .int v2, .null] [] S I L bc bs Q := by
  refine zr_iload_n dX6_showUpTo_10 rfl rfl ?_
  refine zr_aload_n dX6_showUpTo_11 rfl rfl ?_
  refine zr_getIv (x := (I 19 0)) dX6_showUpTo_12 zf_X6_9 rfl (hS.has (a := 19) rfl rfl) rfl ?_
  refine zr_icge (tgt := 65) dX6_showUpTo_15 (by decide) (fun hb => ?_) (fun hb => ?_)
  · have k := k.1 hb
    exact zr_return_ dX6_showUpTo_65 rfl k
  · have k := k.2 hb
    refine zr_iload_n dX6_showUpTo_18 rfl rfl ?_
    refine zr_sipush (v := 200) dX6_showUpTo_19 (by decide) ?_
    refine zr_icge (tgt := 65) dX6_showUpTo_22 (by decide) (fun hb => ?_) (fun hb => ?_)
    · have k := k.1 hb
      exact zr_return_ dX6_showUpTo_65 rfl k
    · have k := k.2 hb
      refine zr_aload_n dX6_showUpTo_25 rfl rfl ?_
      refine zr_getR dX6_showUpTo_26 zf_X6_15 rfl (hS.has (a := 19) rfl rfl) (hS.ref (a := 20) rfl) ?_
      refine zr_iload_n dX6_showUpTo_29 rfl rfl ?_
      obtain ⟨hi1, k⟩ := k
      refine zr_ialdv (x := (I 20 v2.toNatClampNeg)) dX6_showUpTo_30 (hS.has (a := 20) rfl rfl) hi1 rfl ?_
      refine zr_istore_n dX6_showUpTo_31 rfl (Nat.le_of_ble_eq_true rfl) rfl ?_
      refine zr_aload_n dX6_showUpTo_32 rfl rfl ?_
      refine zr_getR dX6_showUpTo_33 zf_X6_19 rfl (hS.has (a := 19) rfl rfl) (hS.ref (a := 21) rfl) ?_
      refine zr_iload_n dX6_showUpTo_36 rfl rfl ?_
      refine zr_ialdv (x := (I 21 v2.toNatClampNeg)) dX6_showUpTo_37 (hS.has (a := 21) rfl rfl) hi1 rfl ?_
      refine zr_iload_n dX6_showUpTo_38 rfl rfl ?_
      refine zr_icgt (tgt := 59) dX6_showUpTo_39 (by decide) (fun hb => ?_) (fun hb => ?_)
      · have k := k.1 hb
        refine zr_iinc (v := (v2 + 1)) dX6_showUpTo_59 rfl rfl (Nat.le_of_ble_eq_true rfl) rfl ?_
        refine zr_goto (tgt := 10) dX6_showUpTo_62 (by decide) ?_
        exact zr_mask [true, true, true, false] rfl k
      · have k := k.2 hb
        refine zr_iload_n dX6_showUpTo_42 rfl rfl ?_
        refine zr_iflt (tgt := 59) dX6_showUpTo_43 (by decide) (fun hb => ?_) (fun hb => ?_)
        · have k := k.1 hb
          refine zr_iinc (v := (v2 + 1)) dX6_showUpTo_59 rfl rfl (Nat.le_of_ble_eq_true rfl) rfl ?_
          refine zr_goto (tgt := 10) dX6_showUpTo_62 (by decide) ?_
          exact zr_mask [true, true, true, false] rfl k
        · have k := k.2 hb
          refine zr_iload_n dX6_showUpTo_46 rfl rfl ?_
          refine zr_bipush (v := 48) dX6_showUpTo_47 (by decide) ?_
          refine zr_icge (tgt := 59) dX6_showUpTo_49 (by decide) (fun hb => ?_) (fun hb => ?_)
          · have k := k.1 hb
            refine zr_iinc (v := (v2 + 1)) dX6_showUpTo_59 rfl rfl (Nat.le_of_ble_eq_true rfl) rfl ?_
            refine zr_goto (tgt := 10) dX6_showUpTo_62 (by decide) ?_
            exact zr_mask [true, true, true, false] rfl k
          · have k := k.2 hb
            refine zr_aload_n dX6_showUpTo_52 rfl rfl ?_
            refine zr_getR dX6_showUpTo_53 zf_X6_31 rfl (hS.has (a := 19) rfl rfl) (hS.ref (a := 25) rfl) ?_
            refine zr_iload_n dX6_showUpTo_56 rfl rfl ?_
            refine zr_iload_n dX6_showUpTo_57 rfl rfl ?_
            obtain ⟨hi2, k⟩ := k
            refine zr_iast dX6_showUpTo_58 (hS.has (a := 25) rfl rfl) hi2 ?_
            refine zr_iinc (v := (v2 + 1)) dX6_showUpTo_59 rfl rfl (Nat.le_of_ble_eq_true rfl) rfl ?_
            refine zr_goto (tgt := 10) dX6_showUpTo_62 (by decide) ?_
            exact zr_mask [true, true, true, false] rfl k
