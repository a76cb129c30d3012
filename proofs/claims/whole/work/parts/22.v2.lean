set_option maxHeartbeats 2000000 in
theorem vX6_signsOn_0 {G : Gp} {bc bs : Nat} {Q : zPost} {S : zSh} {I : zFI} {L : zFL} {v1 : Int32} (hS : zStd S)  (k : Q (some (.int (if (0 : Int32) < (p_X11_pick I 22 200 (p_X11_pick I 25 48 v1)) then (p_X11_pick I 22 200 (p_X11_pick I 25 48 v1)) else (0 : Int32)))) S I L) : ZW G mX6_signsOn fX6_signsOn lX6_signsOn 0 [zo G 19, .int v1] [] S I L bc bs Q := by
  refine zr_iconst (v := 0) dX6_signsOn_0 (by decide) ?_
  refine zr_aload_n dX6_signsOn_1 rfl rfl ?_
  refine zr_getR dX6_signsOn_2 zf_X6_22 rfl (hS.has (a := 19) rfl rfl) (hS.ref (a := 22) rfl) ?_
  refine zr_aload_n dX6_signsOn_5 rfl rfl ?_
  refine zr_getR dX6_signsOn_6 zf_X6_31 rfl (hS.has (a := 19) rfl rfl) (hS.ref (a := 25) rfl) ?_
  refine zr_iload_n dX6_signsOn_9 rfl rfl ?_
  refine zr_callSN (As := [zo G 25, .int v1]) (fr' := fX11_pick) (lo' := lX11_pick) (bc' := 0) (bs' := 0) (bcr := bc) (bsr := bs) dX6_signsOn_10 zsn_X6_54 zst_X11_pick rfl rfl (Nat.le_of_ble_eq_true rfl) (Nat.le_of_ble_eq_true rfl) (Nat.le_of_ble_eq_true rfl) (Nat.le_refl _) (Nat.le_refl _) ?_
  refine sp_X11_pick hS (hS.has (a := 25) rfl rfl) rfl ?_
  show ZW G mX6_signsOn fX6_signsOn lX6_signsOn 13 [zo G 19, .int v1] [.int (p_X11_pick I 25 48 v1), zo G 22, .int (0 : Int32)] S I L bc bs Q
  refine zr_callSN (As := [zo G 22, .int (p_X11_pick I 25 48 v1)]) (fr' := fX11_pick) (lo' := lX11_pick) (bc' := 0) (bs' := 0) (bcr := bc) (bsr := bs) dX6_signsOn_13 zsn_X6_54 zst_X11_pick rfl rfl (Nat.le_of_ble_eq_true rfl) (Nat.le_of_ble_eq_true rfl) (Nat.le_of_ble_eq_true rfl) (Nat.le_refl _) (Nat.le_refl _) ?_
  refine sp_X11_pick hS (hS.has (a := 22) rfl rfl) rfl ?_
  show ZW G mX6_signsOn fX6_signsOn lX6_signsOn 16 [zo G 19, .int v1] [.int (p_X11_pick I 22 200 (p_X11_pick I 25 48 v1)), .int (0 : Int32)] S I L bc bs Q
  refine zr_mmax dX6_signsOn_16 zmt_X6_58 (Nat.le_of_ble_eq_true rfl) (Nat.le_of_ble_eq_true rfl) (Nat.le_of_ble_eq_true rfl) ?_
  exact zr_ireturn dX6_signsOn_19 rfl rfl k
def p_X6_signsOn (I : zFI) (v1 : Int32) : Int32 := (if (0 : Int32) < (p_X11_pick I 22 200 (p_X11_pick I 25 48 v1)) then (p_X11_pick I 22 200 (p_X11_pick I 25 48 v1)) else (0 : Int32))
set_option maxHeartbeats 2000000 in
theorem sp_X6_signsOn {G : Gp} {Q : zPost} {S : zSh} {I : zFI} {L : zFL} {v1 : Int32} (hS : zStd S)  (h : Q (some (.int (p_X6_signsOn I v1))) S I L) : ZC G mX6_signsOn fX6_signsOn lX6_signsOn [zo G 19, .int v1] S I L 0 0 Q := by
  refine ZC.of' (vX6_signsOn_0 hS  ?_) rfl (Nat.le_of_ble_eq_true rfl) rfl
  unfold p_X6_signsOn at h
  exact h
set_option maxHeartbeats 2000000 in
theorem vX6_sideOf_0 {G : Gp} {bc bs : Nat} {Q : zPost} {S : zSh} {I : zFI} {L : zFL} {v1 : Int32} (hS : zStd S)  (k : Q (some (.int (if (0 : Int32) < (p_X11_pick I 23 200 (p_X11_pick I 25 48 v1)) then (p_X11_pick I 23 200 (p_X11_pick I 25 48 v1)) else (0 : Int32)))) S I L) : ZW G mX6_sideOf fX6_sideOf lX6_sideOf 0 [zo G 19, .int v1] [] S I L bc bs Q := by
  refine zr_iconst (v := 0) dX6_sideOf_0 (by decide) ?_
  refine zr_aload_n dX6_sideOf_1 rfl rfl ?_
  refine zr_getR dX6_sideOf_2 zf_X6_25 rfl (hS.has (a := 19) rfl rfl) (hS.ref (a := 23) rfl) ?_
  refine zr_aload_n dX6_sideOf_5 rfl rfl ?_
  refine zr_getR dX6_sideOf_6 zf_X6_31 rfl (hS.has (a := 19) rfl rfl) (hS.ref (a := 25) rfl) ?_
  refine zr_iload_n dX6_sideOf_9 rfl rfl ?_
  refine zr_callSN (As := [zo G 25, .int v1]) (fr' := fX11_pick) (lo' := lX11_pick) (bc' := 0) (bs' := 0) (bcr := bc) (bsr := bs) dX6_sideOf_10 zsn_X6_54 zst_X11_pick rfl rfl (Nat.le_of_ble_eq_true rfl) (Nat.le_of_ble_eq_true rfl) (Nat.le_of_ble_eq_true rfl) (Nat.le_refl _) (Nat.le_refl _) ?_
  refine sp_X11_pick hS (hS.has (a := 25) rfl rfl) rfl ?_
  show ZW G mX6_sideOf fX6_sideOf lX6_sideOf 13 [zo G 19, .int v1] [.int (p_X11_pick I 25 48 v1), zo G 23, .int (0 : Int32)] S I L bc bs Q
  refine zr_callSN (As := [zo G 23, .int (p_X11_pick I 25 48 v1)]) (fr' := fX11_pick) (lo' := lX11_pick) (bc' := 0) (bs' := 0) (bcr := bc) (bsr := bs) dX6_sideOf_13 zsn_X6_54 zst_X11_pick rfl rfl (Nat.le_of_ble_eq_true rfl) (Nat.le_of_ble_eq_true rfl) (Nat.le_of_ble_eq_true rfl) (Nat.le_refl _) (Nat.le_refl _) ?_
  refine sp_X11_pick hS (hS.has (a := 23) rfl rfl) rfl ?_
  show ZW G mX6_sideOf fX6_sideOf lX6_sideOf 16 [zo G 19, .int v1] [.int (p_X11_pick I 23 200 (p_X11_pick I 25 48 v1)), .int (0 : Int32)] S I L bc bs Q
  refine zr_mmax dX6_sideOf_16 zmt_X6_58 (Nat.le_of_ble_eq_true rfl) (Nat.le_of_ble_eq_true rfl) (Nat.le_of_ble_eq_true rfl) ?_
  exact zr_ireturn dX6_sideOf_19 rfl rfl k
def p_X6_sideOf (I : zFI) (v1 : Int32) : Int32 := (if (0 : Int32) < (p_X11_pick I 23 200 (p_X11_pick I 25 48 v1)) then (p_X11_pick I 23 200 (p_X11_pick I 25 48 v1)) else (0 : Int32))
set_option maxHeartbeats 2000000 in
theorem sp_X6_sideOf {G : Gp} {Q : zPost} {S : zSh} {I : zFI} {L : zFL} {v1 : Int32} (hS : zStd S)  (h : Q (some (.int (p_X6_sideOf I v1))) S I L) : ZC G mX6_sideOf fX6_sideOf lX6_sideOf [zo G 19, .int v1] S I L 0 0 Q := by
  refine ZC.of' (vX6_sideOf_0 hS  ?_) rfl (Nat.le_of_ble_eq_true rfl) rfl
  unfold p_X6_sideOf at h
  exact h
set_option maxHeartbeats 2000000 in
theorem vX6_signAt_0 {G : Gp} {bc bs : Nat} {Q : zPost} {S : zSh} {I : zFI} {L : zFL} {v1 : Int32} {v2 : Int32} (hS : zStd S)  (k : ((v2 < 0 → Q (some (.int (-1 : Int32))) S I L) ∧ (¬ v2 < 0 → (((p_X6_signsOn I v1) ≤ v2 → Q (some (.int (-1 : Int32))) S I L) ∧ (¬ (p_X6_signsOn I v1) ≤ v2 → Q (some (.int (p_X11_pick I 24 1200 (((p_X11_pick I 25 48 v1) * (6 : Int32)) + v2)))) S I L))))) : ZW G mX6_signAt fX6_signAt lX6_signAt 0 [zo G 19, .int v1, .int v2] [] S I L bc bs Q := by
  refine zr_iload_n dX6_signAt_0 rfl rfl ?_
  refine zr_iflt (tgt := 36) dX6_signAt_1 (by decide) (fun hb => ?_) (fun hb => ?_)
  · have k := k.1 hb
    refine zr_iconst (v := -1) dX6_signAt_36 (by decide) ?_
    exact zr_ireturn dX6_signAt_37 rfl rfl k
  · have k := k.2 hb
    refine zr_iload_n dX6_signAt_4 rfl rfl ?_
    refine zr_aload_n dX6_signAt_5 rfl rfl ?_
    refine zr_iload_n dX6_signAt_6 rfl rfl ?_
    refine zr_callV (As := [.int v1]) (fr' := fX6_signsOn) (lo' := lX6_signsOn) (bc' := 0) (bs' := 0) (bcr := bc) (bsr := bs) dX6_signAt_7 zs_X6_64 zi_X6_signsOn zcl_6 (hS.has (a := 19) rfl rfl) rfl rfl (Nat.le_of_ble_eq_true rfl) (Nat.le_of_ble_eq_true rfl) (Nat.le_of_ble_eq_true rfl) (Nat.le_refl _) (Nat.le_refl _) ?_
    refine sp_X6_signsOn hS  ?_
    show ZW G mX6_signAt fX6_signAt lX6_signAt 10 [zo G 19, .int v1, .int v2] [.int (p_X6_signsOn I v1), .int v2] S I L bc bs Q
    refine zr_icge (tgt := 36) dX6_signAt_10 (by decide) (fun hb => ?_) (fun hb => ?_)
    · have k := k.1 hb
      refine zr_iconst (v := -1) dX6_signAt_36 (by decide) ?_
      exact zr_ireturn dX6_signAt_37 rfl rfl k
    · have k := k.2 hb
      refine zr_aload_n dX6_signAt_13 rfl rfl ?_
      refine zr_getR dX6_signAt_14 zf_X6_28 rfl (hS.has (a := 19) rfl rfl) (hS.ref (a := 24) rfl) ?_
      refine zr_aload_n dX6_signAt_17 rfl rfl ?_
      refine zr_getR dX6_signAt_18 zf_X6_31 rfl (hS.has (a := 19) rfl rfl) (hS.ref (a := 25) rfl) ?_
      refine zr_iload_n dX6_signAt_21 rfl rfl ?_
      refine zr_callSN (As := [zo G 25, .int v1]) (fr' := fX11_pick) (lo' := lX11_pick) (bc' := 0) (bs' := 0) (bcr := bc) (bsr := bs) dX6_signAt_22 zsn_X6_54 zst_X11_pick rfl rfl (Nat.le_of_ble_eq_true rfl) (Nat.le_of_ble_eq_true rfl) (Nat.le_of_ble_eq_true rfl) (Nat.le_refl _) (Nat.le_refl _) ?_
      refine sp_X11_pick hS (hS.has (a := 25) rfl rfl) rfl ?_
      show ZW G mX6_signAt fX6_signAt lX6_signAt 25 [zo G 19, .int v1, .int v2] [.int (p_X11_pick I 25 48 v1), zo G 24] S I L bc bs Q
      refine zr_bipush (v := 6) dX6_signAt_25 (by decide) ?_
      refine zr_imul dX6_signAt_27 ?_
      refine zr_iload_n dX6_signAt_28 rfl rfl ?_
      refine zr_iadd dX6_signAt_29 ?_
      refine zr_callSN (As := [zo G 24, .int (((p_X11_pick I 25 48 v1) * (6 : Int32)) + v2)]) (fr' := fX11_pick) (lo' := lX11_pick) (bc' := 0) (bs' := 0) (bcr := bc) (bsr := bs) dX6_signAt_30 zsn_X6_54 zst_X11_pick rfl rfl (Nat.le_of_ble_eq_true rfl) (Nat.le_of_ble_eq_true rfl) (Nat.le_of_ble_eq_true rfl) (Nat.le_refl _) (Nat.le_refl _) ?_
      refine sp_X11_pick hS (hS.has (a := 24) rfl rfl) rfl ?_
      show ZW G mX6_signAt fX6_signAt lX6_signAt 33 [zo G 19, .int v1, .int v2] [.int (p_X11_pick I 24 1200 (((p_X11_pick I 25 48 v1) * (6 : Int32)) + v2))] S I L bc bs Q
      refine zr_goto (tgt := 37) dX6_signAt_33 (by decide) ?_
      exact zr_ireturn dX6_signAt_37 rfl rfl k
def p_X6_signAt (I : zFI) (v1 : Int32) (v2 : Int32) : Int32 := (if v2 < 0 then (-1 : Int32) else (if (p_X6_signsOn I v1) ≤ v2 then (-1 : Int32) else (p_X11_pick I 24 1200 (((p_X11_pick I 25 48 v1) * (6 : Int32)) + v2))))
set_option maxHeartbeats 2000000 in
theorem sp_X6_signAt {G : Gp} {Q : zPost} {S : zSh} {I : zFI} {L : zFL} {v1 : Int32} {v2 : Int32} (hS : zStd S)  (h : Q (some (.int (p_X6_signAt I v1 v2))) S I L) : ZC G mX6_signAt fX6_signAt lX6_signAt [zo G 19, .int v1, .int v2] S I L 0 0 Q := by
  refine ZC.of' (vX6_signAt_0 hS  ?_) rfl (Nat.le_of_ble_eq_true rfl) rfl
  unfold p_X6_signAt at h
  refine ⟨fun hb1 => ?_, fun hb1 => ?_⟩
  · rw [if_pos hb1] at h
    exact h
  · rw [if_neg hb1] at h
    refine ⟨fun hb2 => ?_, fun hb2 => ?_⟩
    · rw [if_pos hb2] at h
      exact h
    · rw [if_neg hb2] at h
      exact h
set_option maxHeartbeats 2000000 in
theorem vX6_unitOf_0 {G : Gp} {bc bs : Nat} {Q : zPost} {S : zSh} {I : zFI} {L : zFL} {v0 : Int32} (hS : zStd S)  (k : (((10 : Int32) ≤ v0 → ((¬ v0 = (10 : Int32) → Q (some (.int (9 : Int32))) S I L) ∧ (v0 = (10 : Int32) → Q (some (.int (4 : Int32))) S I L))) ∧ (¬ (10 : Int32) ≤ v0 → Q (some (.int v0)) S I L))) : ZW G mX6_unitOf fX6_unitOf lX6_unitOf 0 [.int v0] [] S I L bc bs Q := by
  refine zr_iload_n dX6_unitOf_0 rfl rfl ?_
  refine zr_bipush (v := 10) dX6_unitOf_1 (by decide) ?_
  refine zr_icge (tgt := 8) dX6_unitOf_3 (by decide) (fun hb => ?_) (fun hb => ?_)
  · have k := k.1 hb
    refine zr_iload_n dX6_unitOf_8 rfl rfl ?_
    refine zr_bipush (v := 10) dX6_unitOf_9 (by decide) ?_
    refine zr_icne (tgt := 18) dX6_unitOf_11 (by decide) (fun hb => ?_) (fun hb => ?_)
    · have k := k.1 hb
      refine zr_bipush (v := 9) dX6_unitOf_18 (by decide) ?_
      exact zr_ireturn dX6_unitOf_20 rfl rfl k
    · have k := k.2 hb
      refine zr_iconst (v := 4) dX6_unitOf_14 (by decide) ?_
      refine zr_goto (tgt := 20) dX6_unitOf_15 (by decide) ?_
      exact zr_ireturn dX6_unitOf_20 rfl rfl k
  · have k := k.2 hb
    refine zr_iload_n dX6_unitOf_6 rfl rfl ?_
    exact zr_ireturn dX6_unitOf_7 rfl rfl k
def p_X6_unitOf  (v0 : Int32) : Int32 := (if (10 : Int32) ≤ v0 then (if v0 = (10 : Int32) then (4 : Int32) else (9 : Int32)) else v0)
set_option maxHeartbeats 2000000 in
theorem sp_X6_unitOf {G : Gp} {Q : zPost} {S : zSh} {I : zFI} {L : zFL} {v0 : Int32} (hS : zStd S)  (h : Q (some (.int (p_X6_unitOf  v0))) S I L) : ZC G mX6_unitOf fX6_unitOf lX6_unitOf [.int v0] S I L 0 0 Q := by
  refine ZC.of' (vX6_unitOf_0 hS  ?_) rfl (Nat.le_of_ble_eq_true rfl) rfl
  unfold p_X6_unitOf at h
  refine ⟨fun hb1 => ?_, fun hb1 => ?_⟩
  · rw [if_pos hb1] at h
    refine ⟨fun hb2 => ?_, fun hb2 => ?_⟩
    · rw [if_neg hb2] at h
      exact h
    · rw [if_pos hb2] at h
      exact h
  · rw [if_neg hb1] at h
    exact h
set_option maxHeartbeats 2000000 in
theorem vX6_isUsed_0 {G : Gp} {bc bs : Nat} {Q : zPost} {S : zSh} {I : zFI} {L : zFL} {c1 : Nat} {v0 : Int32} (hS : zStd S) (hc1 : zCu c1) (k : ((v0 < (10 : Int32) → ((v0 = (4 : Int32) → (((I c1 0) = (2 : Int32) → Q (some (.int (0 : Int32))) S I L) ∧ (¬ (I c1 0) = (2 : Int32) → Q (some (.int (1 : Int32))) S I L))) ∧ (¬ v0 = (4 : Int32) → ((¬ v0 = (9 : Int32) → Q (some (.int (1 : Int32))) S I L) ∧ (v0 = (9 : Int32) → (((I c1 0) = (2 : Int32) → Q (some (.int (0 : Int32))) S I L) ∧ (¬ (I c1 0) = (2 : Int32) → Q (some (.int (1 : Int32))) S I L))))))) ∧ (¬ v0 < (10 : Int32) → (((I c1 0) = (1 : Int32) → Q (some (.int (0 : Int32))) S I L) ∧ (¬ (I c1 0) = (1 : Int32) → Q (some (.int (1 : Int32))) S I L))))) : ZW G mX6_isUsed fX6_isUsed lX6_isUsed 0 [.int v0, zo G c1] [] S I L bc bs Q := by
  refine zr_iload_n dX6_isUsed_0 rfl rfl ?_
  refine zr_bipush (v := 10) dX6_isUsed_1 (by decide) ?_
  refine zr_iclt (tgt := 20) dX6_isUsed_3 (by decide) (fun hb => ?_) (fun hb => ?_)
  · have k := k.1 hb
    refine zr_iload_n dX6_isUsed_20 rfl rfl ?_
    refine zr_iconst (v := 4) dX6_isUsed_21 (by decide) ?_
    refine zr_iceq (tgt := 31) dX6_isUsed_22 (by decide) (fun hb => ?_) (fun hb => ?_)
    · have k := k.1 hb
      refine zr_aload_n dX6_isUsed_31 rfl rfl ?_
      refine zr_getIv (x := (I c1 0)) dX6_isUsed_32 zf_X6_86 rfl (hS.hasC hc1) rfl ?_
      refine zr_iconst (v := 2) dX6_isUsed_35 (by decide) ?_
      refine zr_iceq (tgt := 43) dX6_isUsed_36 (by decide) (fun hb => ?_) (fun hb => ?_)
      · have k := k.1 hb
        refine zr_iconst (v := 0) dX6_isUsed_43 (by decide) ?_
        exact zr_ireturn dX6_isUsed_44 rfl rfl k
      · have k := k.2 hb
        refine zr_iconst (v := 1) dX6_isUsed_39 (by decide) ?_
        refine zr_goto (tgt := 44) dX6_isUsed_40 (by decide) ?_
        exact zr_ireturn dX6_isUsed_44 rfl rfl k
    · have k := k.2 hb
      refine zr_iload_n dX6_isUsed_25 rfl rfl ?_
      refine zr_bipush (v := 9) dX6_isUsed_26 (by decide) ?_
      refine zr_icne (tgt := 39) dX6_isUsed_28 (by decide) (fun hb => ?_) (fun hb => ?_)
      · have k := k.1 hb
        refine zr_iconst (v := 1) dX6_isUsed_39 (by decide) ?_
        refine zr_goto (tgt := 44) dX6_isUsed_40 (by decide) ?_
        exact zr_ireturn dX6_isUsed_44 rfl rfl k
      · have k := k.2 hb
        refine zr_aload_n dX6_isUsed_31 rfl rfl ?_
        refine zr_getIv (x := (I c1 0)) dX6_isUsed_32 zf_X6_86 rfl (hS.hasC hc1) rfl ?_
        refine zr_iconst (v := 2) dX6_isUsed_35 (by decide) ?_
        refine zr_iceq (tgt := 43) dX6_isUsed_36 (by decide) (fun hb => ?_) (fun hb => ?_)
        · have k := k.1 hb
          refine zr_iconst (v := 0) dX6_isUsed_43 (by decide) ?_
          exact zr_ireturn dX6_isUsed_44 rfl rfl k
        · have k := k.2 hb
          refine zr_iconst (v := 1) dX6_isUsed_39 (by decide) ?_
          refine zr_goto (tgt := 44) dX6_isUsed_40 (by decide) ?_
          exact zr_ireturn dX6_isUsed_44 rfl rfl k
  · have k := k.2 hb
    refine zr_aload_n dX6_isUsed_6 rfl rfl ?_
    refine zr_getIv (x := (I c1 0)) dX6_isUsed_7 zf_X6_86 rfl (hS.hasC hc1) rfl ?_
    refine zr_iconst (v := 1) dX6_isUsed_10 (by decide) ?_
    refine zr_iceq (tgt := 18) dX6_isUsed_11 (by decide) (fun hb => ?_) (fun hb => ?_)
    · have k := k.1 hb
      refine zr_iconst (v := 0) dX6_isUsed_18 (by decide) ?_
      exact zr_ireturn dX6_isUsed_19 rfl rfl k
    · have k := k.2 hb
      refine zr_iconst (v := 1) dX6_isUsed_14 (by decide) ?_
      refine zr_goto (tgt := 19) dX6_isUsed_15 (by decide) ?_
      exact zr_ireturn dX6_isUsed_19 rfl rfl k
def p_X6_isUsed (I : zFI) (v0 : Int32) (c1 : Nat) : Int32 := (if v0 < (10 : Int32) then (if v0 = (4 : Int32) then (if (I c1 0) = (2 : Int32) then (0 : Int32) else (1 : Int32)) else (if v0 = (9 : Int32) then (if (I c1 0) = (2 : Int32) then (0 : Int32) else (1 : Int32)) else (1 : Int32))) else (if (I c1 0) = (1 : Int32) then (0 : Int32) else (1 : Int32)))
set_option maxHeartbeats 2000000 in
theorem sp_X6_isUsed {G : Gp} {Q : zPost} {S : zSh} {I : zFI} {L : zFL} {v0 : Int32} {c1 : Nat} (hS : zStd S) (hc1 : zCu c1) (h : Q (some (.int (p_X6_isUsed I v0 c1))) S I L) : ZC G mX6_isUsed fX6_isUsed lX6_isUsed [.int v0, zo G c1] S I L 0 0 Q := by
  refine ZC.of' (vX6_isUsed_0 hS hc1 ?_) rfl (Nat.le_of_ble_eq_true rfl) rfl
  unfold p_X6_isUsed at h
  refine ⟨fun hb1 => ?_, fun hb1 => ?_⟩
  · rw [if_pos hb1] at h
    refine ⟨fun hb2 => ?_, fun hb2 => ?_⟩
    · rw [if_pos hb2] at h
      refine ⟨fun hb3 => ?_, fun hb3 => ?_⟩
      · rw [if_pos hb3] at h
        exact h
      · rw [if_neg hb3] at h
        exact h
    · rw [if_neg hb2] at h
      refine ⟨fun hb4 => ?_, fun hb4 => ?_⟩
      · rw [if_neg hb4] at h
        exact h
      · rw [if_pos hb4] at h
        refine ⟨fun hb5 => ?_, fun hb5 => ?_⟩
        · rw [if_pos hb5] at h
          exact h
        · rw [if_neg hb5] at h
          exact h
  · rw [if_neg hb1] at h
    refine ⟨fun hb6 => ?_, fun hb6 => ?_⟩
    · rw [if_pos hb6] at h
      exact h
    · rw [if_neg hb6] at h
      exact h
theorem pb_X6_isUsed (I : zFI) (v0 : Int32) (c1 : Nat) : p_X6_isUsed I v0 c1 = 0 ∨ p_X6_isUsed I v0 c1 = 1 := by
  unfold p_X6_isUsed
  repeat' split
  all_goals first | exact Or.inl rfl | exact Or.inr rfl | assumption
set_option maxHeartbeats 2000000 in
theorem vX6_spells_0 {G : Gp} {bc bs : Nat} {Q : zPost} {S : zSh} {I : zFI} {L : zFL} {v1 : Int32} {v2 : Int32} {v3 : Int32} {v4 : Int32} (hS : zStd S)  (k : (((p_X11_pick I 22 200 v1) < v2 → Q (some (.int (0 : Int32))) S I L) ∧ (¬ (p_X11_pick I 22 200 v1) < v2 → ZC G mX6_unitSign fX6_unitSign lX6_unitSign [.int v3, .int ((p_X11_pick I 22 200 v1) - v2)] S I L 0 0 (fun w S' I1 L1 => ∃ r1 : Int32, w = some (.int r1) ∧ S = S' ∧ ((r1 = (32 : Int32) → ZW G mX6_spells fX6_spells lX6_spells 34 [zo G 19, .int v1, .int v2, .int v3, .int v4, .int (p_X11_pick I 22 200 v1), .int (0 : Int32), .null, .null] [] S I1 L1 bc bs Q) ∧ (¬ r1 = (32 : Int32) → Q (some (.int (0 : Int32))) S I1 L1)))))) : ZW G mX6_spells fX6_spells lX6_spells 0 [zo G 19, .int v1, .int v2, .int v3, .int v4, .null, .null, .null, .null] [] S I L bc bs Q := by
  refine zr_aload_n dX6_spells_0 rfl rfl ?_
  refine zr_getR dX6_spells_1 zf_X6_22 rfl (hS.has (a := 19) rfl rfl) (hS.ref (a := 22) rfl) ?_
  refine zr_iload_n dX6_spells_4 rfl rfl ?_
  refine zr_callSN (As := [zo G 22, .int v1]) (fr' := fX11_pick) (lo' := lX11_pick) (bc' := 0) (bs' := 0) (bcr := bc) (bsr := bs) dX6_spells_5 zsn_X6_54 zst_X11_pick rfl rfl (Nat.le_of_ble_eq_true rfl) (Nat.le_of_ble_eq_true rfl) (Nat.le_of_ble_eq_true rfl) (Nat.le_refl _) (Nat.le_refl _) ?_
  refine sp_X11_pick hS (hS.has (a := 22) rfl rfl) rfl ?_
  show ZW G mX6_spells fX6_spells lX6_spells 8 [zo G 19, .int v1, .int v2, .int v3, .int v4, .null, .null, .null, .null] [.int (p_X11_pick I 22 200 v1)] S I L bc bs Q
  refine zr_istore dX6_spells_8 (Nat.le_of_ble_eq_true rfl) rfl ?_
  refine zr_iload dX6_spells_10 rfl ?_
  refine zr_iload_n dX6_spells_12 rfl rfl ?_
  refine zr_iclt (tgt := 29) dX6_spells_13 (by decide) (fun hb => ?_) (fun hb => ?_)
  · have k := k.1 hb
    refine zr_iconst (v := 0) dX6_spells_29 (by decide) ?_
    exact zr_ireturn dX6_spells_30 rfl rfl k
  · have k := k.2 hb
    refine zr_iload_n dX6_spells_16 rfl rfl ?_
    refine zr_iload dX6_spells_17 rfl ?_
    refine zr_iload_n dX6_spells_19 rfl rfl ?_
    refine zr_isub dX6_spells_20 ?_
    refine zr_callS (As := [.int v3, .int ((p_X11_pick I 22 200 v1) - v2)]) (fr' := fX6_unitSign) (lo' := lX6_unitSign) (bc' := 0) (bs' := 0) (bcr := bc) (bsr := bs) dX6_spells_21 zs_X6_89 zst_X6_unitSign rfl rfl (Nat.le_of_ble_eq_true rfl) (Nat.le_of_ble_eq_true rfl) (Nat.le_of_ble_eq_true rfl) (Nat.le_refl _) (Nat.le_refl _) ?_
    refine ZC.mono (fun w S' I1 L1 k => ?_) k
    obtain ⟨r1, rfl, rfl, k⟩ := k
    show ZW G mX6_spells fX6_spells lX6_spells 24 [zo G 19, .int v1, .int v2, .int v3, .int v4, .int (p_X11_pick I 22 200 v1), .null, .null, .null] [.int r1] S I1 L1 bc bs Q
    refine zr_bipush (v := 32) dX6_spells_24 (by decide) ?_
    refine zr_iceq (tgt := 31) dX6_spells_26 (by decide) (fun hb => ?_) (fun hb => ?_)
    · have k := k.1 hb
      refine zr_iconst (v := 0) dX6_spells_31 (by decide) ?_
      refine zr_istore dX6_spells_32 (Nat.le_of_ble_eq_true rfl) rfl ?_
      exact k
    · have k := k.2 hb
      refine zr_iconst (v := 0) dX6_spells_29 (by decide) ?_
      exact zr_ireturn dX6_spells_30 rfl rfl k
set_option maxHeartbeats 2000000 in
theorem vX6_spells_34 {G : Gp} {bc bs : Nat} {Q : zPost} {S : zSh} {I : zFI} {L : zFL} {v1 : Int32} {v2 : Int32} {v3 : Int32} {v4 : Int32} {v5 : Int32} {v6 : Int32} (hS : zStd S)  (k : ((v5 ≤ v6 → Q (some (.int (1 : Int32))) S I L) ∧ (¬ v5 ≤ v6 → ((v2 ≤ v6 → ZC G mX6_unitSign fX6_unitSign lX6_unitSign [.int v3, .int (v6 - v2)] S I L 0 0 (fun w S' I1 L1 => ∃ r1 : Int32, w = some (.int r1) ∧ S = S' ∧ ((v4 = 0 → ((r1 = (32 : Int32) → Q (some (.int (0 : Int32))) S I1 L1) ∧ (¬ r1 = (32 : Int32) → (((p_X11_pick I1 24 1200 ((v1 * (6 : Int32)) + v6)) = r1 → ZW G mX6_spells fX6_spells lX6_spells 34 [zo G 19, .int v1, .int v2, .int v3, .int v4, .int v5, .int (v6 + 1), .null, .null] [] S I1 L1 bc bs Q) ∧ (¬ (p_X11_pick I1 24 1200 ((v1 * (6 : Int32)) + v6)) = r1 → (((p_X11_pick I1 24 1200 ((v1 * (6 : Int32)) + v6)) = (63 : Int32) → ZW G mX6_spells fX6_spells lX6_spells 34 [zo G 19, .int v1, .int v2, .int v3, .int v4, .int v5, .int (v6 + 1), .null, .null] [] S I1 L1 bc bs Q) ∧ (¬ (p_X11_pick I1 24 1200 ((v1 * (6 : Int32)) + v6)) = (63 : Int32) → Q (some (.int (0 : Int32))) S I1 L1))))))) ∧ (¬ v4 = 0 → ((r1 = (32 : Int32) → Q (some (.int (0 : Int32))) S I1 L1) ∧ (¬ r1 = (32 : Int32) → (((p_X11_pick I1 24 1200 ((v1 * (6 : Int32)) + ((v5 - (1 : Int32)) - v6))) = r1 → ZW G mX6_spells fX6_spells lX6_spells 34 [zo G 19, .int v1, .int v2, .int v3, .int v4, .int v5, .int (v6 + 1), .null, .null] [] S I1 L1 bc bs Q) ∧ (¬ (p_X11_pick I1 24 1200 ((v1 * (6 : Int32)) + ((v5 - (1 : Int32)) - v6))) = r1 → (((p_X11_pick I1 24 1200 ((v1 * (6 : Int32)) + ((v5 - (1 : Int32)) - v6))) = (63 : Int32) → ZW G mX6_spells fX6_spells lX6_spells 34 [zo G 19, .int v1, .int v2, .int v3, .int v4, .int v5, .int (v6 + 1), .null, .null] [] S I1 L1 bc bs Q) ∧ (¬ (p_X11_pick I1 24 1200 ((v1 * (6 : Int32)) + ((v5 - (1 : Int32)) - v6))) = (63 : Int32) → Q (some (.int (0 : Int32))) S I1 L1)))))))))) ∧ (¬ v2 ≤ v6 → ((v4 = 0 → (((88 : Int32) = (32 : Int32) → Q (some (.int (0 : Int32))) S I L) ∧ (¬ (88 : Int32) = (32 : Int32) → (((p_X11_pick I 24 1200 ((v1 * (6 : Int32)) + v6)) = (88 : Int32) → ZW G mX6_spells fX6_spells lX6_spells 34 [zo G 19, .int v1, .int v2, .int v3, .int v4, .int v5, .int (v6 + 1), .null, .null] [] S I L bc bs Q) ∧ (¬ (p_X11_pick I 24 1200 ((v1 * (6 : Int32)) + v6)) = (88 : Int32) → (((p_X11_pick I 24 1200 ((v1 * (6 : Int32)) + v6)) = (63 : Int32) → ZW G mX6_spells fX6_spells lX6_spells 34 [zo G 19, .int v1, .int v2, .int v3, .int v4, .int v5, .int (v6 + 1), .null, .null] [] S I L bc bs Q) ∧ (¬ (p_X11_pick I 24 1200 ((v1 * (6 : Int32)) + v6)) = (63 : Int32) → Q (some (.int (0 : Int32))) S I L))))))) ∧ (¬ v4 = 0 → (((88 : Int32) = (32 : Int32) → Q (some (.int (0 : Int32))) S I L) ∧ (¬ (88 : Int32) = (32 : Int32) → (((p_X11_pick I 24 1200 ((v1 * (6 : Int32)) + ((v5 - (1 : Int32)) - v6))) = (88 : Int32) → ZW G mX6_spells fX6_spells lX6_spells 34 [zo G 19, .int v1, .int v2, .int v3, .int v4, .int v5, .int (v6 + 1), .null, .null] [] S I L bc bs Q) ∧ (¬ (p_X11_pick I 24 1200 ((v1 * (6 : Int32)) + ((v5 - (1 : Int32)) - v6))) = (88 : Int32) → (((p_X11_pick I 24 1200 ((v1 * (6 : Int32)) + ((v5 - (1 : Int32)) - v6))) = (63 : Int32) → ZW G mX6_spells fX6_spells lX6_spells 34 [zo G 19, .int v1, .int v2, .int v3, .int v4, .int v5, .int (v6 + 1), .null, .null] [] S I L bc bs Q) ∧ (¬ (p_X11_pick I 24 1200 ((v1 * (6 : Int32)) + ((v5 - (1 : Int32)) - v6))) = (63 : Int32) → Q (some (.int (0 : Int32))) S I L))))))))))))) : ZW G mX6_spells fX6_spells lX6_spells 34 [zo G 19, .int v1, .int v2, .int v3, .int v4, .int v5, .int v6, .null, .null] [] S I L bc bs Q := by
  refine zr_iload dX6_spells_34 rfl ?_
  refine zr_iload dX6_spells_36 rfl ?_
  refine zr_icge (tgt := 122) dX6_spells_38 (by decide) (fun hb => ?_) (fun hb => ?_)
  · have k := k.1 hb
    refine zr_iconst (v := 1) dX6_spells_122 (by decide) ?_
    exact zr_ireturn dX6_spells_123 rfl rfl k
  · have k := k.2 hb
    refine zr_iload dX6_spells_41 rfl ?_
    refine zr_iload_n dX6_spells_43 rfl rfl ?_
    refine zr_icge (tgt := 52) dX6_spells_44 (by decide) (fun hb => ?_) (fun hb => ?_)
    · have k := k.1 hb
      refine zr_iload_n dX6_spells_52 rfl rfl ?_
      refine zr_iload dX6_spells_53 rfl ?_
      refine zr_iload_n dX6_spells_55 rfl rfl ?_
      refine zr_isub dX6_spells_56 ?_
      refine zr_callS (As := [.int v3, .int (v6 - v2)]) (fr' := fX6_unitSign) (lo' := lX6_unitSign) (bc' := 0) (bs' := 0) (bcr := bc) (bsr := bs) dX6_spells_57 zs_X6_89 zst_X6_unitSign rfl rfl (Nat.le_of_ble_eq_true rfl) (Nat.le_of_ble_eq_true rfl) (Nat.le_of_ble_eq_true rfl) (Nat.le_refl _) (Nat.le_refl _) ?_
      refine ZC.mono (fun w S' I1 L1 k => ?_) k
      obtain ⟨r1, rfl, rfl, k⟩ := k
      show ZW G mX6_spells fX6_spells lX6_spells 60 [zo G 19, .int v1, .int v2, .int v3, .int v4, .int v5, .int v6, .null, .null] [.int r1] S I1 L1 bc bs Q
      refine zr_istore dX6_spells_60 (Nat.le_of_ble_eq_true rfl) rfl ?_
      refine zr_aload_n dX6_spells_62 rfl rfl ?_
      refine zr_getR dX6_spells_63 zf_X6_28 rfl (hS.has (a := 19) rfl rfl) (hS.ref (a := 24) rfl) ?_
      refine zr_iload_n dX6_spells_66 rfl rfl ?_
      refine zr_bipush (v := 6) dX6_spells_67 (by decide) ?_
      refine zr_imul dX6_spells_69 ?_
      refine zr_iload dX6_spells_70 rfl ?_
      refine zr_ifeq (tgt := 85) dX6_spells_72 (by decide) (fun hb => ?_) (fun hb => ?_)
      · have k := k.1 hb
        refine zr_iload dX6_spells_85 rfl ?_
        refine zr_iadd dX6_spells_87 ?_
        refine zr_callSN (As := [zo G 24, .int ((v1 * (6 : Int32)) + v6)]) (fr' := fX11_pick) (lo' := lX11_pick) (bc' := 0) (bs' := 0) (bcr := bc) (bsr := bs) dX6_spells_88 zsn_X6_54 zst_X11_pick rfl rfl (Nat.le_of_ble_eq_true rfl) (Nat.le_of_ble_eq_true rfl) (Nat.le_of_ble_eq_true rfl) (Nat.le_refl _) (Nat.le_refl _) ?_
        refine sp_X11_pick hS (hS.has (a := 24) rfl rfl) rfl ?_
        show ZW G mX6_spells fX6_spells lX6_spells 91 [zo G 19, .int v1, .int v2, .int v3, .int v4, .int v5, .int v6, .int r1, .null] [.int (p_X11_pick I1 24 1200 ((v1 * (6 : Int32)) + v6))] S I1 L1 bc bs Q
        refine zr_istore dX6_spells_91 (Nat.le_of_ble_eq_true rfl) rfl ?_
        refine zr_iload dX6_spells_93 rfl ?_
        refine zr_bipush (v := 32) dX6_spells_95 (by decide) ?_
        refine zr_iceq (tgt := 114) dX6_spells_97 (by decide) (fun hb => ?_) (fun hb => ?_)
        · have k := k.1 hb
          refine zr_iconst (v := 0) dX6_spells_114 (by decide) ?_
          exact zr_ireturn dX6_spells_115 rfl rfl k
        · have k := k.2 hb
          refine zr_iload dX6_spells_100 rfl ?_
          refine zr_iload dX6_spells_102 rfl ?_
          refine zr_iceq (tgt := 116) dX6_spells_104 (by decide) (fun hb => ?_) (fun hb => ?_)
          · have k := k.1 hb
            refine zr_iinc (v := (v6 + 1)) dX6_spells_116 rfl rfl (Nat.le_of_ble_eq_true rfl) rfl ?_
            refine zr_goto (tgt := 34) dX6_spells_119 (by decide) ?_
            exact zr_mask [true, true, true, true, true, true, true, false, false] rfl k
          · have k := k.2 hb
            refine zr_iload dX6_spells_107 rfl ?_
            refine zr_bipush (v := 63) dX6_spells_109 (by decide) ?_
            refine zr_iceq (tgt := 116) dX6_spells_111 (by decide) (fun hb => ?_) (fun hb => ?_)
            · have k := k.1 hb
              refine zr_iinc (v := (v6 + 1)) dX6_spells_116 rfl rfl (Nat.le_of_ble_eq_true rfl) rfl ?_
              refine zr_goto (tgt := 34) dX6_spells_119 (by decide) ?_
              exact zr_mask [true, true, true, true, true, true, true, false, false] rfl k
            · have k := k.2 hb
              refine zr_iconst (v := 0) dX6_spells_114 (by decide) ?_
              exact zr_ireturn dX6_spells_115 rfl rfl k
      · have k := k.2 hb
        refine zr_iload dX6_spells_75 rfl ?_
        refine zr_iconst (v := 1) dX6_spells_77 (by decide) ?_
        refine zr_isub dX6_spells_78 ?_
        refine zr_iload dX6_spells_79 rfl ?_
        refine zr_isub dX6_spells_81 ?_
        refine zr_goto (tgt := 87) dX6_spells_82 (by decide) ?_
        refine zr_iadd dX6_spells_87 ?_
        refine zr_callSN (As := [zo G 24, .int ((v1 * (6 : Int32)) + ((v5 - (1 : Int32)) - v6))]) (fr' := fX11_pick) (lo' := lX11_pick) (bc' := 0) (bs' := 0) (bcr := bc) (bsr := bs) dX6_spells_88 zsn_X6_54 zst_X11_pick rfl rfl (Nat.le_of_ble_eq_true rfl) (Nat.le_of_ble_eq_true rfl) (Nat.le_of_ble_eq_true rfl) (Nat.le_refl _) (Nat.le_refl _) ?_
        refine sp_X11_pick hS (hS.has (a := 24) rfl rfl) rfl ?_
        show ZW G mX6_spells fX6_spells lX6_spells 91 [zo G 19, .int v1, .int v2, .int v3, .int v4, .int v5, .int v6, .int r1, .null] [.int (p_X11_pick I1 24 1200 ((v1 * (6 : Int32)) + ((v5 - (1 : Int32)) - v6)))] S I1 L1 bc bs Q
        refine zr_istore dX6_spells_91 (Nat.le_of_ble_eq_true rfl) rfl ?_
        refine zr_iload dX6_spells_93 rfl ?_
        refine zr_bipush (v := 32) dX6_spells_95 (by decide) ?_
        refine zr_iceq (tgt := 114) dX6_spells_97 (by decide) (fun hb => ?_) (fun hb => ?_)
        · have k := k.1 hb
          refine zr_iconst (v := 0) dX6_spells_114 (by decide) ?_
          exact zr_ireturn dX6_spells_115 rfl rfl k
        · have k := k.2 hb
          refine zr_iload dX6_spells_100 rfl ?_
          refine zr_iload dX6_spells_102 rfl ?_
          refine zr_iceq (tgt := 116) dX6_spells_104 (by decide) (fun hb => ?_) (fun hb => ?_)
          · have k := k.1 hb
            refine zr_iinc (v := (v6 + 1)) dX6_spells_116 rfl rfl (Nat.le_of_ble_eq_true rfl) rfl ?_
            refine zr_goto (tgt := 34) dX6_spells_119 (by decide) ?_
            exact zr_mask [true, true, true, true, true, true, true, false, false] rfl k
          · have k := k.2 hb
            refine zr_iload dX6_spells_107 rfl ?_
            refine zr_bipush (v := 63) dX6_spells_109 (by decide) ?_
            refine zr_iceq (tgt := 116) dX6_spells_111 (by decide) (fun hb => ?_) (fun hb => ?_)
            · have k := k.1 hb
              refine zr_iinc (v := (v6 + 1)) dX6_spells_116 rfl rfl (Nat.le_of_ble_eq_true rfl) rfl ?_
              refine zr_goto (tgt := 34) dX6_spells_119 (by decide) ?_
              exact zr_mask [true, true, true, true, true, true, true, false, false] rfl k
            · have k := k.2 hb
              refine zr_iconst (v := 0) dX6_spells_114 (by decide) ?_
              exact zr_ireturn dX6_spells_115 rfl rfl k
    · have k := k.2 hb
      refine zr_bipush (v := 88) dX6_spells_47 (by decide) ?_
      refine zr_goto (tgt := 60) dX6_spells_49 (by decide) ?_
      refine zr_istore dX6_spells_60 (Nat.le_of_ble_eq_true rfl) rfl ?_
      refine zr_aload_n dX6_spells_62 rfl rfl ?_
      refine zr_getR dX6_spells_63 zf_X6_28 rfl (hS.has (a := 19) rfl rfl) (hS.ref (a := 24) rfl) ?_
      refine zr_iload_n dX6_spells_66 rfl rfl ?_
      refine zr_bipush (v := 6) dX6_spells_67 (by decide) ?_
      refine zr_imul dX6_spells_69 ?_
      refine zr_iload dX6_spells_70 rfl ?_
      refine zr_ifeq (tgt := 85) dX6_spells_72 (by decide) (fun hb => ?_) (fun hb => ?_)
      · have k := k.1 hb
        refine zr_iload dX6_spells_85 rfl ?_
        refine zr_iadd dX6_spells_87 ?_
        refine zr_callSN (As := [zo G 24, .int ((v1 * (6 : Int32)) + v6)]) (fr' := fX11_pick) (lo' := lX11_pick) (bc' := 0) (bs' := 0) (bcr := bc) (bsr := bs) dX6_spells_88 zsn_X6_54 zst_X11_pick rfl rfl (Nat.le_of_ble_eq_true rfl) (Nat.le_of_ble_eq_true rfl) (Nat.le_of_ble_eq_true rfl) (Nat.le_refl _) (Nat.le_refl _) ?_
        refine sp_X11_pick hS (hS.has (a := 24) rfl rfl) rfl ?_
        show ZW G mX6_spells fX6_spells lX6_spells 91 [zo G 19, .int v1, .int v2, .int v3, .int v4, .int v5, .int v6, .int (88 : Int32), .null] [.int (p_X11_pick I 24 1200 ((v1 * (6 : Int32)) + v6))] S I L bc bs Q
        refine zr_istore dX6_spells_91 (Nat.le_of_ble_eq_true rfl) rfl ?_
        refine zr_iload dX6_spells_93 rfl ?_
        refine zr_bipush (v := 32) dX6_spells_95 (by decide) ?_
        refine zr_iceq (tgt := 114) dX6_spells_97 (by decide) (fun hb => ?_) (fun hb => ?_)
        · have k := k.1 hb
          refine zr_iconst (v := 0) dX6_spells_114 (by decide) ?_
          exact zr_ireturn dX6_spells_115 rfl rfl k
        · have k := k.2 hb
          refine zr_iload dX6_spells_100 rfl ?_
          refine zr_iload dX6_spells_102 rfl ?_
          refine zr_iceq (tgt := 116) dX6_spells_104 (by decide) (fun hb => ?_) (fun hb => ?_)
          · have k := k.1 hb
            refine zr_iinc (v := (v6 + 1)) dX6_spells_116 rfl rfl (Nat.le_of_ble_eq_true rfl) rfl ?_
            refine zr_goto (tgt := 34) dX6_spells_119 (by decide) ?_
            exact zr_mask [true, true, true, true, true, true, true, false, false] rfl k
          · have k := k.2 hb
            refine zr_iload dX6_spells_107 rfl ?_
            refine zr_bipush (v := 63) dX6_spells_109 (by decide) ?_
            refine zr_iceq (tgt := 116) dX6_spells_111 (by decide) (fun hb => ?_) (fun hb => ?_)
            · have k := k.1 hb
              refine zr_iinc (v := (v6 + 1)) dX6_spells_116 rfl rfl (Nat.le_of_ble_eq_true rfl) rfl ?_
              refine zr_goto (tgt := 34) dX6_spells_119 (by decide) ?_
              exact zr_mask [true, true, true, true, true, true, true, false, false] rfl k
            · have k := k.2 hb
              refine zr_iconst (v := 0) dX6_spells_114 (by decide) ?_
              exact zr_ireturn dX6_spells_115 rfl rfl k
      · have k := k.2 hb
        refine zr_iload dX6_spells_75 rfl ?_
        refine zr_iconst (v := 1) dX6_spells_77 (by decide) ?_
        refine zr_isub dX6_spells_78 ?_
        refine zr_iload dX6_spells_79 rfl ?_
        refine zr_isub dX6_spells_81 ?_
        refine zr_goto (tgt := 87) dX6_spells_82 (by decide) ?_
        refine zr_iadd dX6_spells_87 ?_
        refine zr_callSN (As := [zo G 24, .int ((v1 * (6 : Int32)) + ((v5 - (1 : Int32)) - v6))]) (fr' := fX11_pick) (lo' := lX11_pick) (bc' := 0) (bs' := 0) (bcr := bc) (bsr := bs) dX6_spells_88 zsn_X6_54 zst_X11_pick rfl rfl (Nat.le_of_ble_eq_true rfl) (Nat.le_of_ble_eq_true rfl) (Nat.le_of_ble_eq_true rfl) (Nat.le_refl _) (Nat.le_refl _) ?_
        refine sp_X11_pick hS (hS.has (a := 24) rfl rfl) rfl ?_
        show ZW G mX6_spells fX6_spells lX6_spells 91 [zo G 19, .int v1, .int v2, .int v3, .int v4, .int v5, .int v6, .int (88 : Int32), .null] [.int (p_X11_pick I 24 1200 ((v1 * (6 : Int32)) + ((v5 - (1 : Int32)) - v6)))] S I L bc bs Q
        refine zr_istore dX6_spells_91 (Nat.le_of_ble_eq_true rfl) rfl ?_
        refine zr_iload dX6_spells_93 rfl ?_
        refine zr_bipush (v := 32) dX6_spells_95 (by decide) ?_
        refine zr_iceq (tgt := 114) dX6_spells_97 (by decide) (fun hb => ?_) (fun hb => ?_)
        · have k := k.1 hb
          refine zr_iconst (v := 0) dX6_spells_114 (by decide) ?_
          exact zr_ireturn dX6_spells_115 rfl rfl k
        · have k := k.2 hb
          refine zr_iload dX6_spells_100 rfl ?_
          refine zr_iload dX6_spells_102 rfl ?_
          refine zr_iceq (tgt := 116) dX6_spells_104 (by decide) (fun hb => ?_) (fun hb => ?_)
          · have k := k.1 hb
            refine zr_iinc (v := (v6 + 1)) dX6_spells_116 rfl rfl (Nat.le_of_ble_eq_true rfl) rfl ?_
            refine zr_goto (tgt := 34) dX6_spells_119 (by decide) ?_
            exact zr_mask [true, true, true, true, true, true, true, false, false] rfl k
          · have k := k.2 hb
            refine zr_iload dX6_spells_107 rfl ?_
            refine zr_bipush (v := 63) dX6_spells_109 (by decide) ?_
            refine zr_iceq (tgt := 116) dX6_spells_111 (by decide) (fun hb => ?_) (fun hb => ?_)
            · have k := k.1 hb
              refine zr_iinc (v := (v6 + 1)) dX6_spells_116 rfl rfl (Nat.le_of_ble_eq_true rfl) rfl ?_
              refine zr_goto (tgt := 34) dX6_spells_119 (by decide) ?_
              exact zr_mask [true, true, true, true, true, true, true, false, false] rfl k
            · have k := k.2 hb
              refine zr_iconst (v := 0) dX6_spells_114 (by decide) ?_
              exact zr_ireturn dX6_spells_115 rfl rfl k
set_option maxHeartbeats 2000000 in
theorem vX6_numbersOn_0 {G : Gp} {bc bs : Nat} {Q : zPost} {S : zSh} {I : zFI} {L : zFL} {c2 : Nat} {v1 : Int32} (hS : zStd S) (hc2 : zCu c2) (k : ((¬ (p_X6_signsOn I v1) = 0 → ZW G mX6_numbersOn fX6_numbersOn lX6_numbersOn 27 [zo G 19, .int v1, zo G c2, .int (p_X11_pick I 25 48 v1), .long (0 : Int64), .null, .int (0 : Int32), .null, .null] [] S I L bc bs Q) ∧ ((p_X6_signsOn I v1) = 0 → Q (some (.long (1099511627774 : Int64))) S I L))) : ZW G mX6_numbersOn fX6_numbersOn lX6_numbersOn 0 [zo G 19, .int v1, zo G c2, .null, .null, .null, .null, .null, .null] [] S I L bc bs Q := by
  refine zr_aload_n dX6_numbersOn_0 rfl rfl ?_
  refine zr_getR dX6_numbersOn_1 zf_X6_31 rfl (hS.has (a := 19) rfl rfl) (hS.ref (a := 25) rfl) ?_
  refine zr_iload_n dX6_numbersOn_4 rfl rfl ?_
  refine zr_callSN (As := [zo G 25, .int v1]) (fr' := fX11_pick) (lo' := lX11_pick) (bc' := 0) (bs' := 0) (bcr := bc) (bsr := bs) dX6_numbersOn_5 zsn_X6_54 zst_X11_pick rfl rfl (Nat.le_of_ble_eq_true rfl) (Nat.le_of_ble_eq_true rfl) (Nat.le_of_ble_eq_true rfl) (Nat.le_refl _) (Nat.le_refl _) ?_
  refine sp_X11_pick hS (hS.has (a := 25) rfl rfl) rfl ?_
  show ZW G mX6_numbersOn fX6_numbersOn lX6_numbersOn 8 [zo G 19, .int v1, zo G c2, .null, .null, .null, .null, .null, .null] [.int (p_X11_pick I 25 48 v1)] S I L bc bs Q
  refine zr_istore_n dX6_numbersOn_8 rfl (Nat.le_of_ble_eq_true rfl) rfl ?_
  refine zr_aload_n dX6_numbersOn_9 rfl rfl ?_
  refine zr_iload_n dX6_numbersOn_10 rfl rfl ?_
  refine zr_callV (As := [.int v1]) (fr' := fX6_signsOn) (lo' := lX6_signsOn) (bc' := 0) (bs' := 0) (bcr := bc) (bsr := bs) dX6_numbersOn_11 zs_X6_64 zi_X6_signsOn zcl_6 (hS.has (a := 19) rfl rfl) rfl rfl (Nat.le_of_ble_eq_true rfl) (Nat.le_of_ble_eq_true rfl) (Nat.le_of_ble_eq_true rfl) (Nat.le_refl _) (Nat.le_refl _) ?_
  refine sp_X6_signsOn hS  ?_
  show ZW G mX6_numbersOn fX6_numbersOn lX6_numbersOn 14 [zo G 19, .int v1, zo G c2, .int (p_X11_pick I 25 48 v1), .null, .null, .null, .null, .null] [.int (p_X6_signsOn I v1)] S I L bc bs Q
  refine zr_ifne (tgt := 21) dX6_numbersOn_14 (by decide) (fun hb => ?_) (fun hb => ?_)
  · have k := k.1 hb
    refine zr_lconst (v := 0) dX6_numbersOn_21 (by decide) ?_
    refine zr_lstore dX6_numbersOn_22 (Nat.le_of_ble_eq_true rfl) rfl ?_
    refine zr_iconst (v := 0) dX6_numbersOn_24 (by decide) ?_
    refine zr_istore dX6_numbersOn_25 (Nat.le_of_ble_eq_true rfl) rfl ?_
    exact k
  · have k := k.2 hb
    refine zr_ldc2_w dX6_numbersOn_17 zk_X6_67 ?_
    exact zr_lreturn dX6_numbersOn_20 rfl k
set_option maxHeartbeats 2000000 in
theorem vX6_numbersOn_27 {G : Gp} {bc bs : Nat} {Q : zPost} {S : zSh} {I : zFI} {L : zFL} {c2 : Nat} {v1 : Int32} {v3 : Int32} {v4 : Int64} {v6 : Int32} (hS : zStd S) (hc2 : zCu c2) (k : (((4 : Int32) ≤ v6 → Q (some (.long v4)) S I L) ∧ (¬ (4 : Int32) ≤ v6 → ZW G mX6_numbersOn fX6_numbersOn lX6_numbersOn 36 [zo G 19, .int v1, zo G c2, .int v3, .long v4, .null, .int v6, .int (0 : Int32), .null] [] S I L bc bs Q))) : ZW G mX6_numbersOn fX6_numbersOn lX6_numbersOn 27 [zo G 19, .int v1, zo G c2, .int v3, .long v4, .null, .int v6, .null, .null] [] S I L bc bs Q := by
  refine zr_iload dX6_numbersOn_27 rfl ?_
  refine zr_iconst (v := 4) dX6_numbersOn_29 (by decide) ?_
  refine zr_icge (tgt := 124) dX6_numbersOn_30 (by decide) (fun hb => ?_) (fun hb => ?_)
  · have k := k.1 hb
    refine zr_lload dX6_numbersOn_124 rfl ?_
    exact zr_lreturn dX6_numbersOn_126 rfl k
  · have k := k.2 hb
    refine zr_iconst (v := 0) dX6_numbersOn_33 (by decide) ?_
    refine zr_istore dX6_numbersOn_34 (Nat.le_of_ble_eq_true rfl) rfl ?_
    exact k
set_option maxHeartbeats 2000000 in
theorem vX6_numbersOn_36 {G : Gp} {bc bs : Nat} {Q : zPost} {S : zSh} {I : zFI} {L : zFL} {c2 : Nat} {v1 : Int32} {v3 : Int32} {v4 : Int64} {v6 : Int32} {v7 : Int32} (hS : zStd S) (hc2 : zCu c2) (k : (((12 : Int32) ≤ v7 → ZW G mX6_numbersOn fX6_numbersOn lX6_numbersOn 27 [zo G 19, .int v1, zo G c2, .int v3, .long v4, .null, .int (v6 + 1), .null, .null] [] S I L bc bs Q) ∧ (¬ (12 : Int32) ≤ v7 → (((((10 : Int32) * v6) + (p_X6_unitOf v7)) ≤ 0 → ZW G mX6_numbersOn fX6_numbersOn lX6_numbersOn 36 [zo G 19, .int v1, zo G c2, .int v3, .long v4, .null, .int v6, .int (v7 + 1), .null] [] S I L bc bs Q) ∧ (¬ (((10 : Int32) * v6) + (p_X6_unitOf v7)) ≤ 0 → (((p_X6_isUsed I v7 c2) = 0 → ZW G mX6_numbersOn fX6_numbersOn lX6_numbersOn 36 [zo G 19, .int v1, zo G c2, .int v3, .long v4, .null, .int v6, .int (v7 + 1), .null] [] S I L bc bs Q) ∧ (¬ (p_X6_isUsed I v7 c2) = 0 → ZC G mX6_spells fX6_spells lX6_spells [zo G 19, .int v3, .int v6, .int v7, .int (0 : Int32)] S I L 0 0 (fun w S' I1 L1 => ∃ r1 : Int32, w = some (.int r1) ∧ S = S' ∧ ((¬ r1 = 0 → ZW G mX6_numbersOn fX6_numbersOn lX6_numbersOn 36 [zo G 19, .int v1, zo G c2, .int v3, .long (v4 ||| ((1 : Int64) <<< ((((10 : Int32) * v6) + (p_X6_unitOf v7)).toInt64 &&& 63))), .null, .int v6, .int (v7 + 1), .null] [] S I1 L1 bc bs Q) ∧ (r1 = 0 → (((I1 c2 1) = 0 → ZW G mX6_numbersOn fX6_numbersOn lX6_numbersOn 36 [zo G 19, .int v1, zo G c2, .int v3, .long v4, .null, .int v6, .int (v7 + 1), .null] [] S I1 L1 bc bs Q) ∧ (¬ (I1 c2 1) = 0 → ZC G mX6_spells fX6_spells lX6_spells [zo G 19, .int v3, .int v6, .int v7, .int (1 : Int32)] S I1 L1 0 0 (fun w S' I2 L2 => ∃ r2 : Int32, w = some (.int r2) ∧ S = S' ∧ ((r2 = 0 → ZW G mX6_numbersOn fX6_numbersOn lX6_numbersOn 36 [zo G 19, .int v1, zo G c2, .int v3, .long v4, .null, .int v6, .int (v7 + 1), .null] [] S I2 L2 bc bs Q) ∧ (¬ r2 = 0 → ZW G mX6_numbersOn fX6_numbersOn lX6_numbersOn 36 [zo G 19, .int v1, zo G c2, .int v3, .long (v4 ||| ((1 : Int64) <<< ((((10 : Int32) * v6) + (p_X6_unitOf v7)).toInt64 &&& 63))), .null, .int v6, .int (v7 + 1), .null] [] S I2 L2 bc bs Q))))))))))))))) : ZW G mX6_numbersOn fX6_numbersOn lX6_numbersOn 36 [zo G 19, .int v1, zo G c2, .int v3, .long v4, .null, .int v6, .int v7, .null] [] S I L bc bs Q := by
  refine zr_iload dX6_numbersOn_36 rfl ?_
  refine zr_bipush (v := 12) dX6_numbersOn_38 (by decide) ?_
  refine zr_icge (tgt := 118) dX6_numbersOn_40 (by decide) (fun hb => ?_) (fun hb => ?_)
  · have k := k.1 hb
    refine zr_iinc (v := (v6 + 1)) dX6_numbersOn_118 rfl rfl (Nat.le_of_ble_eq_true rfl) rfl ?_
    refine zr_goto (tgt := 27) dX6_numbersOn_121 (by decide) ?_
    exact zr_mask [true, true, true, true, true, false, true, false, false] rfl k
  · have k := k.2 hb
    refine zr_bipush (v := 10) dX6_numbersOn_43 (by decide) ?_
    refine zr_iload dX6_numbersOn_45 rfl ?_
    refine zr_imul dX6_numbersOn_47 ?_
    refine zr_iload dX6_numbersOn_48 rfl ?_
    refine zr_callS (As := [.int v7]) (fr' := fX6_unitOf) (lo' := lX6_unitOf) (bc' := 0) (bs' := 0) (bcr := bc) (bsr := bs) dX6_numbersOn_50 zs_X6_69 zst_X6_unitOf rfl rfl (Nat.le_of_ble_eq_true rfl) (Nat.le_of_ble_eq_true rfl) (Nat.le_of_ble_eq_true rfl) (Nat.le_refl _) (Nat.le_refl _) ?_
    refine sp_X6_unitOf hS  ?_
    show ZW G mX6_numbersOn fX6_numbersOn lX6_numbersOn 53 [zo G 19, .int v1, zo G c2, .int v3, .long v4, .null, .int v6, .int v7, .null] [.int (p_X6_unitOf v7), .int ((10 : Int32) * v6)] S I L bc bs Q
    refine zr_iadd dX6_numbersOn_53 ?_
    refine zr_istore dX6_numbersOn_54 (Nat.le_of_ble_eq_true rfl) rfl ?_
    refine zr_iload dX6_numbersOn_56 rfl ?_
    refine zr_ifle (tgt := 112) dX6_numbersOn_58 (by decide) (fun hb => ?_) (fun hb => ?_)
    · have k := k.1 hb
      refine zr_iinc (v := (v7 + 1)) dX6_numbersOn_112 rfl rfl (Nat.le_of_ble_eq_true rfl) rfl ?_
      refine zr_goto (tgt := 36) dX6_numbersOn_115 (by decide) ?_
      exact zr_mask [true, true, true, true, true, false, true, true, false] rfl k
    · have k := k.2 hb
      refine zr_iload dX6_numbersOn_61 rfl ?_
      refine zr_aload_n dX6_numbersOn_63 rfl rfl ?_
      refine zr_callS (As := [.int v7, zo G c2]) (fr' := fX6_isUsed) (lo' := lX6_isUsed) (bc' := 0) (bs' := 0) (bcr := bc) (bsr := bs) dX6_numbersOn_64 zs_X6_72 zst_X6_isUsed rfl rfl (Nat.le_of_ble_eq_true rfl) (Nat.le_of_ble_eq_true rfl) (Nat.le_of_ble_eq_true rfl) (Nat.le_refl _) (Nat.le_refl _) ?_
      refine sp_X6_isUsed hS hc2 ?_
      show ZW G mX6_numbersOn fX6_numbersOn lX6_numbersOn 67 [zo G 19, .int v1, zo G c2, .int v3, .long v4, .null, .int v6, .int v7, .int (((10 : Int32) * v6) + (p_X6_unitOf v7))] [.int (p_X6_isUsed I v7 c2)] S I L bc bs Q
      refine zr_ifeq (tgt := 112) dX6_numbersOn_67 (by decide) (fun hb => ?_) (fun hb => ?_)
      · have k := k.1 hb
        refine zr_iinc (v := (v7 + 1)) dX6_numbersOn_112 rfl rfl (Nat.le_of_ble_eq_true rfl) rfl ?_
        refine zr_goto (tgt := 36) dX6_numbersOn_115 (by decide) ?_
        exact zr_mask [true, true, true, true, true, false, true, true, false] rfl k
      · have k := k.2 hb
        refine zr_aload_n dX6_numbersOn_70 rfl rfl ?_
        refine zr_iload_n dX6_numbersOn_71 rfl rfl ?_
        refine zr_iload dX6_numbersOn_72 rfl ?_
        refine zr_iload dX6_numbersOn_74 rfl ?_
        refine zr_iconst (v := 0) dX6_numbersOn_76 (by decide) ?_
        refine zr_callV (As := [.int v3, .int v6, .int v7, .int (0 : Int32)]) (fr' := fX6_spells) (lo' := lX6_spells) (bc' := 0) (bs' := 0) (bcr := bc) (bsr := bs) dX6_numbersOn_77 zs_X6_76 zi_X6_spells zcl_6 (hS.has (a := 19) rfl rfl) rfl rfl (Nat.le_of_ble_eq_true rfl) (Nat.le_of_ble_eq_true rfl) (Nat.le_of_ble_eq_true rfl) (Nat.le_refl _) (Nat.le_refl _) ?_
        refine ZC.mono (fun w S' I1 L1 k => ?_) k
        obtain ⟨r1, rfl, rfl, k⟩ := k
        show ZW G mX6_numbersOn fX6_numbersOn lX6_numbersOn 80 [zo G 19, .int v1, zo G c2, .int v3, .long v4, .null, .int v6, .int v7, .int (((10 : Int32) * v6) + (p_X6_unitOf v7))] [.int r1] S I1 L1 bc bs Q
        refine zr_ifne (tgt := 103) dX6_numbersOn_80 (by decide) (fun hb => ?_) (fun hb => ?_)
        · have k := k.1 hb
          refine zr_lload dX6_numbersOn_103 rfl ?_
          refine zr_lconst (v := 1) dX6_numbersOn_105 (by decide) ?_
          refine zr_iload dX6_numbersOn_106 rfl ?_
          refine zr_lshl dX6_numbersOn_108 rfl ?_
          refine zr_lor dX6_numbersOn_109 ?_
          refine zr_lstore dX6_numbersOn_110 (Nat.le_of_ble_eq_true rfl) rfl ?_
          refine zr_iinc (v := (v7 + 1)) dX6_numbersOn_112 rfl rfl (Nat.le_of_ble_eq_true rfl) rfl ?_
          refine zr_goto (tgt := 36) dX6_numbersOn_115 (by decide) ?_
          exact zr_mask [true, true, true, true, true, false, true, true, false] rfl k
        · have k := k.2 hb
          refine zr_aload_n dX6_numbersOn_83 rfl rfl ?_
          refine zr_getIv (x := (I1 c2 1)) dX6_numbersOn_84 zf_X6_80 rfl (hS.hasC hc2) rfl ?_
          refine zr_ifeq (tgt := 112) dX6_numbersOn_87 (by decide) (fun hb => ?_) (fun hb => ?_)
          · have k := k.1 hb
            refine zr_iinc (v := (v7 + 1)) dX6_numbersOn_112 rfl rfl (Nat.le_of_ble_eq_true rfl) rfl ?_
            refine zr_goto (tgt := 36) dX6_numbersOn_115 (by decide) ?_
            exact zr_mask [true, true, true, true, true, false, true, true, false] rfl k
          · have k := k.2 hb
            refine zr_aload_n dX6_numbersOn_90 rfl rfl ?_
            refine zr_iload_n dX6_numbersOn_91 rfl rfl ?_
            refine zr_iload dX6_numbersOn_92 rfl ?_
            refine zr_iload dX6_numbersOn_94 rfl ?_
            refine zr_iconst (v := 1) dX6_numbersOn_96 (by decide) ?_
            refine zr_callV (As := [.int v3, .int v6, .int v7, .int (1 : Int32)]) (fr' := fX6_spells) (lo' := lX6_spells) (bc' := 0) (bs' := 0) (bcr := bc) (bsr := bs) dX6_numbersOn_97 zs_X6_76 zi_X6_spells zcl_6 (hS.has (a := 19) rfl rfl) rfl rfl (Nat.le_of_ble_eq_true rfl) (Nat.le_of_ble_eq_true rfl) (Nat.le_of_ble_eq_true rfl) (Nat.le_refl _) (Nat.le_refl _) ?_
            refine ZC.mono (fun w S' I2 L2 k => ?_) k
            obtain ⟨r2, rfl, rfl, k⟩ := k
            show ZW G mX6_numbersOn fX6_numbersOn lX6_numbersOn 100 [zo G 19, .int v1, zo G c2, .int v3, .long v4, .null, .int v6, .int v7, .int (((10 : Int32) * v6) + (p_X6_unitOf v7))] [.int r2] S I2 L2 bc bs Q
            refine zr_ifeq (tgt := 112) dX6_numbersOn_100 (by decide) (fun hb => ?_) (fun hb => ?_)
            · have k := k.1 hb
              refine zr_iinc (v := (v7 + 1)) dX6_numbersOn_112 rfl rfl (Nat.le_of_ble_eq_true rfl) rfl ?_
              refine zr_goto (tgt := 36) dX6_numbersOn_115 (by decide) ?_
              exact zr_mask [true, true, true, true, true, false, true, true, false] rfl k
            · have k := k.2 hb
              refine zr_lload dX6_numbersOn_103 rfl ?_
              refine zr_lconst (v := 1) dX6_numbersOn_105 (by decide) ?_
              refine zr_iload dX6_numbersOn_106 rfl ?_
              refine zr_lshl dX6_numbersOn_108 rfl ?_
              refine zr_lor dX6_numbersOn_109 ?_
              refine zr_lstore dX6_numbersOn_110 (Nat.le_of_ble_eq_true rfl) rfl ?_
              refine zr_iinc (v := (v7 + 1)) dX6_numbersOn_112 rfl rfl (Nat.le_of_ble_eq_true rfl) rfl ?_
              refine zr_goto (tgt := 36) dX6_numbersOn_115 (by decide) ?_
              exact zr_mask [true, true, true, true, true, false, true, true, false] rfl k
set_option maxHeartbeats 2000000 in
theorem vX7_take_0 {G : Gp} {bc bs : Nat} {Q : zPost} {S : zSh} {I : zFI} {L : zFL} {f1 : Nat} {v2 : Int32} (hS : zStd S) (hf1 : zFm f1) (k : ZW G mX7_take fX7_take lX7_take 7 [zo G 60, zo G f1, .int v2, .int (0 : Int32)] [] S (u2 I 60 0 (0 : Int32)) L bc bs Q) : ZW G mX7_take fX7_take lX7_take 0 [zo G 60, zo G f1, .int v2, .null] [] S I L bc bs Q := by
  refine zr_aload_n dX7_take_0 rfl rfl ?_
  refine zr_iconst (v := 0) dX7_take_1 (by decide) ?_
  refine zr_putI dX7_take_2 zf_X7_9 rfl (hS.has (a := 60) rfl rfl) rfl rfl ?_
  refine zr_iconst (v := 0) dX7_take_5 (by decide) ?_
  refine zr_istore_n dX7_take_6 rfl (Nat.le_of_ble_eq_true rfl) rfl ?_
  exact k
set_option maxHeartbeats 2000000 in
theorem vX7_take_7 {G : Gp} {bc bs : Nat} {Q : zPost} {S : zSh} {I : zFI} {L : zFL} {f1 : Nat} {v2 : Int32} {v3 : Int32} (hS : zStd S) (hf1 : zFm f1) (k : (((16 : Int32) ≤ v3 → Q none S I L) ∧ (¬ (16 : Int32) ≤ v3 → (((16 : Int32) ≤ (I 60 0) → Q none S I L) ∧ (¬ (16 : Int32) ≤ (I 60 0) → ((¬ (p_X3_holding I f1 v3) = v2 → ZW G mX7_take fX7_take lX7_take 7 [zo G 60, zo G f1, .int v2, .int (v3 + 1)] [] S I L bc bs Q) ∧ ((p_X3_holding I f1 v3) = v2 → vp_in (I 60 0) 16 ∧ ZW G mX7_take fX7_take lX7_take 7 [zo G 60, zo G f1, .int v2, .int (v3 + 1)] [] S (u2 (u2 I 61 (I 60 0).toNatClampNeg v3) 60 0 ((I 60 0) + (1 : Int32))) L bc bs Q))))))) : ZW G mX7_take fX7_take lX7_take 7 [zo G 60, zo G f1, .int v2, .int v3] [] S I L bc bs Q := by
  refine zr_iload_n dX7_take_7 rfl rfl ?_
  refine zr_bipush (v := 16) dX7_take_8 (by decide) ?_
  refine zr_icge (tgt := 57) dX7_take_10 (by decide) (fun hb => ?_) (fun hb => ?_)
  · have k := k.1 hb
    exact zr_return_ dX7_take_57 rfl k
  · have k := k.2 hb
    refine zr_aload_n dX7_take_13 rfl rfl ?_
    refine zr_getIv (x := (I 60 0)) dX7_take_14 zf_X7_9 rfl (hS.has (a := 60) rfl rfl) rfl ?_
    refine zr_bipush (v := 16) dX7_take_17 (by decide) ?_
    refine zr_icge (tgt := 57) dX7_take_19 (by decide) (fun hb => ?_) (fun hb => ?_)
    · have k := k.1 hb
      exact zr_return_ dX7_take_57 rfl k
    · have k := k.2 hb
      refine zr_aload_n dX7_take_22 rfl rfl ?_
      refine zr_iload_n dX7_take_23 rfl rfl ?_
      refine zr_callV (As := [.int v3]) (fr' := fX3_holding) (lo' := lX3_holding) (bc' := 0) (bs' := 0) (bcr := bc) (bsr := bs) dX7_take_24 zs_X7_65 zi_X3_holding zcl_3 (hS.hasF hf1 0 rfl rfl rfl) rfl rfl (Nat.le_of_ble_eq_true rfl) (Nat.le_of_ble_eq_true rfl) (Nat.le_of_ble_eq_true rfl) (Nat.le_refl _) (Nat.le_refl _) ?_
      refine sp_X3_holding hS hf1 ?_
      show ZW G mX7_take fX7_take lX7_take 27 [zo G 60, zo G f1, .int v2, .int v3] [.int (p_X3_holding I f1 v3)] S I L bc bs Q
      refine zr_iload_n dX7_take_27 rfl rfl ?_
      refine zr_icne (tgt := 51) dX7_take_28 (by decide) (fun hb => ?_) (fun hb => ?_)
      · have k := k.1 hb
        refine zr_iinc (v := (v3 + 1)) dX7_take_51 rfl rfl (Nat.le_of_ble_eq_true rfl) rfl ?_
        refine zr_goto (tgt := 7) dX7_take_54 (by decide) ?_
        exact k
      · have k := k.2 hb
        refine zr_aload_n dX7_take_31 rfl rfl ?_
        refine zr_getR dX7_take_32 zf_X7_15 rfl (hS.has (a := 60) rfl rfl) (hS.ref (a := 61) rfl) ?_
        refine zr_aload_n dX7_take_35 rfl rfl ?_
        refine zr_getIv (x := (I 60 0)) dX7_take_36 zf_X7_9 rfl (hS.has (a := 60) rfl rfl) rfl ?_
        refine zr_iload_n dX7_take_39 rfl rfl ?_
        obtain ⟨hi1, k⟩ := k
        refine zr_iast dX7_take_40 (hS.has (a := 61) rfl rfl) hi1 ?_
        refine zr_aload_n dX7_take_41 rfl rfl ?_
        refine zr_dup dX7_take_42 rfl ?_
        refine zr_getIv (x := (I 60 0)) dX7_take_43 zf_X7_9 rfl (hS.has (a := 60) rfl rfl) rfl ?_
        refine zr_iconst (v := 1) dX7_take_46 (by decide) ?_
        refine zr_iadd dX7_take_47 ?_
        refine zr_putI dX7_take_48 zf_X7_9 rfl (hS.has (a := 60) rfl rfl) rfl rfl ?_
        refine zr_iinc (v := (v3 + 1)) dX7_take_51 rfl rfl (Nat.le_of_ble_eq_true rfl) rfl ?_
        refine zr_goto (tgt := 7) dX7_take_54 (by decide) ?_
        exact k
set_option maxHeartbeats 2000000 in
theorem vX10_kindOf_0 {G : Gp} {bc bs : Nat} {Q : zPost} {S : zSh} {I : zFI} {L : zFL} {v1 : Int32} (hS : zStd S)  (k : Q (some (.int (p_X11_pick I 11 16 v1))) S I L) : ZW G mX10_kindOf fX10_kindOf lX10_kindOf 0 [zo G 10, .int v1] [] S I L bc bs Q := by
  refine zr_aload_n dX10_kindOf_0 rfl rfl ?_
  refine zr_getR dX10_kindOf_1 zf_X10_15 rfl (hS.has (a := 10) rfl rfl) (hS.ref (a := 11) rfl) ?_
  refine zr_iload_n dX10_kindOf_4 rfl rfl ?_
  refine zr_callSN (As := [zo G 11, .int v1]) (fr' := fX11_pick) (lo' := lX11_pick) (bc' := 0) (bs' := 0) (bcr := bc) (bsr := bs) dX10_kindOf_5 zsn_X10_51 zst_X11_pick rfl rfl (Nat.le_of_ble_eq_true rfl) (Nat.le_of_ble_eq_true rfl) (Nat.le_of_ble_eq_true rfl) (Nat.le_refl _) (Nat.le_refl _) ?_
  refine sp_X11_pick hS (hS.has (a := 11) rfl rfl) rfl ?_
  show ZW G mX10_kindOf fX10_kindOf lX10_kindOf 8 [zo G 10, .int v1] [.int (p_X11_pick I 11 16 v1)] S I L bc bs Q
  exact zr_ireturn dX10_kindOf_8 rfl rfl k
def p_X10_kindOf (I : zFI) (v1 : Int32) : Int32 := (p_X11_pick I 11 16 v1)
set_option maxHeartbeats 2000000 in
theorem sp_X10_kindOf {G : Gp} {Q : zPost} {S : zSh} {I : zFI} {L : zFL} {v1 : Int32} (hS : zStd S)  (h : Q (some (.int (p_X10_kindOf I v1))) S I L) : ZC G mX10_kindOf fX10_kindOf lX10_kindOf [zo G 10, .int v1] S I L 0 0 Q := by
  refine ZC.of' (vX10_kindOf_0 hS  ?_) rfl (Nat.le_of_ble_eq_true rfl) rfl
  unfold p_X10_kindOf at h
  exact h
set_option maxHeartbeats 2000000 in
theorem vJ6_bitCount_0f7a4_0 {G : Gp} {bc bs : Nat} {Q : zPost} {S : zSh} {I : zFI} {L : zFL} {v0 : Int32} (hS : zStd S)  (k : Q (some (.int ((((((((v0 - ((v0.toUInt32 >>> ((1 : Int32).toUInt32 &&& Int32.toUInt32 31)).toInt32 &&& (1431655765 : Int32))) &&& (858993459 : Int32)) + (((v0 - ((v0.toUInt32 >>> ((1 : Int32).toUInt32 &&& Int32.toUInt32 31)).toInt32 &&& (1431655765 : Int32))).toUInt32 >>> ((2 : Int32).toUInt32 &&& Int32.toUInt32 31)).toInt32 &&& (858993459 : Int32))) + ((((v0 - ((v0.toUInt32 >>> ((1 : Int32).toUInt32 &&& Int32.toUInt32 31)).toInt32 &&& (1431655765 : Int32))) &&& (858993459 : Int32)) + (((v0 - ((v0.toUInt32 >>> ((1 : Int32).toUInt32 &&& Int32.toUInt32 31)).toInt32 &&& (1431655765 : Int32))).toUInt32 >>> ((2 : Int32).toUInt32 &&& Int32.toUInt32 31)).toInt32 &&& (858993459 : Int32))).toUInt32 >>> ((4 : Int32).toUInt32 &&& Int32.toUInt32 31)).toInt32) &&& (252645135 : Int32)) + ((((((v0 - ((v0.toUInt32 >>> ((1 : Int32).toUInt32 &&& Int32.toUInt32 31)).toInt32 &&& (1431655765 : Int32))) &&& (858993459 : Int32)) + (((v0 - ((v0.toUInt32 >>> ((1 : Int32).toUInt32 &&& Int32.toUInt32 31)).toInt32 &&& (1431655765 : Int32))).toUInt32 >>> ((2 : Int32).toUInt32 &&& Int32.toUInt32 31)).toInt32 &&& (858993459 : Int32))) + ((((v0 - ((v0.toUInt32 >>> ((1 : Int32).toUInt32 &&& Int32.toUInt32 31)).toInt32 &&& (1431655765 : Int32))) &&& (858993459 : Int32)) + (((v0 - ((v0.toUInt32 >>> ((1 : Int32).toUInt32 &&& Int32.toUInt32 31)).toInt32 &&& (1431655765 : Int32))).toUInt32 >>> ((2 : Int32).toUInt32 &&& Int32.toUInt32 31)).toInt32 &&& (858993459 : Int32))).toUInt32 >>> ((4 : Int32).toUInt32 &&& Int32.toUInt32 31)).toInt32) &&& (252645135 : Int32)).toUInt32 >>> ((8 : Int32).toUInt32 &&& Int32.toUInt32 31)).toInt32) + (((((((v0 - ((v0.toUInt32 >>> ((1 : Int32).toUInt32 &&& Int32.toUInt32 31)).toInt32 &&& (1431655765 : Int32))) &&& (858993459 : Int32)) + (((v0 - ((v0.toUInt32 >>> ((1 : Int32).toUInt32 &&& Int32.toUInt32 31)).toInt32 &&& (1431655765 : Int32))).toUInt32 >>> ((2 : Int32).toUInt32 &&& Int32.toUInt32 31)).toInt32 &&& (858993459 : Int32))) + ((((v0 - ((v0.toUInt32 >>> ((1 : Int32).toUInt32 &&& Int32.toUInt32 31)).toInt32 &&& (1431655765 : Int32))) &&& (858993459 : Int32)) + (((v0 - ((v0.toUInt32 >>> ((1 : Int32).toUInt32 &&& Int32.toUInt32 31)).toInt32 &&& (1431655765 : Int32))).toUInt32 >>> ((2 : Int32).toUInt32 &&& Int32.toUInt32 31)).toInt32 &&& (858993459 : Int32))).toUInt32 >>> ((4 : Int32).toUInt32 &&& Int32.toUInt32 31)).toInt32) &&& (252645135 : Int32)) + ((((((v0 - ((v0.toUInt32 >>> ((1 : Int32).toUInt32 &&& Int32.toUInt32 31)).toInt32 &&& (1431655765 : Int32))) &&& (858993459 : Int32)) + (((v0 - ((v0.toUInt32 >>> ((1 : Int32).toUInt32 &&& Int32.toUInt32 31)).toInt32 &&& (1431655765 : Int32))).toUInt32 >>> ((2 : Int32).toUInt32 &&& Int32.toUInt32 31)).toInt32 &&& (858993459 : Int32))) + ((((v0 - ((v0.toUInt32 >>> ((1 : Int32).toUInt32 &&& Int32.toUInt32 31)).toInt32 &&& (1431655765 : Int32))) &&& (858993459 : Int32)) + (((v0 - ((v0.toUInt32 >>> ((1 : Int32).toUInt32 &&& Int32.toUInt32 31)).toInt32 &&& (1431655765 : Int32))).toUInt32 >>> ((2 : Int32).toUInt32 &&& Int32.toUInt32 31)).toInt32 &&& (858993459 : Int32))).toUInt32 >>> ((4 : Int32).toUInt32 &&& Int32.toUInt32 31)).toInt32) &&& (252645135 : Int32)).toUInt32 >>> ((8 : Int32).toUInt32 &&& Int32.toUInt32 31)).toInt32).toUInt32 >>> ((16 : Int32).toUInt32 &&& Int32.toUInt32 31)).toInt32) &&& (63 : Int32)))) S I L) : ZW G mJ6_bitCount_0f7a4 fJ6_bitCount_0f7a4 lJ6_bitCount_0f7a4 0 [.int v0] [] S I L bc bs Q := by
  refine zr_iload_n dJ6_bitCount_0f7a4_0 rfl rfl ?_
  refine zr_iload_n dJ6_bitCount_0f7a4_1 rfl rfl ?_
  refine zr_iconst (v := 1) dJ6_bitCount_0f7a4_2 (by decide) ?_
  refine zr_iushr dJ6_bitCount_0f7a4_3 rfl ?_
  refine zr_ldc_w dJ6_bitCount_0f7a4_4 zk_J6_265 ?_
  refine zr_iand dJ6_bitCount_0f7a4_7 ?_
  refine zr_isub dJ6_bitCount_0f7a4_8 ?_
  refine zr_istore_n dJ6_bitCount_0f7a4_9 rfl (Nat.le_of_ble_eq_true rfl) rfl ?_
  refine zr_iload_n dJ6_bitCount_0f7a4_10 rfl rfl ?_
  refine zr_ldc_w dJ6_bitCount_0f7a4_11 zk_J6_266 ?_
  refine zr_iand dJ6_bitCount_0f7a4_14 ?_
  refine zr_iload_n dJ6_bitCount_0f7a4_15 rfl rfl ?_
  refine zr_iconst (v := 2) dJ6_bitCount_0f7a4_16 (by decide) ?_
  refine zr_iushr dJ6_bitCount_0f7a4_17 rfl ?_
  refine zr_ldc_w dJ6_bitCount_0f7a4_18 zk_J6_266 ?_
  refine zr_iand dJ6_bitCount_0f7a4_21 ?_
  refine zr_iadd dJ6_bitCount_0f7a4_22 ?_
  refine zr_istore_n dJ6_bitCount_0f7a4_23 rfl (Nat.le_of_ble_eq_true rfl) rfl ?_
  refine zr_iload_n dJ6_bitCount_0f7a4_24 rfl rfl ?_
  refine zr_iload_n dJ6_bitCount_0f7a4_25 rfl rfl ?_
  refine zr_iconst (v := 4) dJ6_bitCount_0f7a4_26 (by decide) ?_
  refine zr_iushr dJ6_bitCount_0f7a4_27 rfl ?_
  refine zr_iadd dJ6_bitCount_0f7a4_28 ?_
  refine zr_ldc_w dJ6_bitCount_0f7a4_29 zk_J6_267 ?_
  refine zr_iand dJ6_bitCount_0f7a4_32 ?_
  refine zr_istore_n dJ6_bitCount_0f7a4_33 rfl (Nat.le_of_ble_eq_true rfl) rfl ?_
  refine zr_iload_n dJ6_bitCount_0f7a4_34 rfl rfl ?_
  refine zr_iload_n dJ6_bitCount_0f7a4_35 rfl rfl ?_
  refine zr_bipush (v := 8) dJ6_bitCount_0f7a4_36 (by decide) ?_
  refine zr_iushr dJ6_bitCount_0f7a4_38 rfl ?_
  refine zr_iadd dJ6_bitCount_0f7a4_39 ?_
  refine zr_istore_n dJ6_bitCount_0f7a4_40 rfl (Nat.le_of_ble_eq_true rfl) rfl ?_
  refine zr_iload_n dJ6_bitCount_0f7a4_41 rfl rfl ?_
  refine zr_iload_n dJ6_bitCount_0f7a4_42 rfl rfl ?_
  refine zr_bipush (v := 16) dJ6_bitCount_0f7a4_43 (by decide) ?_
  refine zr_iushr dJ6_bitCount_0f7a4_45 rfl ?_
  refine zr_iadd dJ6_bitCount_0f7a4_46 ?_
  refine zr_istore_n dJ6_bitCount_0f7a4_47 rfl (Nat.le_of_ble_eq_true rfl) rfl ?_
  refine zr_iload_n dJ6_bitCount_0f7a4_48 rfl rfl ?_
  refine zr_bipush (v := 63) dJ6_bitCount_0f7a4_49 (by decide) ?_
  refine zr_iand dJ6_bitCount_0f7a4_51 ?_
  exact zr_ireturn dJ6_bitCount_0f7a4_52 rfl rfl k
def p_J6_bitCount_0f7a4  (v0 : Int32) : Int32 := ((((((((v0 - ((v0.toUInt32 >>> ((1 : Int32).toUInt32 &&& Int32.toUInt32 31)).toInt32 &&& (1431655765 : Int32))) &&& (858993459 : Int32)) + (((v0 - ((v0.toUInt32 >>> ((1 : Int32).toUInt32 &&& Int32.toUInt32 31)).toInt32 &&& (1431655765 : Int32))).toUInt32 >>> ((2 : Int32).toUInt32 &&& Int32.toUInt32 31)).toInt32 &&& (858993459 : Int32))) + ((((v0 - ((v0.toUInt32 >>> ((1 : Int32).toUInt32 &&& Int32.toUInt32 31)).toInt32 &&& (1431655765 : Int32))) &&& (858993459 : Int32)) + (((v0 - ((v0.toUInt32 >>> ((1 : Int32).toUInt32 &&& Int32.toUInt32 31)).toInt32 &&& (1431655765 : Int32))).toUInt32 >>> ((2 : Int32).toUInt32 &&& Int32.toUInt32 31)).toInt32 &&& (858993459 : Int32))).toUInt32 >>> ((4 : Int32).toUInt32 &&& Int32.toUInt32 31)).toInt32) &&& (252645135 : Int32)) + ((((((v0 - ((v0.toUInt32 >>> ((1 : Int32).toUInt32 &&& Int32.toUInt32 31)).toInt32 &&& (1431655765 : Int32))) &&& (858993459 : Int32)) + (((v0 - ((v0.toUInt32 >>> ((1 : Int32).toUInt32 &&& Int32.toUInt32 31)).toInt32 &&& (1431655765 : Int32))).toUInt32 >>> ((2 : Int32).toUInt32 &&& Int32.toUInt32 31)).toInt32 &&& (858993459 : Int32))) + ((((v0 - ((v0.toUInt32 >>> ((1 : Int32).toUInt32 &&& Int32.toUInt32 31)).toInt32 &&& (1431655765 : Int32))) &&& (858993459 : Int32)) + (((v0 - ((v0.toUInt32 >>> ((1 : Int32).toUInt32 &&& Int32.toUInt32 31)).toInt32 &&& (1431655765 : Int32))).toUInt32 >>> ((2 : Int32).toUInt32 &&& Int32.toUInt32 31)).toInt32 &&& (858993459 : Int32))).toUInt32 >>> ((4 : Int32).toUInt32 &&& Int32.toUInt32 31)).toInt32) &&& (252645135 : Int32)).toUInt32 >>> ((8 : Int32).toUInt32 &&& Int32.toUInt32 31)).toInt32) + (((((((v0 - ((v0.toUInt32 >>> ((1 : Int32).toUInt32 &&& Int32.toUInt32 31)).toInt32 &&& (1431655765 : Int32))) &&& (858993459 : Int32)) + (((v0 - ((v0.toUInt32 >>> ((1 : Int32).toUInt32 &&& Int32.toUInt32 31)).toInt32 &&& (1431655765 : Int32))).toUInt32 >>> ((2 : Int32).toUInt32 &&& Int32.toUInt32 31)).toInt32 &&& (858993459 : Int32))) + ((((v0 - ((v0.toUInt32 >>> ((1 : Int32).toUInt32 &&& Int32.toUInt32 31)).toInt32 &&& (1431655765 : Int32))) &&& (858993459 : Int32)) + (((v0 - ((v0.toUInt32 >>> ((1 : Int32).toUInt32 &&& Int32.toUInt32 31)).toInt32 &&& (1431655765 : Int32))).toUInt32 >>> ((2 : Int32).toUInt32 &&& Int32.toUInt32 31)).toInt32 &&& (858993459 : Int32))).toUInt32 >>> ((4 : Int32).toUInt32 &&& Int32.toUInt32 31)).toInt32) &&& (252645135 : Int32)) + ((((((v0 - ((v0.toUInt32 >>> ((1 : Int32).toUInt32 &&& Int32.toUInt32 31)).toInt32 &&& (1431655765 : Int32))) &&& (858993459 : Int32)) + (((v0 - ((v0.toUInt32 >>> ((1 : Int32).toUInt32 &&& Int32.toUInt32 31)).toInt32 &&& (1431655765 : Int32))).toUInt32 >>> ((2 : Int32).toUInt32 &&& Int32.toUInt32 31)).toInt32 &&& (858993459 : Int32))) + ((((v0 - ((v0.toUInt32 >>> ((1 : Int32).toUInt32 &&& Int32.toUInt32 31)).toInt32 &&& (1431655765 : Int32))) &&& (858993459 : Int32)) + (((v0 - ((v0.toUInt32 >>> ((1 : Int32).toUInt32 &&& Int32.toUInt32 31)).toInt32 &&& (1431655765 : Int32))).toUInt32 >>> ((2 : Int32).toUInt32 &&& Int32.toUInt32 31)).toInt32 &&& (858993459 : Int32))).toUInt32 >>> ((4 : Int32).toUInt32 &&& Int32.toUInt32 31)).toInt32) &&& (252645135 : Int32)).toUInt32 >>> ((8 : Int32).toUInt32 &&& Int32.toUInt32 31)).toInt32).toUInt32 >>> ((16 : Int32).toUInt32 &&& Int32.toUInt32 31)).toInt32) &&& (63 : Int32))
set_option maxHeartbeats 2000000 in
theorem sp_J6_bitCount_0f7a4 {G : Gp} {Q : zPost} {S : zSh} {I : zFI} {L : zFL} {v0 : Int32} (hS : zStd S)  (h : Q (some (.int (p_J6_bitCount_0f7a4  v0))) S I L) : ZC G mJ6_bitCount_0f7a4 fJ6_bitCount_0f7a4 lJ6_bitCount_0f7a4 [.int v0] S I L 0 0 Q := by
  refine ZC.of' (vJ6_bitCount_0f7a4_0 hS  ?_) rfl (Nat.le_of_ble_eq_true rfl) rfl
  unfold p_J6_bitCount_0f7a4 at h
  exact h
set_option maxHeartbeats 2000000 in
theorem vX7_link_0 {G : Gp} {bc bs : Nat} {Q : zPost} {S : zSh} {I : zFI} {L : zFL} {f1 : Nat} {c3 : Nat} (hS : zStd S) (hf1 : zFm f1) (hc3 : zCu c3) (k : ZW G mX7_link fX7_link lX7_link 3 [zo G 60, zo G f1, zo G 10, zo G c3, .int (0 : Int32), .null] [] S I L bc bs Q) : ZW G mX7_link fX7_link lX7_link 0 [zo G 60, zo G f1, zo G 10, zo G c3, .null, .null] [] S I L bc bs Q := by
  refine zr_iconst (v := 0) dX7_link_0 (by decide) ?_
  refine zr_istore dX7_link_1 (Nat.le_of_ble_eq_true rfl) rfl ?_
  exact k
set_option maxHeartbeats 2000000 in
theorem vX7_link_3 {G : Gp} {bc bs : Nat} {Q : zPost} {S : zSh} {I : zFI} {L : zFL} {f1 : Nat} {c3 : Nat} {v4 : Int32} (hS : zStd S) (hf1 : zFm f1) (hc3 : zCu c3) (k : (((I 60 0) ≤ v4 → Q none S I L) ∧ (¬ (I 60 0) ≤ v4 → vp_in v4 16 ∧ ZW G mX7_link fX7_link lX7_link 31 [zo G 60, zo G f1, zo G 10, zo G c3, .int v4, .int (0 : Int32)] [] S (u2 (u2 I 62 v4.toNatClampNeg (0 : Int32)) 63 v4.toNatClampNeg (0 : Int32)) L bc bs Q))) : ZW G mX7_link fX7_link lX7_link 3 [zo G 60, zo G f1, zo G 10, zo G c3, .int v4, .null] [] S I L bc bs Q := by
  refine zr_iload dX7_link_3 rfl ?_
  refine zr_aload_n dX7_link_5 rfl rfl ?_
  refine zr_getIv (x := (I 60 0)) dX7_link_6 zf_X7_9 rfl (hS.has (a := 60) rfl rfl) rfl ?_
  refine zr_icge (tgt := 177) dX7_link_9 (by decide) (fun hb => ?_) (fun hb => ?_)
  · have k := k.1 hb
    exact zr_return_ dX7_link_177 rfl k
  · have k := k.2 hb
    refine zr_aload_n dX7_link_12 rfl rfl ?_
    refine zr_getR dX7_link_13 zf_X7_19 rfl (hS.has (a := 60) rfl rfl) (hS.ref (a := 62) rfl) ?_
    refine zr_iload dX7_link_16 rfl ?_
    refine zr_iconst (v := 0) dX7_link_18 (by decide) ?_
    obtain ⟨hi1, k⟩ := k
    refine zr_iast dX7_link_19 (hS.has (a := 62) rfl rfl) hi1 ?_
    refine zr_aload_n dX7_link_20 rfl rfl ?_
    refine zr_getR dX7_link_21 zf_X7_22 rfl (hS.has (a := 60) rfl rfl) (hS.ref (a := 63) rfl) ?_
    refine zr_iload dX7_link_24 rfl ?_
    refine zr_iconst (v := 0) dX7_link_26 (by decide) ?_
    refine zr_iast dX7_link_27 (hS.has (a := 63) rfl rfl) hi1 ?_
    refine zr_iconst (v := 0) dX7_link_28 (by decide) ?_
    refine zr_istore dX7_link_29 (Nat.le_of_ble_eq_true rfl) rfl ?_
    exact k
set_option maxHeartbeats 2000000 in
theorem vX7_link_31 {G : Gp} {bc bs : Nat} {Q : zPost} {S : zSh} {I : zFI} {L : zFL} {f1 : Nat} {c3 : Nat} {v4 : Int32} {v5 : Int32} (hS : zStd S) (hf1 : zFm f1) (hc3 : zCu c3) (k : (((I 60 0) ≤ v5 → vp_in v4 16 ∧ ZW G mX7_link fX7_link lX7_link 3 [zo G 60, zo G f1, zo G 10, zo G c3, .int (v4 + 1), .null] [] S (u2 (u2 I 139 v4.toNatClampNeg ((I 63 v4.toNatClampNeg) ||| ((1 : Int32) <<< (v4 &&& 31)))) 64 v4.toNatClampNeg (if (p_J6_bitCount_0f7a4 (I 62 v4.toNatClampNeg)) < ((u2 I 139 v4.toNatClampNeg ((I 63 v4.toNatClampNeg) ||| ((1 : Int32) <<< (v4 &&& 31)))) c3 3) then (p_J6_bitCount_0f7a4 (I 62 v4.toNatClampNeg)) else ((u2 I 139 v4.toNatClampNeg ((I 63 v4.toNatClampNeg) ||| ((1 : Int32) <<< (v4 &&& 31)))) c3 3))) L bc bs Q) ∧ (¬ (I 60 0) ≤ v5 → vp_in v4 16 ∧ vp_in v5 16 ∧ ((¬ (((p_X3_matesOf I f1 (I 61 v4.toNatClampNeg)) >>> ((I 61 v5.toNatClampNeg) &&& 31)) &&& (1 : Int32)) = (1 : Int32) → ZW G mX7_link fX7_link lX7_link 31 [zo G 60, zo G f1, zo G 10, zo G c3, .int v4, .int (v5 + 1)] [] S I L bc bs Q) ∧ ((((p_X3_matesOf I f1 (I 61 v4.toNatClampNeg)) >>> ((I 61 v5.toNatClampNeg) &&& 31)) &&& (1 : Int32)) = (1 : Int32) → (((p_X1_isAhead (u2 I 62 v4.toNatClampNeg ((I 62 v4.toNatClampNeg) ||| ((1 : Int32) <<< (v5 &&& 31)))) c3 (p_X10_kindOf (u2 I 62 v4.toNatClampNeg ((I 62 v4.toNatClampNeg) ||| ((1 : Int32) <<< (v5 &&& 31)))) (I 61 v5.toNatClampNeg)) (p_X10_kindOf (u2 I 62 v4.toNatClampNeg ((I 62 v4.toNatClampNeg) ||| ((1 : Int32) <<< (v5 &&& 31)))) (I 61 v4.toNatClampNeg))) = 0 → ZW G mX7_link fX7_link lX7_link 31 [zo G 60, zo G f1, zo G 10, zo G c3, .int v4, .int (v5 + 1)] [] S (u2 I 62 v4.toNatClampNeg ((I 62 v4.toNatClampNeg) ||| ((1 : Int32) <<< (v5 &&& 31)))) L bc bs Q) ∧ (¬ (p_X1_isAhead (u2 I 62 v4.toNatClampNeg ((I 62 v4.toNatClampNeg) ||| ((1 : Int32) <<< (v5 &&& 31)))) c3 (p_X10_kindOf (u2 I 62 v4.toNatClampNeg ((I 62 v4.toNatClampNeg) ||| ((1 : Int32) <<< (v5 &&& 31)))) (I 61 v5.toNatClampNeg)) (p_X10_kindOf (u2 I 62 v4.toNatClampNeg ((I 62 v4.toNatClampNeg) ||| ((1 : Int32) <<< (v5 &&& 31)))) (I 61 v4.toNatClampNeg))) = 0 → ZW G mX7_link fX7_link lX7_link 31 [zo G 60, zo G f1, zo G 10, zo G c3, .int v4, .int (v5 + 1)] [] S (u2 (u2 I 62 v4.toNatClampNeg ((I 62 v4.toNatClampNeg) ||| ((1 : Int32) <<< (v5 &&& 31)))) 63 v4.toNatClampNeg ((I 63 v4.toNatClampNeg) ||| ((1 : Int32) <<< (v5 &&& 31)))) L bc bs Q))))))) : ZW G mX7_link fX7_link lX7_link 31 [zo G 60, zo G f1, zo G 10, zo G c3, .int v4, .int v5] [] S I L bc bs Q := by
  refine zr_iload dX7_link_31 rfl ?_
  refine zr_aload_n dX7_link_33 rfl rfl ?_
  refine zr_getIv (x := (I 60 0)) dX7_link_34 zf_X7_9 rfl (hS.has (a := 60) rfl rfl) rfl ?_
  refine zr_icge (tgt := 128) dX7_link_37 (by decide) (fun hb => ?_) (fun hb => ?_)
  · have k := k.1 hb
    refine zr_aload_n dX7_link_128 rfl rfl ?_
    refine zr_getR dX7_link_129 zf_X7_25 rfl (hS.has (a := 60) rfl rfl) (hS.ref (a := 139) rfl) ?_
    refine zr_iload dX7_link_132 rfl ?_
    refine zr_aload_n dX7_link_134 rfl rfl ?_
    refine zr_getR dX7_link_135 zf_X7_22 rfl (hS.has (a := 60) rfl rfl) (hS.ref (a := 63) rfl) ?_
    refine zr_iload dX7_link_138 rfl ?_
    obtain ⟨hi2, k⟩ := k
    refine zr_ialdv (x := (I 63 v4.toNatClampNeg)) dX7_link_140 (hS.has (a := 63) rfl rfl) hi2 rfl ?_
    refine zr_iconst (v := 1) dX7_link_141 (by decide) ?_
    refine zr_iload dX7_link_142 rfl ?_
    refine zr_ishl dX7_link_144 ?_
    refine zr_ior dX7_link_145 ?_
    refine zr_iast dX7_link_146 (hS.has (a := 139) rfl rfl) hi2 ?_
    refine zr_aload_n dX7_link_147 rfl rfl ?_
    refine zr_getR dX7_link_148 zf_X7_28 rfl (hS.has (a := 60) rfl rfl) (hS.ref (a := 64) rfl) ?_
    refine zr_iload dX7_link_151 rfl ?_
    refine zr_aload_n dX7_link_153 rfl rfl ?_
    refine zr_getIv (x := ((u2 I 139 v4.toNatClampNeg ((I 63 v4.toNatClampNeg) ||| ((1 : Int32) <<< (v4 &&& 31)))) c3 3)) dX7_link_154 zf_X7_83 rfl (hS.hasC hc3) rfl ?_
    refine zr_aload_n dX7_link_157 rfl rfl ?_
    refine zr_getR dX7_link_158 zf_X7_19 rfl (hS.has (a := 60) rfl rfl) (hS.ref (a := 62) rfl) ?_
    refine zr_iload dX7_link_161 rfl ?_
    refine zr_ialdv (x := (I 62 v4.toNatClampNeg)) dX7_link_163 (hS.has (a := 62) rfl rfl) hi2 rfl ?_
    refine zr_callS (As := [.int (I 62 v4.toNatClampNeg)]) (fr' := fJ6_bitCount_0f7a4) (lo' := lJ6_bitCount_0f7a4) (bc' := 0) (bs' := 0) (bcr := bc) (bsr := bs) dX7_link_164 zs_X7_86 zst_J6_bitCount_0f7a4 rfl rfl (Nat.le_of_ble_eq_true rfl) (Nat.le_of_ble_eq_true rfl) (Nat.le_of_ble_eq_true rfl) (Nat.le_refl _) (Nat.le_refl _) ?_
    refine sp_J6_bitCount_0f7a4 hS  ?_
    show ZW G mX7_link fX7_link lX7_link 167 [zo G 60, zo G f1, zo G 10, zo G c3, .int v4, .int v5] [.int (p_J6_bitCount_0f7a4 (I 62 v4.toNatClampNeg)), .int ((u2 I 139 v4.toNatClampNeg ((I 63 v4.toNatClampNeg) ||| ((1 : Int32) <<< (v4 &&& 31)))) c3 3), .int v4, zo G 64] S (u2 I 139 v4.toNatClampNeg ((I 63 v4.toNatClampNeg) ||| ((1 : Int32) <<< (v4 &&& 31)))) L bc bs Q
    refine zr_mmin dX7_link_167 zmt_X7_91 (Nat.le_of_ble_eq_true rfl) (Nat.le_of_ble_eq_true rfl) (Nat.le_of_ble_eq_true rfl) ?_
    refine zr_iast dX7_link_170 (hS.has (a := 64) rfl rfl) hi2 ?_
    refine zr_iinc (v := (v4 + 1)) dX7_link_171 rfl rfl (Nat.le_of_ble_eq_true rfl) rfl ?_
    refine zr_goto (tgt := 3) dX7_link_174 (by decide) ?_
    exact zr_mask [true, true, true, true, true, false] rfl k
  · have k := k.2 hb
    refine zr_aload_n dX7_link_40 rfl rfl ?_
    refine zr_aload_n dX7_link_41 rfl rfl ?_
    refine zr_getR dX7_link_42 zf_X7_15 rfl (hS.has (a := 60) rfl rfl) (hS.ref (a := 61) rfl) ?_
    refine zr_iload dX7_link_45 rfl ?_
    obtain ⟨hi3, k⟩ := k
    refine zr_ialdv (x := (I 61 v4.toNatClampNeg)) dX7_link_47 (hS.has (a := 61) rfl rfl) hi3 rfl ?_
    refine zr_callV (As := [.int (I 61 v4.toNatClampNeg)]) (fr' := fX3_matesOf) (lo' := lX3_matesOf) (bc' := 0) (bs' := 0) (bcr := bc) (bsr := bs) dX7_link_48 zs_X7_69 zi_X3_matesOf zcl_3 (hS.hasF hf1 0 rfl rfl rfl) rfl rfl (Nat.le_of_ble_eq_true rfl) (Nat.le_of_ble_eq_true rfl) (Nat.le_of_ble_eq_true rfl) (Nat.le_refl _) (Nat.le_refl _) ?_
    refine sp_X3_matesOf hS hf1 ?_
    show ZW G mX7_link fX7_link lX7_link 51 [zo G 60, zo G f1, zo G 10, zo G c3, .int v4, .int v5] [.int (p_X3_matesOf I f1 (I 61 v4.toNatClampNeg))] S I L bc bs Q
    refine zr_aload_n dX7_link_51 rfl rfl ?_
    refine zr_getR dX7_link_52 zf_X7_15 rfl (hS.has (a := 60) rfl rfl) (hS.ref (a := 61) rfl) ?_
    refine zr_iload dX7_link_55 rfl ?_
    obtain ⟨hi4, k⟩ := k
    refine zr_ialdv (x := (I 61 v5.toNatClampNeg)) dX7_link_57 (hS.has (a := 61) rfl rfl) hi4 rfl ?_
    refine zr_ishr dX7_link_58 ?_
    refine zr_iconst (v := 1) dX7_link_59 (by decide) ?_
    refine zr_iand dX7_link_60 ?_
    refine zr_iconst (v := 1) dX7_link_61 (by decide) ?_
    refine zr_icne (tgt := 122) dX7_link_62 (by decide) (fun hb => ?_) (fun hb => ?_)
    · have k := k.1 hb
      refine zr_iinc (v := (v5 + 1)) dX7_link_122 rfl rfl (Nat.le_of_ble_eq_true rfl) rfl ?_
      refine zr_goto (tgt := 31) dX7_link_125 (by decide) ?_
      exact k
    · have k := k.2 hb
      refine zr_aload_n dX7_link_65 rfl rfl ?_
      refine zr_getR dX7_link_66 zf_X7_19 rfl (hS.has (a := 60) rfl rfl) (hS.ref (a := 62) rfl) ?_
      refine zr_iload dX7_link_69 rfl ?_
      refine zr_dup2 dX7_link_71 rfl rfl ?_
      refine zr_ialdv (x := (I 62 v4.toNatClampNeg)) dX7_link_72 (hS.has (a := 62) rfl rfl) hi3 rfl ?_
      refine zr_iconst (v := 1) dX7_link_73 (by decide) ?_
      refine zr_iload dX7_link_74 rfl ?_
      refine zr_ishl dX7_link_76 ?_
      refine zr_ior dX7_link_77 ?_
      refine zr_iast dX7_link_78 (hS.has (a := 62) rfl rfl) hi3 ?_
      refine zr_aload_n dX7_link_79 rfl rfl ?_
      refine zr_aload_n dX7_link_80 rfl rfl ?_
      refine zr_aload_n dX7_link_81 rfl rfl ?_
      refine zr_getR dX7_link_82 zf_X7_15 rfl (hS.has (a := 60) rfl rfl) (hS.ref (a := 61) rfl) ?_
      refine zr_iload dX7_link_85 rfl ?_
      refine zr_ialdv (x := (I 61 v5.toNatClampNeg)) dX7_link_87 (hS.has (a := 61) rfl rfl) hi4 rfl ?_
      refine zr_callV (As := [.int (I 61 v5.toNatClampNeg)]) (fr' := fX10_kindOf) (lo' := lX10_kindOf) (bc' := 0) (bs' := 0) (bcr := bc) (bsr := bs) dX7_link_88 zs_X7_72 zi_X10_kindOf zcl_10 (hS.has (a := 10) rfl rfl) rfl rfl (Nat.le_of_ble_eq_true rfl) (Nat.le_of_ble_eq_true rfl) (Nat.le_of_ble_eq_true rfl) (Nat.le_refl _) (Nat.le_refl _) ?_
      refine sp_X10_kindOf hS  ?_
      show ZW G mX7_link fX7_link lX7_link 91 [zo G 60, zo G f1, zo G 10, zo G c3, .int v4, .int v5] [.int (p_X10_kindOf (u2 I 62 v4.toNatClampNeg ((I 62 v4.toNatClampNeg) ||| ((1 : Int32) <<< (v5 &&& 31)))) (I 61 v5.toNatClampNeg)), zo G c3] S (u2 I 62 v4.toNatClampNeg ((I 62 v4.toNatClampNeg) ||| ((1 : Int32) <<< (v5 &&& 31)))) L bc bs Q
      refine zr_aload_n dX7_link_91 rfl rfl ?_
      refine zr_aload_n dX7_link_92 rfl rfl ?_
      refine zr_getR dX7_link_93 zf_X7_15 rfl (hS.has (a := 60) rfl rfl) (hS.ref (a := 61) rfl) ?_
      refine zr_iload dX7_link_96 rfl ?_
      refine zr_ialdv (x := (I 61 v4.toNatClampNeg)) dX7_link_98 (hS.has (a := 61) rfl rfl) hi3 rfl ?_
      refine zr_callV (As := [.int (I 61 v4.toNatClampNeg)]) (fr' := fX10_kindOf) (lo' := lX10_kindOf) (bc' := 0) (bs' := 0) (bcr := bc) (bsr := bs) dX7_link_99 zs_X7_72 zi_X10_kindOf zcl_10 (hS.has (a := 10) rfl rfl) rfl rfl (Nat.le_of_ble_eq_true rfl) (Nat.le_of_ble_eq_true rfl) (Nat.le_of_ble_eq_true rfl) (Nat.le_refl _) (Nat.le_refl _) ?_
      refine sp_X10_kindOf hS  ?_
      show ZW G mX7_link fX7_link lX7_link 102 [zo G 60, zo G f1, zo G 10, zo G c3, .int v4, .int v5] [.int (p_X10_kindOf (u2 I 62 v4.toNatClampNeg ((I 62 v4.toNatClampNeg) ||| ((1 : Int32) <<< (v5 &&& 31)))) (I 61 v4.toNatClampNeg)), .int (p_X10_kindOf (u2 I 62 v4.toNatClampNeg ((I 62 v4.toNatClampNeg) ||| ((1 : Int32) <<< (v5 &&& 31)))) (I 61 v5.toNatClampNeg)), zo G c3] S (u2 I 62 v4.toNatClampNeg ((I 62 v4.toNatClampNeg) ||| ((1 : Int32) <<< (v5 &&& 31)))) L bc bs Q
      refine zr_callV (As := [.int (p_X10_kindOf (u2 I 62 v4.toNatClampNeg ((I 62 v4.toNatClampNeg) ||| ((1 : Int32) <<< (v5 &&& 31)))) (I 61 v5.toNatClampNeg)), .int (p_X10_kindOf (u2 I 62 v4.toNatClampNeg ((I 62 v4.toNatClampNeg) ||| ((1 : Int32) <<< (v5 &&& 31)))) (I 61 v4.toNatClampNeg))]) (fr' := fX1_isAhead) (lo' := lX1_isAhead) (bc' := 0) (bs' := 0) (bcr := bc) (bsr := bs) dX7_link_102 zs_X7_77 zi_X1_isAhead zcl_1 (hS.hasC hc3) rfl rfl (Nat.le_of_ble_eq_true rfl) (Nat.le_of_ble_eq_true rfl) (Nat.le_of_ble_eq_true rfl) (Nat.le_refl _) (Nat.le_refl _) ?_
      refine sp_X1_isAhead hS hc3 ?_
      show ZW G mX7_link fX7_link lX7_link 105 [zo G 60, zo G f1, zo G 10, zo G c3, .int v4, .int v5] [.int (p_X1_isAhead (u2 I 62 v4.toNatClampNeg ((I 62 v4.toNatClampNeg) ||| ((1 : Int32) <<< (v5 &&& 31)))) c3 (p_X10_kindOf (u2 I 62 v4.toNatClampNeg ((I 62 v4.toNatClampNeg) ||| ((1 : Int32) <<< (v5 &&& 31)))) (I 61 v5.toNatClampNeg)) (p_X10_kindOf (u2 I 62 v4.toNatClampNeg ((I 62 v4.toNatClampNeg) ||| ((1 : Int32) <<< (v5 &&& 31)))) (I 61 v4.toNatClampNeg)))] S (u2 I 62 v4.toNatClampNeg ((I 62 v4.toNatClampNeg) ||| ((1 : Int32) <<< (v5 &&& 31)))) L bc bs Q
      refine zr_ifeq (tgt := 122) dX7_link_105 (by decide) (fun hb => ?_) (fun hb => ?_)
      · have k := k.1 hb
        refine zr_iinc (v := (v5 + 1)) dX7_link_122 rfl rfl (Nat.le_of_ble_eq_true rfl) rfl ?_
        refine zr_goto (tgt := 31) dX7_link_125 (by decide) ?_
        exact k
      · have k := k.2 hb
        refine zr_aload_n dX7_link_108 rfl rfl ?_
        refine zr_getR dX7_link_109 zf_X7_22 rfl (hS.has (a := 60) rfl rfl) (hS.ref (a := 63) rfl) ?_
        refine zr_iload dX7_link_112 rfl ?_
        refine zr_dup2 dX7_link_114 rfl rfl ?_
        refine zr_ialdv (x := (I 63 v4.toNatClampNeg)) dX7_link_115 (hS.has (a := 63) rfl rfl) hi3 rfl ?_
        refine zr_iconst (v := 1) dX7_link_116 (by decide) ?_
        refine zr_iload dX7_link_117 rfl ?_
        refine zr_ishl dX7_link_119 ?_
        refine zr_ior dX7_link_120 ?_
        refine zr_iast dX7_link_121 (hS.has (a := 63) rfl rfl) hi3 ?_
        refine zr_iinc (v := (v5 + 1)) dX7_link_122 rfl rfl (Nat.le_of_ble_eq_true rfl) rfl ?_
        refine zr_goto (tgt := 31) dX7_link_125 (by decide) ?_
        exact k
set_option maxHeartbeats 2000000 in
theorem vX7_countWays_0 {G : Gp} {bc bs : Nat} {Q : zPost} {S : zSh} {I : zFI} {L : zFL}  (hS : zStd S)  (k : ZW G mX7_countWays fX7_countWays lX7_countWays 9 [zo G 60, .int ((1 : Int32) <<< ((I 60 0) &&& 31)), .int (0 : Int32), .null] [] S I L bc bs Q) : ZW G mX7_countWays fX7_countWays lX7_countWays 0 [zo G 60, .null, .null, .null] [] S I L bc bs Q := by
  refine zr_iconst (v := 1) dX7_countWays_0 (by decide) ?_
  refine zr_aload_n dX7_countWays_1 rfl rfl ?_
  refine zr_getIv (x := (I 60 0)) dX7_countWays_2 zf_X7_9 rfl (hS.has (a := 60) rfl rfl) rfl ?_
  refine zr_ishl dX7_countWays_5 ?_
  refine zr_istore_n dX7_countWays_6 rfl (Nat.le_of_ble_eq_true rfl) rfl ?_
  refine zr_iconst (v := 0) dX7_countWays_7 (by decide) ?_
  refine zr_istore_n dX7_countWays_8 rfl (Nat.le_of_ble_eq_true rfl) rfl ?_
  exact k
set_option maxHeartbeats 2000000 in
theorem vX7_countWays_9 {G : Gp} {bc bs : Nat} {Q : zPost} {S : zSh} {I : zFI} {L : zFL} {v1 : Int32} {v2 : Int32} (hS : zStd S)  (k : ((v1 ≤ v2 → vp_in (0 : Int32) (zwl S) ∧ ZW G mX7_countWays fX7_countWays lX7_countWays 36 [zo G 60, .int v1, .int (0 : Int32), .null] [] S I (u2 L (zwy S) (0 : Int32).toNatClampNeg (1 : Int64)) bc bs Q) ∧ (¬ v1 ≤ v2 → vp_in v2 (zwl S) ∧ ZW G mX7_countWays fX7_countWays lX7_countWays 9 [zo G 60, .int v1, .int (v2 + 1), .null] [] S I (u2 L (zwy S) v2.toNatClampNeg (0 : Int64)) bc bs Q))) : ZW G mX7_countWays fX7_countWays lX7_countWays 9 [zo G 60, .int v1, .int v2, .null] [] S I L bc bs Q := by
  refine zr_iload_n dX7_countWays_9 rfl rfl ?_
  refine zr_iload_n dX7_countWays_10 rfl rfl ?_
  refine zr_icge (tgt := 27) dX7_countWays_11 (by decide) (fun hb => ?_) (fun hb => ?_)
  · have k := k.1 hb
    refine zr_aload_n dX7_countWays_27 rfl rfl ?_
    refine zr_getR dX7_countWays_28 zf_X7_31 rfl (hS.has (a := 60) rfl rfl) hS.gr.1 ?_
    refine zr_iconst (v := 0) dX7_countWays_31 (by decide) ?_
    refine zr_lconst (v := 1) dX7_countWays_32 (by decide) ?_
    obtain ⟨hi1, k⟩ := k
    refine zr_last dX7_countWays_33 hS.gr.2.2.1 hi1 ?_
    refine zr_iconst (v := 0) dX7_countWays_34 (by decide) ?_
    refine zr_istore_n dX7_countWays_35 rfl (Nat.le_of_ble_eq_true rfl) rfl ?_
    exact k
  · have k := k.2 hb
    refine zr_aload_n dX7_countWays_14 rfl rfl ?_
    refine zr_getR dX7_countWays_15 zf_X7_31 rfl (hS.has (a := 60) rfl rfl) hS.gr.1 ?_
    refine zr_iload_n dX7_countWays_18 rfl rfl ?_
    refine zr_lconst (v := 0) dX7_countWays_19 (by decide) ?_
    obtain ⟨hi2, k⟩ := k
    refine zr_last dX7_countWays_20 hS.gr.2.2.1 hi2 ?_
    refine zr_iinc (v := (v2 + 1)) dX7_countWays_21 rfl rfl (Nat.le_of_ble_eq_true rfl) rfl ?_
    refine zr_goto (tgt := 9) dX7_countWays_24 (by decide) ?_
    exact k
set_option maxHeartbeats 2000000 in
theorem vX7_countWays_36 {G : Gp} {bc bs : Nat} {Q : zPost} {S : zSh} {I : zFI} {L : zFL} {v1 : Int32} {v2 : Int32} (hS : zStd S)  (k : ((v1 ≤ v2 → Q none S I L) ∧ (¬ v1 ≤ v2 → vp_in v2 (zwl S) ∧ ((¬ (lg_cmp (L (zwy S) v2.toNatClampNeg) (0 : Int64)) = 0 → ZW G mX7_countWays fX7_countWays lX7_countWays 57 [zo G 60, .int v1, .int v2, .int (0 : Int32)] [] S I L bc bs Q) ∧ ((lg_cmp (L (zwy S) v2.toNatClampNeg) (0 : Int64)) = 0 → ZW G mX7_countWays fX7_countWays lX7_countWays 36 [zo G 60, .int v1, .int (v2 + 1), .null] [] S I L bc bs Q))))) : ZW G mX7_countWays fX7_countWays lX7_countWays 36 [zo G 60, .int v1, .int v2, .null] [] S I L bc bs Q := by
  refine zr_iload_n dX7_countWays_36 rfl rfl ?_
  refine zr_iload_n dX7_countWays_37 rfl rfl ?_
  refine zr_icge (tgt := 113) dX7_countWays_38 (by decide) (fun hb => ?_) (fun hb => ?_)
  · have k := k.1 hb
    exact zr_return_ dX7_countWays_113 rfl k
  · have k := k.2 hb
    refine zr_aload_n dX7_countWays_41 rfl rfl ?_
    refine zr_getR dX7_countWays_42 zf_X7_31 rfl (hS.has (a := 60) rfl rfl) hS.gr.1 ?_
    refine zr_iload_n dX7_countWays_45 rfl rfl ?_
    obtain ⟨hi3, k⟩ := k
    refine zr_laldv (x := (L (zwy S) v2.toNatClampNeg)) dX7_countWays_46 hS.gr.2.2.1 hi3 rfl ?_
    refine zr_lconst (v := 0) dX7_countWays_47 (by decide) ?_
    refine zr_lcmp dX7_countWays_48 ?_
    refine zr_ifne (tgt := 55) dX7_countWays_49 (by decide) (fun hb => ?_) (fun hb => ?_)
    · have k := k.1 hb
      refine zr_iconst (v := 0) dX7_countWays_55 (by decide) ?_
      refine zr_istore_n dX7_countWays_56 rfl (Nat.le_of_ble_eq_true rfl) rfl ?_
      exact k
    · have k := k.2 hb
      refine zr_goto (tgt := 107) dX7_countWays_52 (by decide) ?_
      refine zr_iinc (v := (v2 + 1)) dX7_countWays_107 rfl rfl (Nat.le_of_ble_eq_true rfl) rfl ?_
      refine zr_goto (tgt := 36) dX7_countWays_110 (by decide) ?_
      exact k
set_option maxHeartbeats 2000000 in
theorem vX7_countWays_57 {G : Gp} {bc bs : Nat} {Q : zPost} {S : zSh} {I : zFI} {L : zFL} {v1 : Int32} {v2 : Int32} {v3 : Int32} (hS : zStd S)  (k : (((I 60 0) ≤ v3 → ZW G mX7_countWays fX7_countWays lX7_countWays 36 [zo G 60, .int v1, .int (v2 + 1), .null] [] S I L bc bs Q) ∧ (¬ (I 60 0) ≤ v3 → vp_in v3 16 ∧ ((¬ (v2 &&& (I 139 v3.toNatClampNeg)) = (I 63 v3.toNatClampNeg) → ZW G mX7_countWays fX7_countWays lX7_countWays 57 [zo G 60, .int v1, .int v2, .int (v3 + 1)] [] S I L bc bs Q) ∧ ((v2 &&& (I 139 v3.toNatClampNeg)) = (I 63 v3.toNatClampNeg) → vp_in (v2 ||| ((1 : Int32) <<< (v3 &&& 31))) (zwl S) ∧ vp_in v2 (zwl S) ∧ ZW G mX7_countWays fX7_countWays lX7_countWays 57 [zo G 60, .int v1, .int v2, .int (v3 + 1)] [] S I (u2 L (zwy S) (v2 ||| ((1 : Int32) <<< (v3 &&& 31))).toNatClampNeg ((L (zwy S) (v2 ||| ((1 : Int32) <<< (v3 &&& 31))).toNatClampNeg) + (L (zwy S) v2.toNatClampNeg))) bc bs Q))))) : ZW G mX7_countWays fX7_countWays lX7_countWays 57 [zo G 60, .int v1, .int v2, .int v3] [] S I L bc bs Q := by
  refine zr_iload_n dX7_countWays_57 rfl rfl ?_
  refine zr_aload_n dX7_countWays_58 rfl rfl ?_
  refine zr_getIv (x := (I 60 0)) dX7_countWays_59 zf_X7_9 rfl (hS.has (a := 60) rfl rfl) rfl ?_
  refine zr_icge (tgt := 107) dX7_countWays_62 (by decide) (fun hb => ?_) (fun hb => ?_)
  · have k := k.1 hb
    refine zr_iinc (v := (v2 + 1)) dX7_countWays_107 rfl rfl (Nat.le_of_ble_eq_true rfl) rfl ?_
    refine zr_goto (tgt := 36) dX7_countWays_110 (by decide) ?_
    exact zr_mask [true, true, true, false] rfl k
  · have k := k.2 hb
    refine zr_iload_n dX7_countWays_65 rfl rfl ?_
    refine zr_aload_n dX7_countWays_66 rfl rfl ?_
    refine zr_getR dX7_countWays_67 zf_X7_25 rfl (hS.has (a := 60) rfl rfl) (hS.ref (a := 139) rfl) ?_
    refine zr_iload_n dX7_countWays_70 rfl rfl ?_
    obtain ⟨hi4, k⟩ := k
    refine zr_ialdv (x := (I 139 v3.toNatClampNeg)) dX7_countWays_71 (hS.has (a := 139) rfl rfl) hi4 rfl ?_
    refine zr_iand dX7_countWays_72 ?_
    refine zr_aload_n dX7_countWays_73 rfl rfl ?_
    refine zr_getR dX7_countWays_74 zf_X7_22 rfl (hS.has (a := 60) rfl rfl) (hS.ref (a := 63) rfl) ?_
    refine zr_iload_n dX7_countWays_77 rfl rfl ?_
    refine zr_ialdv (x := (I 63 v3.toNatClampNeg)) dX7_countWays_78 (hS.has (a := 63) rfl rfl) hi4 rfl ?_
    refine zr_icne (tgt := 101) dX7_countWays_79 (by decide) (fun hb => ?_) (fun hb => ?_)
    · have k := k.1 hb
      refine zr_iinc (v := (v3 + 1)) dX7_countWays_101 rfl rfl (Nat.le_of_ble_eq_true rfl) rfl ?_
      refine zr_goto (tgt := 57) dX7_countWays_104 (by decide) ?_
      exact k
    · have k := k.2 hb
      refine zr_aload_n dX7_countWays_82 rfl rfl ?_
      refine zr_getR dX7_countWays_83 zf_X7_31 rfl (hS.has (a := 60) rfl rfl) hS.gr.1 ?_
      refine zr_iload_n dX7_countWays_86 rfl rfl ?_
      refine zr_iconst (v := 1) dX7_countWays_87 (by decide) ?_
      refine zr_iload_n dX7_countWays_88 rfl rfl ?_
      refine zr_ishl dX7_countWays_89 ?_
      refine zr_ior dX7_countWays_90 ?_
      refine zr_dup2 dX7_countWays_91 rfl rfl ?_
      obtain ⟨hi5, k⟩ := k
      refine zr_laldv (x := (L (zwy S) (v2 ||| ((1 : Int32) <<< (v3 &&& 31))).toNatClampNeg)) dX7_countWays_92 hS.gr.2.2.1 hi5 rfl ?_
      refine zr_aload_n dX7_countWays_93 rfl rfl ?_
      refine zr_getR dX7_countWays_94 zf_X7_31 rfl (hS.has (a := 60) rfl rfl) hS.gr.1 ?_
      refine zr_iload_n dX7_countWays_97 rfl rfl ?_
      obtain ⟨hi6, k⟩ := k
      refine zr_laldv (x := (L (zwy S) v2.toNatClampNeg)) dX7_countWays_98 hS.gr.2.2.1 hi6 rfl ?_
      refine zr_ladd dX7_countWays_99 ?_
      refine zr_last dX7_countWays_100 hS.gr.2.2.1 hi5 ?_
      refine zr_iinc (v := (v3 + 1)) dX7_countWays_101 rfl rfl (Nat.le_of_ble_eq_true rfl) rfl ?_
      refine zr_goto (tgt := 57) dX7_countWays_104 (by decide) ?_
      exact k
set_option maxHeartbeats 2000000 in
theorem vX7_props_0 {G : Gp} {bc bs : Nat} {Q : zPost} {S : zSh} {I : zFI} {L : zFL} {v1 : Int32} (hS : zStd S)  (k : ZW G mX7_props fX7_props lX7_props 4 [zo G 60, .int v1, .int (0 : Int32), .int (0 : Int32)] [] S I L bc bs Q) : ZW G mX7_props fX7_props lX7_props 0 [zo G 60, .int v1, .null, .null] [] S I L bc bs Q := by
  refine zr_iconst (v := 0) dX7_props_0 (by decide) ?_
  refine zr_istore_n dX7_props_1 rfl (Nat.le_of_ble_eq_true rfl) rfl ?_
  refine zr_iconst (v := 0) dX7_props_2 (by decide) ?_
  refine zr_istore_n dX7_props_3 rfl (Nat.le_of_ble_eq_true rfl) rfl ?_
  exact k
set_option maxHeartbeats 2000000 in
theorem vX7_props_4 {G : Gp} {bc bs : Nat} {Q : zPost} {S : zSh} {I : zFI} {L : zFL} {v1 : Int32} {v2 : Int32} {v3 : Int32} (hS : zStd S)  (k : (((I 60 0) ≤ v3 → Q (some (.int v2)) S I L) ∧ (¬ (I 60 0) ≤ v3 → ((¬ ((v1 >>> (v3 &&& 31)) &&& (1 : Int32)) = (1 : Int32) → ZW G mX7_props fX7_props lX7_props 4 [zo G 60, .int v1, .int v2, .int (v3 + 1)] [] S I L bc bs Q) ∧ (((v1 >>> (v3 &&& 31)) &&& (1 : Int32)) = (1 : Int32) → vp_in v3 16 ∧ (((I 64 v3.toNatClampNeg) ≤ (p_J6_bitCount_0f7a4 ((I 62 v3.toNatClampNeg) &&& v1)) → ZW G mX7_props fX7_props lX7_props 4 [zo G 60, .int v1, .int v2, .int (v3 + 1)] [] S I L bc bs Q) ∧ (¬ (I 64 v3.toNatClampNeg) ≤ (p_J6_bitCount_0f7a4 ((I 62 v3.toNatClampNeg) &&& v1)) → ZW G mX7_props fX7_props lX7_props 4 [zo G 60, .int v1, .int (v2 + 1), .int (v3 + 1)] [] S I L bc bs Q))))))) : ZW G mX7_props fX7_props lX7_props 4 [zo G 60, .int v1, .int v2, .int v3] [] S I L bc bs Q := by
  refine zr_iload_n dX7_props_4 rfl rfl ?_
  refine zr_aload_n dX7_props_5 rfl rfl ?_
  refine zr_getIv (x := (I 60 0)) dX7_props_6 zf_X7_9 rfl (hS.has (a := 60) rfl rfl) rfl ?_
  refine zr_icge (tgt := 50) dX7_props_9 (by decide) (fun hb => ?_) (fun hb => ?_)
  · have k := k.1 hb
    refine zr_iload_n dX7_props_50 rfl rfl ?_
    exact zr_ireturn dX7_props_51 rfl rfl k
  · have k := k.2 hb
    refine zr_iload_n dX7_props_12 rfl rfl ?_
    refine zr_iload_n dX7_props_13 rfl rfl ?_
    refine zr_ishr dX7_props_14 ?_
    refine zr_iconst (v := 1) dX7_props_15 (by decide) ?_
    refine zr_iand dX7_props_16 ?_
    refine zr_iconst (v := 1) dX7_props_17 (by decide) ?_
    refine zr_icne (tgt := 44) dX7_props_18 (by decide) (fun hb => ?_) (fun hb => ?_)
    · have k := k.1 hb
      refine zr_iinc (v := (v3 + 1)) dX7_props_44 rfl rfl (Nat.le_of_ble_eq_true rfl) rfl ?_
      refine zr_goto (tgt := 4) dX7_props_47 (by decide) ?_
      exact k
    · have k := k.2 hb
      refine zr_aload_n dX7_props_21 rfl rfl ?_
      refine zr_getR dX7_props_22 zf_X7_19 rfl (hS.has (a := 60) rfl rfl) (hS.ref (a := 62) rfl) ?_
      refine zr_iload_n dX7_props_25 rfl rfl ?_
      obtain ⟨hi1, k⟩ := k
      refine zr_ialdv (x := (I 62 v3.toNatClampNeg)) dX7_props_26 (hS.has (a := 62) rfl rfl) hi1 rfl ?_
      refine zr_iload_n dX7_props_27 rfl rfl ?_
      refine zr_iand dX7_props_28 ?_
      refine zr_callS (As := [.int ((I 62 v3.toNatClampNeg) &&& v1)]) (fr' := fJ6_bitCount_0f7a4) (lo' := lJ6_bitCount_0f7a4) (bc' := 0) (bs' := 0) (bcr := bc) (bsr := bs) dX7_props_29 zs_X7_86 zst_J6_bitCount_0f7a4 rfl rfl (Nat.le_of_ble_eq_true rfl) (Nat.le_of_ble_eq_true rfl) (Nat.le_of_ble_eq_true rfl) (Nat.le_refl _) (Nat.le_refl _) ?_
      refine sp_J6_bitCount_0f7a4 hS  ?_
      show ZW G mX7_props fX7_props lX7_props 32 [zo G 60, .int v1, .int v2, .int v3] [.int (p_J6_bitCount_0f7a4 ((I 62 v3.toNatClampNeg) &&& v1))] S I L bc bs Q
      refine zr_aload_n dX7_props_32 rfl rfl ?_
      refine zr_getR dX7_props_33 zf_X7_28 rfl (hS.has (a := 60) rfl rfl) (hS.ref (a := 64) rfl) ?_
      refine zr_iload_n dX7_props_36 rfl rfl ?_
      refine zr_ialdv (x := (I 64 v3.toNatClampNeg)) dX7_props_37 (hS.has (a := 64) rfl rfl) hi1 rfl ?_
      refine zr_icge (tgt := 44) dX7_props_38 (by decide) (fun hb => ?_) (fun hb => ?_)
      · have k := k.1 hb
        refine zr_iinc (v := (v3 + 1)) dX7_props_44 rfl rfl (Nat.le_of_ble_eq_true rfl) rfl ?_
        refine zr_goto (tgt := 4) dX7_props_47 (by decide) ?_
        exact k
      · have k := k.2 hb
        refine zr_iinc (v := (v2 + 1)) dX7_props_41 rfl rfl (Nat.le_of_ble_eq_true rfl) rfl ?_
        refine zr_iinc (v := (v3 + 1)) dX7_props_44 rfl rfl (Nat.le_of_ble_eq_true rfl) rfl ?_
        refine zr_goto (tgt := 4) dX7_props_47 (by decide) ?_
        exact k
set_option maxHeartbeats 2000000 in
theorem vX7_measureWorst_0 {G : Gp} {bc bs : Nat} {Q : zPost} {S : zSh} {I : zFI} {L : zFL}  (hS : zStd S)  (k : vp_in (((1 : Int32) <<< ((I 60 0) &&& 31)) - (1 : Int32)) (zwl S) ∧ ZW G mX7_measureWorst fX7_measureWorst lX7_measureWorst 20 [zo G 60, .int (((1 : Int32) <<< ((I 60 0) &&& 31)) - (1 : Int32)), .int ((((1 : Int32) <<< ((I 60 0) &&& 31)) - (1 : Int32)) - (1 : Int32)), .null, .null] [] S (u2 I (zwo S) (((1 : Int32) <<< ((I 60 0) &&& 31)) - (1 : Int32)).toNatClampNeg (0 : Int32)) L bc bs Q) : ZW G mX7_measureWorst fX7_measureWorst lX7_measureWorst 0 [zo G 60, .null, .null, .null, .null] [] S I L bc bs Q := by
  refine zr_iconst (v := 1) dX7_measureWorst_0 (by decide) ?_
  refine zr_aload_n dX7_measureWorst_1 rfl rfl ?_
  refine zr_getIv (x := (I 60 0)) dX7_measureWorst_2 zf_X7_9 rfl (hS.has (a := 60) rfl rfl) rfl ?_
  refine zr_ishl dX7_measureWorst_5 ?_
  refine zr_iconst (v := 1) dX7_measureWorst_6 (by decide) ?_
  refine zr_isub dX7_measureWorst_7 ?_
  refine zr_istore_n dX7_measureWorst_8 rfl (Nat.le_of_ble_eq_true rfl) rfl ?_
  refine zr_aload_n dX7_measureWorst_9 rfl rfl ?_
  refine zr_getR dX7_measureWorst_10 zf_X7_35 rfl (hS.has (a := 60) rfl rfl) hS.gr.2.1 ?_
  refine zr_iload_n dX7_measureWorst_13 rfl rfl ?_
  refine zr_iconst (v := 0) dX7_measureWorst_14 (by decide) ?_
  obtain ⟨hi1, k⟩ := k
  refine zr_bast dX7_measureWorst_15 hS.gr.2.2.2.1 hi1 rfl ?_
  refine zr_iload_n dX7_measureWorst_16 rfl rfl ?_
  refine zr_iconst (v := 1) dX7_measureWorst_17 (by decide) ?_
  refine zr_isub dX7_measureWorst_18 ?_
  refine zr_istore_n dX7_measureWorst_19 rfl (Nat.le_of_ble_eq_true rfl) rfl ?_
  exact k
set_option maxHeartbeats 2000000 in
theorem vX7_measureWorst_20 {G : Gp} {bc bs : Nat} {Q : zPost} {S : zSh} {I : zFI} {L : zFL} {v1 : Int32} {v2 : Int32} (hS : zStd S)  (k : ((v2 < 0 → Q none S I L) ∧ (¬ v2 < 0 → vp_in v2 (zwl S) ∧ ((¬ (lg_cmp (L (zwy S) v2.toNatClampNeg) (0 : Int64)) = 0 → ZW G mX7_measureWorst fX7_measureWorst lX7_measureWorst 44 [zo G 60, .int v1, .int v2, .int (16 : Int32), .int (0 : Int32)] [] S I L bc bs Q) ∧ ((lg_cmp (L (zwy S) v2.toNatClampNeg) (0 : Int64)) = 0 → ZW G mX7_measureWorst fX7_measureWorst lX7_measureWorst 20 [zo G 60, .int v1, .int (v2 + (-1)), .null, .null] [] S I L bc bs Q))))) : ZW G mX7_measureWorst fX7_measureWorst lX7_measureWorst 20 [zo G 60, .int v1, .int v2, .null, .null] [] S I L bc bs Q := by
  refine zr_iload_n dX7_measureWorst_20 rfl rfl ?_
  refine zr_iflt (tgt := 127) dX7_measureWorst_21 (by decide) (fun hb => ?_) (fun hb => ?_)
  · have k := k.1 hb
    exact zr_return_ dX7_measureWorst_127 rfl k
  · have k := k.2 hb
    refine zr_aload_n dX7_measureWorst_24 rfl rfl ?_
    refine zr_getR dX7_measureWorst_25 zf_X7_31 rfl (hS.has (a := 60) rfl rfl) hS.gr.1 ?_
    refine zr_iload_n dX7_measureWorst_28 rfl rfl ?_
    obtain ⟨hi2, k⟩ := k
    refine zr_laldv (x := (L (zwy S) v2.toNatClampNeg)) dX7_measureWorst_29 hS.gr.2.2.1 hi2 rfl ?_
    refine zr_lconst (v := 0) dX7_measureWorst_30 (by decide) ?_
    refine zr_lcmp dX7_measureWorst_31 ?_
    refine zr_ifne (tgt := 38) dX7_measureWorst_32 (by decide) (fun hb => ?_) (fun hb => ?_)
    · have k := k.1 hb
      refine zr_bipush (v := 16) dX7_measureWorst_38 (by decide) ?_
      refine zr_istore_n dX7_measureWorst_40 rfl (Nat.le_of_ble_eq_true rfl) rfl ?_
      refine zr_iconst (v := 0) dX7_measureWorst_41 (by decide) ?_
      refine zr_istore dX7_measureWorst_42 (Nat.le_of_ble_eq_true rfl) rfl ?_
      exact k
    · have k := k.2 hb
      refine zr_goto (tgt := 121) dX7_measureWorst_35 (by decide) ?_
      refine zr_iinc (v := (v2 + (-1))) dX7_measureWorst_121 rfl rfl (Nat.le_of_ble_eq_true rfl) rfl ?_
      refine zr_goto (tgt := 20) dX7_measureWorst_124 (by decide) ?_
      exact k
set_option maxHeartbeats 2000000 in
theorem vX7_measureWorst_44 {G : Gp} {bc bs : Nat} {Q : zPost} {S : zSh} {I : zFI} {L : zFL} {v1 : Int32} {v2 : Int32} {v3 : Int32} {v4 : Int32} (hS : zStd S)  (k : (((I 60 0) ≤ v4 → ZC G mX7_props fX7_props lX7_props [zo G 60, .int v2] S I L 0 0 (fun w S' I1 L1 => ∃ r1 : Int32, w = some (.int r1) ∧ S = S' ∧ vp_in v2 (zwl S) ∧ ZW G mX7_measureWorst fX7_measureWorst lX7_measureWorst 20 [zo G 60, .int v1, .int (v2 + (-1)), .null, .null] [] S (u2 I1 (zwo S) v2.toNatClampNeg ((if v3 < r1 then r1 else v3).toInt8.toInt32)) L1 bc bs Q)) ∧ (¬ (I 60 0) ≤ v4 → vp_in v4 16 ∧ ((¬ (v2 &&& (I 139 v4.toNatClampNeg)) = (I 63 v4.toNatClampNeg) → ZW G mX7_measureWorst fX7_measureWorst lX7_measureWorst 44 [zo G 60, .int v1, .int v2, .int v3, .int (v4 + 1)] [] S I L bc bs Q) ∧ ((v2 &&& (I 139 v4.toNatClampNeg)) = (I 63 v4.toNatClampNeg) → vp_in (v2 ||| ((1 : Int32) <<< (v4 &&& 31))) (zwl S) ∧ ((v3 ≤ (I (zwo S) (v2 ||| ((1 : Int32) <<< (v4 &&& 31))).toNatClampNeg) → ZW G mX7_measureWorst fX7_measureWorst lX7_measureWorst 44 [zo G 60, .int v1, .int v2, .int v3, .int (v4 + 1)] [] S I L bc bs Q) ∧ (¬ v3 ≤ (I (zwo S) (v2 ||| ((1 : Int32) <<< (v4 &&& 31))).toNatClampNeg) → ZW G mX7_measureWorst fX7_measureWorst lX7_measureWorst 44 [zo G 60, .int v1, .int v2, .int (I (zwo S) (v2 ||| ((1 : Int32) <<< (v4 &&& 31))).toNatClampNeg), .int (v4 + 1)] [] S I L bc bs Q))))))) : ZW G mX7_measureWorst fX7_measureWorst lX7_measureWorst 44 [zo G 60, .int v1, .int v2, .int v3, .int v4] [] S I L bc bs Q := by
  refine zr_iload dX7_measureWorst_44 rfl ?_
  refine zr_aload_n dX7_measureWorst_46 rfl rfl ?_
  refine zr_getIv (x := (I 60 0)) dX7_measureWorst_47 zf_X7_9 rfl (hS.has (a := 60) rfl rfl) rfl ?_
  refine zr_icge (tgt := 105) dX7_measureWorst_50 (by decide) (fun hb => ?_) (fun hb => ?_)
  · have k := k.1 hb
    refine zr_aload_n dX7_measureWorst_105 rfl rfl ?_
    refine zr_getR dX7_measureWorst_106 zf_X7_35 rfl (hS.has (a := 60) rfl rfl) hS.gr.2.1 ?_
    refine zr_iload_n dX7_measureWorst_109 rfl rfl ?_
    refine zr_iload_n dX7_measureWorst_110 rfl rfl ?_
    refine zr_aload_n dX7_measureWorst_111 rfl rfl ?_
    refine zr_iload_n dX7_measureWorst_112 rfl rfl ?_
    refine zr_callV (As := [.int v2]) (fr' := fX7_props) (lo' := lX7_props) (bc' := 0) (bs' := 0) (bcr := bc) (bsr := bs) dX7_measureWorst_113 zs_X7_97 zi_X7_props zcl_7 (hS.has (a := 60) rfl rfl) rfl rfl (Nat.le_of_ble_eq_true rfl) (Nat.le_of_ble_eq_true rfl) (Nat.le_of_ble_eq_true rfl) (Nat.le_refl _) (Nat.le_refl _) ?_
    refine ZC.mono (fun w S' I1 L1 k => ?_) k
    obtain ⟨r1, rfl, rfl, k⟩ := k
    show ZW G mX7_measureWorst fX7_measureWorst lX7_measureWorst 116 [zo G 60, .int v1, .int v2, .int v3, .int v4] [.int r1, .int v3, .int v2, zo G (zwo S)] S I1 L1 bc bs Q
    refine zr_mmax dX7_measureWorst_116 zmt_X7_100 (Nat.le_of_ble_eq_true rfl) (Nat.le_of_ble_eq_true rfl) (Nat.le_of_ble_eq_true rfl) ?_
    refine zr_i2b dX7_measureWorst_119 rfl ?_
    obtain ⟨hi3, k⟩ := k
    refine zr_bast dX7_measureWorst_120 hS.gr.2.2.2.1 hi3 (pk_nb _) ?_
    refine zr_iinc (v := (v2 + (-1))) dX7_measureWorst_121 rfl rfl (Nat.le_of_ble_eq_true rfl) rfl ?_
    refine zr_goto (tgt := 20) dX7_measureWorst_124 (by decide) ?_
    exact zr_mask [true, true, true, false, false] rfl k
  · have k := k.2 hb
    refine zr_iload_n dX7_measureWorst_53 rfl rfl ?_
    refine zr_aload_n dX7_measureWorst_54 rfl rfl ?_
    refine zr_getR dX7_measureWorst_55 zf_X7_25 rfl (hS.has (a := 60) rfl rfl) (hS.ref (a := 139) rfl) ?_
    refine zr_iload dX7_measureWorst_58 rfl ?_
    obtain ⟨hi4, k⟩ := k
    refine zr_ialdv (x := (I 139 v4.toNatClampNeg)) dX7_measureWorst_60 (hS.has (a := 139) rfl rfl) hi4 rfl ?_
    refine zr_iand dX7_measureWorst_61 ?_
    refine zr_aload_n dX7_measureWorst_62 rfl rfl ?_
    refine zr_getR dX7_measureWorst_63 zf_X7_22 rfl (hS.has (a := 60) rfl rfl) (hS.ref (a := 63) rfl) ?_
    refine zr_iload dX7_measureWorst_66 rfl ?_
    refine zr_ialdv (x := (I 63 v4.toNatClampNeg)) dX7_measureWorst_68 (hS.has (a := 63) rfl rfl) hi4 rfl ?_
    refine zr_icne (tgt := 99) dX7_measureWorst_69 (by decide) (fun hb => ?_) (fun hb => ?_)
    · have k := k.1 hb
      refine zr_iinc (v := (v4 + 1)) dX7_measureWorst_99 rfl rfl (Nat.le_of_ble_eq_true rfl) rfl ?_
      refine zr_goto (tgt := 44) dX7_measureWorst_102 (by decide) ?_
      exact k
    · have k := k.2 hb
      refine zr_aload_n dX7_measureWorst_72 rfl rfl ?_
      refine zr_getR dX7_measureWorst_73 zf_X7_35 rfl (hS.has (a := 60) rfl rfl) hS.gr.2.1 ?_
      refine zr_iload_n dX7_measureWorst_76 rfl rfl ?_
      refine zr_iconst (v := 1) dX7_measureWorst_77 (by decide) ?_
      refine zr_iload dX7_measureWorst_78 rfl ?_
      refine zr_ishl dX7_measureWorst_80 ?_
      refine zr_ior dX7_measureWorst_81 ?_
      obtain ⟨hi5, k⟩ := k
      refine zr_baldv (x := (I (zwo S) (v2 ||| ((1 : Int32) <<< (v4 &&& 31))).toNatClampNeg)) dX7_measureWorst_82 hS.gr.2.2.2.1 hi5 rfl ?_
      refine zr_iload_n dX7_measureWorst_83 rfl rfl ?_
      refine zr_icge (tgt := 99) dX7_measureWorst_84 (by decide) (fun hb => ?_) (fun hb => ?_)
      · have k := k.1 hb
        refine zr_iinc (v := (v4 + 1)) dX7_measureWorst_99 rfl rfl (Nat.le_of_ble_eq_true rfl) rfl ?_
        refine zr_goto (tgt := 44) dX7_measureWorst_102 (by decide) ?_
        exact k
      · have k := k.2 hb
        refine zr_aload_n dX7_measureWorst_87 rfl rfl ?_
        refine zr_getR dX7_measureWorst_88 zf_X7_35 rfl (hS.has (a := 60) rfl rfl) hS.gr.2.1 ?_
        refine zr_iload_n dX7_measureWorst_91 rfl rfl ?_
        refine zr_iconst (v := 1) dX7_measureWorst_92 (by decide) ?_
        refine zr_iload dX7_measureWorst_93 rfl ?_
        refine zr_ishl dX7_measureWorst_95 ?_
        refine zr_ior dX7_measureWorst_96 ?_
        refine zr_baldv (x := (I (zwo S) (v2 ||| ((1 : Int32) <<< (v4 &&& 31))).toNatClampNeg)) dX7_measureWorst_97 hS.gr.2.2.2.1 hi5 rfl ?_
        refine zr_istore_n dX7_measureWorst_98 rfl (Nat.le_of_ble_eq_true rfl) rfl ?_
        refine zr_iinc (v := (v4 + 1)) dX7_measureWorst_99 rfl rfl (Nat.le_of_ble_eq_true rfl) rfl ?_
        refine zr_goto (tgt := 44) dX7_measureWorst_102 (by decide) ?_
        exact k
set_option maxHeartbeats 2000000 in
theorem vX7_keepSteps_0 {G : Gp} {bc bs : Nat} {Q : zPost} {S : zSh} {I : zFI} {L : zFL} {f1 : Nat} {v2 : Int32} (hS : zStd S) (hf1 : zFm f1) (k : ZW G mX7_keepSteps fX7_keepSteps lX7_keepSteps 5 [zo G 60, zo G f1, .int v2, .int (0 : Int32), .int (0 : Int32), .null] [] S I L bc bs Q) : ZW G mX7_keepSteps fX7_keepSteps lX7_keepSteps 0 [zo G 60, zo G f1, .int v2, .null, .null, .null] [] S I L bc bs Q := by
  refine zr_iconst (v := 0) dX7_keepSteps_0 (by decide) ?_
  refine zr_istore_n dX7_keepSteps_1 rfl (Nat.le_of_ble_eq_true rfl) rfl ?_
  refine zr_iconst (v := 0) dX7_keepSteps_2 (by decide) ?_
  refine zr_istore dX7_keepSteps_3 (Nat.le_of_ble_eq_true rfl) rfl ?_
  exact k
set_option maxHeartbeats 2000000 in
theorem vX7_keepSteps_5 {G : Gp} {bc bs : Nat} {Q : zPost} {S : zSh} {I : zFI} {L : zFL} {f1 : Nat} {v2 : Int32} {v3 : Int32} {v4 : Int32} (hS : zStd S) (hf1 : zFm f1) (k : (((I 60 0) ≤ v4 → Q none S I L) ∧ (¬ (I 60 0) ≤ v4 → ZW G mX7_keepSteps fX7_keepSteps lX7_keepSteps 17 [zo G 60, zo G f1, .int v2, .int v3, .int v4, .int (0 : Int32)] [] S I L bc bs Q))) : ZW G mX7_keepSteps fX7_keepSteps lX7_keepSteps 5 [zo G 60, zo G f1, .int v2, .int v3, .int v4, .null] [] S I L bc bs Q := by
  refine zr_iload dX7_keepSteps_5 rfl ?_
  refine zr_aload_n dX7_keepSteps_7 rfl rfl ?_
  refine zr_getIv (x := (I 60 0)) dX7_keepSteps_8 zf_X7_9 rfl (hS.has (a := 60) rfl rfl) rfl ?_
  refine zr_icge (tgt := 101) dX7_keepSteps_11 (by decide) (fun hb => ?_) (fun hb => ?_)
  · have k := k.1 hb
    exact zr_return_ dX7_keepSteps_101 rfl k
  · have k := k.2 hb
    refine zr_iconst (v := 0) dX7_keepSteps_14 (by decide) ?_
    refine zr_istore dX7_keepSteps_15 (Nat.le_of_ble_eq_true rfl) rfl ?_
    exact k
set_option maxHeartbeats 2000000 in
theorem vX7_keepSteps_17 {G : Gp} {bc bs : Nat} {Q : zPost} {S : zSh} {I : zFI} {L : zFL} {f1 : Nat} {v2 : Int32} {v3 : Int32} {v4 : Int32} {v5 : Int32} (hS : zStd S) (hf1 : zFm f1) (k : (((I 60 0) ≤ v5 → ZW G mX7_keepSteps fX7_keepSteps lX7_keepSteps 5 [zo G 60, zo G f1, .int v2, .int v3, .int (v4 + 1), .null] [] S I L bc bs Q) ∧ (¬ (I 60 0) ≤ v5 → vp_in v5 16 ∧ ((¬ (v3 &&& (I 139 v5.toNatClampNeg)) = (I 63 v5.toNatClampNeg) → ZW G mX7_keepSteps fX7_keepSteps lX7_keepSteps 17 [zo G 60, zo G f1, .int v2, .int v3, .int v4, .int (v5 + 1)] [] S I L bc bs Q) ∧ ((v3 &&& (I 139 v5.toNatClampNeg)) = (I 63 v5.toNatClampNeg) → vp_in (v3 ||| ((1 : Int32) <<< (v5 &&& 31))) (zwl S) ∧ vp_in (0 : Int32) (zwl S) ∧ (((I (zwo S) (0 : Int32).toNatClampNeg) < (I (zwo S) (v3 ||| ((1 : Int32) <<< (v5 &&& 31))).toNatClampNeg) → ZW G mX7_keepSteps fX7_keepSteps lX7_keepSteps 17 [zo G 60, zo G f1, .int v2, .int v3, .int v4, .int (v5 + 1)] [] S I L bc bs Q) ∧ (¬ (I (zwo S) (0 : Int32).toNatClampNeg) < (I (zwo S) (v3 ||| ((1 : Int32) <<< (v5 &&& 31))).toNatClampNeg) → ZC G mX3_keepStep fX3_keepStep lX3_keepStep [zo G f1, .int v2, .int v4, .int (I 61 v5.toNatClampNeg)] S I L 0 0 (fun w S' I1 L1 => w = none ∧ S = S' ∧ ZW G mX7_keepSteps fX7_keepSteps lX7_keepSteps 5 [zo G 60, zo G f1, .int v2, .int (v3 ||| ((1 : Int32) <<< (v5 &&& 31))), .int (v4 + 1), .null] [] S I1 L1 bc bs Q)))))))) : ZW G mX7_keepSteps fX7_keepSteps lX7_keepSteps 17 [zo G 60, zo G f1, .int v2, .int v3, .int v4, .int v5] [] S I L bc bs Q := by
  refine zr_iload dX7_keepSteps_17 rfl ?_
  refine zr_aload_n dX7_keepSteps_19 rfl rfl ?_
  refine zr_getIv (x := (I 60 0)) dX7_keepSteps_20 zf_X7_9 rfl (hS.has (a := 60) rfl rfl) rfl ?_
  refine zr_icge (tgt := 95) dX7_keepSteps_23 (by decide) (fun hb => ?_) (fun hb => ?_)
  · have k := k.1 hb
    refine zr_iinc (v := (v4 + 1)) dX7_keepSteps_95 rfl rfl (Nat.le_of_ble_eq_true rfl) rfl ?_
    refine zr_goto (tgt := 5) dX7_keepSteps_98 (by decide) ?_
    exact zr_mask [true, true, true, true, true, false] rfl k
  · have k := k.2 hb
    refine zr_iload_n dX7_keepSteps_26 rfl rfl ?_
    refine zr_aload_n dX7_keepSteps_27 rfl rfl ?_
    refine zr_getR dX7_keepSteps_28 zf_X7_25 rfl (hS.has (a := 60) rfl rfl) (hS.ref (a := 139) rfl) ?_
    refine zr_iload dX7_keepSteps_31 rfl ?_
    obtain ⟨hi1, k⟩ := k
    refine zr_ialdv (x := (I 139 v5.toNatClampNeg)) dX7_keepSteps_33 (hS.has (a := 139) rfl rfl) hi1 rfl ?_
    refine zr_iand dX7_keepSteps_34 ?_
    refine zr_aload_n dX7_keepSteps_35 rfl rfl ?_
    refine zr_getR dX7_keepSteps_36 zf_X7_22 rfl (hS.has (a := 60) rfl rfl) (hS.ref (a := 63) rfl) ?_
    refine zr_iload dX7_keepSteps_39 rfl ?_
    refine zr_ialdv (x := (I 63 v5.toNatClampNeg)) dX7_keepSteps_41 (hS.has (a := 63) rfl rfl) hi1 rfl ?_
    refine zr_icne (tgt := 89) dX7_keepSteps_42 (by decide) (fun hb => ?_) (fun hb => ?_)
    · have k := k.1 hb
      refine zr_iinc (v := (v5 + 1)) dX7_keepSteps_89 rfl rfl (Nat.le_of_ble_eq_true rfl) rfl ?_
      refine zr_goto (tgt := 17) dX7_keepSteps_92 (by decide) ?_
      exact k
    · have k := k.2 hb
      refine zr_aload_n dX7_keepSteps_45 rfl rfl ?_
      refine zr_getR dX7_keepSteps_46 zf_X7_35 rfl (hS.has (a := 60) rfl rfl) hS.gr.2.1 ?_
      refine zr_iload_n dX7_keepSteps_49 rfl rfl ?_
      refine zr_iconst (v := 1) dX7_keepSteps_50 (by decide) ?_
      refine zr_iload dX7_keepSteps_51 rfl ?_
      refine zr_ishl dX7_keepSteps_53 ?_
      refine zr_ior dX7_keepSteps_54 ?_
      obtain ⟨hi2, k⟩ := k
      refine zr_baldv (x := (I (zwo S) (v3 ||| ((1 : Int32) <<< (v5 &&& 31))).toNatClampNeg)) dX7_keepSteps_55 hS.gr.2.2.2.1 hi2 rfl ?_
      refine zr_aload_n dX7_keepSteps_56 rfl rfl ?_
      refine zr_getR dX7_keepSteps_57 zf_X7_35 rfl (hS.has (a := 60) rfl rfl) hS.gr.2.1 ?_
      refine zr_iconst (v := 0) dX7_keepSteps_60 (by decide) ?_
      obtain ⟨hi3, k⟩ := k
      refine zr_baldv (x := (I (zwo S) (0 : Int32).toNatClampNeg)) dX7_keepSteps_61 hS.gr.2.2.2.1 hi3 rfl ?_
      refine zr_icgt (tgt := 89) dX7_keepSteps_62 (by decide) (fun hb => ?_) (fun hb => ?_)
      · have k := k.1 hb
        refine zr_iinc (v := (v5 + 1)) dX7_keepSteps_89 rfl rfl (Nat.le_of_ble_eq_true rfl) rfl ?_
        refine zr_goto (tgt := 17) dX7_keepSteps_92 (by decide) ?_
        exact k
      · have k := k.2 hb
        refine zr_aload_n dX7_keepSteps_65 rfl rfl ?_
        refine zr_iload_n dX7_keepSteps_66 rfl rfl ?_
        refine zr_iload dX7_keepSteps_67 rfl ?_
        refine zr_aload_n dX7_keepSteps_69 rfl rfl ?_
        refine zr_getR dX7_keepSteps_70 zf_X7_15 rfl (hS.has (a := 60) rfl rfl) (hS.ref (a := 61) rfl) ?_
        refine zr_iload dX7_keepSteps_73 rfl ?_
        refine zr_ialdv (x := (I 61 v5.toNatClampNeg)) dX7_keepSteps_75 (hS.has (a := 61) rfl rfl) hi1 rfl ?_
        refine zr_callV (As := [.int v2, .int v4, .int (I 61 v5.toNatClampNeg)]) (fr' := fX3_keepStep) (lo' := lX3_keepStep) (bc' := 0) (bs' := 0) (bcr := bc) (bsr := bs) dX7_keepSteps_76 zs_X7_103 zi_X3_keepStep zcl_3 (hS.hasF hf1 0 rfl rfl rfl) rfl rfl (Nat.le_of_ble_eq_true rfl) (Nat.le_of_ble_eq_true rfl) (Nat.le_of_ble_eq_true rfl) (Nat.le_refl _) (Nat.le_refl _) ?_
        refine ZC.mono (fun w S' I1 L1 k => ?_) k
        obtain ⟨rfl, rfl, k⟩ := k
        show ZW G mX7_keepSteps fX7_keepSteps lX7_keepSteps 79 [zo G 60, zo G f1, .int v2, .int v3, .int v4, .int v5] [] S I1 L1 bc bs Q
        refine zr_iload_n dX7_keepSteps_79 rfl rfl ?_
        refine zr_iconst (v := 1) dX7_keepSteps_80 (by decide) ?_
        refine zr_iload dX7_keepSteps_81 rfl ?_
        refine zr_ishl dX7_keepSteps_83 ?_
        refine zr_ior dX7_keepSteps_84 ?_
        refine zr_istore_n dX7_keepSteps_85 rfl (Nat.le_of_ble_eq_true rfl) rfl ?_
        refine zr_goto (tgt := 95) dX7_keepSteps_86 (by decide) ?_
        refine zr_iinc (v := (v4 + 1)) dX7_keepSteps_95 rfl rfl (Nat.le_of_ble_eq_true rfl) rfl ?_
        refine zr_goto (tgt := 5) dX7_keepSteps_98 (by decide) ?_
        exact zr_mask [true, true, true, true, true, false] rfl k
set_option maxHeartbeats 2000000 in
theorem vX7_raise_0 {G : Gp} {bc bs : Nat} {Q : zPost} {S : zSh} {I : zFI} {L : zFL} {f1 : Nat} {c4 : Nat} {v2 : Int32} (hS : zStd S) (hf1 : zFm f1) (hc4 : zCu c4) (k : ZC G mX7_take fX7_take lX7_take [zo G 60, zo G f1, .int v2] S I L 0 0 (fun w S' I1 L1 => w = none ∧ S = S' ∧ ZC G mX7_link fX7_link lX7_link [zo G 60, zo G f1, zo G 10, zo G c4] S I1 L1 0 0 (fun w S' I2 L2 => w = none ∧ S = S' ∧ ZC G mX7_makeRoom fX7_makeRoom lX7_makeRoom [zo G 60] S I2 L2 0 0 (fun w S' I3 L3 => w = none ∧ S = S' ∧ ZC G mX7_countWays fX7_countWays lX7_countWays [zo G 60] S I3 L3 0 0 (fun w S' I4 L4 => w = none ∧ S = S' ∧ vp_in (((1 : Int32) <<< ((I4 60 0) &&& 31)) - (1 : Int32)) (zwl S) ∧ ((¬ (lg_cmp (L4 (zwy S) (((1 : Int32) <<< ((I4 60 0) &&& 31)) - (1 : Int32)).toNatClampNeg) (0 : Int64)) = 0 → ZC G mX7_measureWorst fX7_measureWorst lX7_measureWorst [zo G 60] S I4 L4 0 0 (fun w S' I5 L5 => w = none ∧ S = S' ∧ vp_in (0 : Int32) (zwl S) ∧ ZC G mX3_keepRaising fX3_keepRaising lX3_keepRaising [zo G f1, .int v2, .int (I5 (zwo S) (0 : Int32).toNatClampNeg), .long (L4 (zwy S) (((1 : Int32) <<< ((I4 60 0) &&& 31)) - (1 : Int32)).toNatClampNeg)] S I5 L5 0 0 (fun w S' I6 L6 => w = none ∧ S = S' ∧ ZC G mX7_keepSteps fX7_keepSteps lX7_keepSteps [zo G 60, zo G f1, .int v2] S I6 L6 0 0 (fun w S' I7 L7 => w = none ∧ S = S' ∧ Q none S I7 L7)))) ∧ ((lg_cmp (L4 (zwy S) (((1 : Int32) <<< ((I4 60 0) &&& 31)) - (1 : Int32)).toNatClampNeg) (0 : Int64)) = 0 → ZC G mX3_keepRaising fX3_keepRaising lX3_keepRaising [zo G f1, .int v2, .int (-1 : Int32), .long (0 : Int64)] S I4 L4 0 0 (fun w S' I8 L8 => w = none ∧ S = S' ∧ Q none S I8 L8)))))))) : ZW G mX7_raise fX7_raise lX7_raise 0 [zo G 60, zo G f1, .int v2, zo G 10, zo G c4, .null, .null, .null] [] S I L bc bs Q := by
  refine zr_aload_n dX7_raise_0 rfl rfl ?_
  refine zr_aload_n dX7_raise_1 rfl rfl ?_
  refine zr_iload_n dX7_raise_2 rfl rfl ?_
  refine zr_callV (As := [zo G f1, .int v2]) (fr' := fX7_take) (lo' := lX7_take) (bc' := 0) (bs' := 0) (bcr := bc) (bsr := bs) dX7_raise_3 zs_X7_39 zi_X7_take zcl_7 (hS.has (a := 60) rfl rfl) rfl rfl (Nat.le_of_ble_eq_true rfl) (Nat.le_of_ble_eq_true rfl) (Nat.le_of_ble_eq_true rfl) (Nat.le_refl _) (Nat.le_refl _) ?_
  refine ZC.mono (fun w S' I1 L1 k => ?_) k
  obtain ⟨rfl, rfl, k⟩ := k
  show ZW G mX7_raise fX7_raise lX7_raise 6 [zo G 60, zo G f1, .int v2, zo G 10, zo G c4, .null, .null, .null] [] S I1 L1 bc bs Q
  refine zr_aload_n dX7_raise_6 rfl rfl ?_
  refine zr_aload_n dX7_raise_7 rfl rfl ?_
  refine zr_aload_n dX7_raise_8 rfl rfl ?_
  refine zr_aload dX7_raise_9 rfl ?_
  refine zr_callV (As := [zo G f1, zo G 10, zo G c4]) (fr' := fX7_link) (lo' := lX7_link) (bc' := 0) (bs' := 0) (bcr := bc) (bsr := bs) dX7_raise_11 zs_X7_43 zi_X7_link zcl_7 (hS.has (a := 60) rfl rfl) rfl rfl (Nat.le_of_ble_eq_true rfl) (Nat.le_of_ble_eq_true rfl) (Nat.le_of_ble_eq_true rfl) (Nat.le_refl _) (Nat.le_refl _) ?_
  refine ZC.mono (fun w S' I2 L2 k => ?_) k
  obtain ⟨rfl, rfl, k⟩ := k
  show ZW G mX7_raise fX7_raise lX7_raise 14 [zo G 60, zo G f1, .int v2, zo G 10, zo G c4, .null, .null, .null] [] S I2 L2 bc bs Q
  refine zr_aload_n dX7_raise_14 rfl rfl ?_
  refine zr_callV (As := []) (fr' := fX7_makeRoom) (lo' := lX7_makeRoom) (bc' := 0) (bs' := 0) (bcr := bc) (bsr := bs) dX7_raise_15 zs_X7_47 zi_X7_makeRoom zcl_7 (hS.has (a := 60) rfl rfl) rfl rfl (Nat.le_of_ble_eq_true rfl) (Nat.le_of_ble_eq_true rfl) (Nat.le_of_ble_eq_true rfl) (Nat.le_refl _) (Nat.le_refl _) ?_
  refine ZC.mono (fun w S' I3 L3 k => ?_) k
  obtain ⟨rfl, rfl, k⟩ := k
  show ZW G mX7_raise fX7_raise lX7_raise 18 [zo G 60, zo G f1, .int v2, zo G 10, zo G c4, .null, .null, .null] [] S I3 L3 bc bs Q
  refine zr_aload_n dX7_raise_18 rfl rfl ?_
  refine zr_callV (As := []) (fr' := fX7_countWays) (lo' := lX7_countWays) (bc' := 0) (bs' := 0) (bcr := bc) (bsr := bs) dX7_raise_19 zs_X7_50 zi_X7_countWays zcl_7 (hS.has (a := 60) rfl rfl) rfl rfl (Nat.le_of_ble_eq_true rfl) (Nat.le_of_ble_eq_true rfl) (Nat.le_of_ble_eq_true rfl) (Nat.le_refl _) (Nat.le_refl _) ?_
  refine ZC.mono (fun w S' I4 L4 k => ?_) k
  obtain ⟨rfl, rfl, k⟩ := k
  show ZW G mX7_raise fX7_raise lX7_raise 22 [zo G 60, zo G f1, .int v2, zo G 10, zo G c4, .null, .null, .null] [] S I4 L4 bc bs Q
  refine zr_iconst (v := 1) dX7_raise_22 (by decide) ?_
  refine zr_aload_n dX7_raise_23 rfl rfl ?_
  refine zr_getIv (x := (I4 60 0)) dX7_raise_24 zf_X7_9 rfl (hS.has (a := 60) rfl rfl) rfl ?_
  refine zr_ishl dX7_raise_27 ?_
  refine zr_iconst (v := 1) dX7_raise_28 (by decide) ?_
  refine zr_isub dX7_raise_29 ?_
  refine zr_istore dX7_raise_30 (Nat.le_of_ble_eq_true rfl) rfl ?_
  refine zr_aload_n dX7_raise_32 rfl rfl ?_
  refine zr_getR dX7_raise_33 zf_X7_31 rfl (hS.has (a := 60) rfl rfl) hS.gr.1 ?_
  refine zr_iload dX7_raise_36 rfl ?_
  obtain ⟨hi1, k⟩ := k
  refine zr_laldv (x := (L4 (zwy S) (((1 : Int32) <<< ((I4 60 0) &&& 31)) - (1 : Int32)).toNatClampNeg)) dX7_raise_38 hS.gr.2.2.1 hi1 rfl ?_
  refine zr_lconst (v := 0) dX7_raise_39 (by decide) ?_
  refine zr_lcmp dX7_raise_40 ?_
  refine zr_ifne (tgt := 52) dX7_raise_41 (by decide) (fun hb => ?_) (fun hb => ?_)
  · have k := k.1 hb
    refine zr_aload_n dX7_raise_52 rfl rfl ?_
    refine zr_getR dX7_raise_53 zf_X7_31 rfl (hS.has (a := 60) rfl rfl) hS.gr.1 ?_
    refine zr_iload dX7_raise_56 rfl ?_
    refine zr_laldv (x := (L4 (zwy S) (((1 : Int32) <<< ((I4 60 0) &&& 31)) - (1 : Int32)).toNatClampNeg)) dX7_raise_58 hS.gr.2.2.1 hi1 rfl ?_
    refine zr_lstore dX7_raise_59 (Nat.le_of_ble_eq_true rfl) rfl ?_
    refine zr_aload_n dX7_raise_61 rfl rfl ?_
    refine zr_callV (As := []) (fr' := fX7_measureWorst) (lo' := lX7_measureWorst) (bc' := 0) (bs' := 0) (bcr := bc) (bsr := bs) dX7_raise_62 zs_X7_59 zi_X7_measureWorst zcl_7 (hS.has (a := 60) rfl rfl) rfl rfl (Nat.le_of_ble_eq_true rfl) (Nat.le_of_ble_eq_true rfl) (Nat.le_of_ble_eq_true rfl) (Nat.le_refl _) (Nat.le_refl _) ?_
    refine ZC.mono (fun w S' I5 L5 k => ?_) k
    obtain ⟨rfl, rfl, k⟩ := k
    show ZW G mX7_raise fX7_raise lX7_raise 65 [zo G 60, zo G f1, .int v2, zo G 10, zo G c4, .int (((1 : Int32) <<< ((I4 60 0) &&& 31)) - (1 : Int32)), .long (L4 (zwy S) (((1 : Int32) <<< ((I4 60 0) &&& 31)) - (1 : Int32)).toNatClampNeg), .null] [] S I5 L5 bc bs Q
    refine zr_aload_n dX7_raise_65 rfl rfl ?_
    refine zr_iload_n dX7_raise_66 rfl rfl ?_
    refine zr_aload_n dX7_raise_67 rfl rfl ?_
    refine zr_getR dX7_raise_68 zf_X7_35 rfl (hS.has (a := 60) rfl rfl) hS.gr.2.1 ?_
    refine zr_iconst (v := 0) dX7_raise_71 (by decide) ?_
    obtain ⟨hi2, k⟩ := k
    refine zr_baldv (x := (I5 (zwo S) (0 : Int32).toNatClampNeg)) dX7_raise_72 hS.gr.2.2.2.1 hi2 rfl ?_
    refine zr_lload dX7_raise_73 rfl ?_
    refine zr_callV (As := [.int v2, .int (I5 (zwo S) (0 : Int32).toNatClampNeg), .long (L4 (zwy S) (((1 : Int32) <<< ((I4 60 0) &&& 31)) - (1 : Int32)).toNatClampNeg)]) (fr' := fX3_keepRaising) (lo' := lX3_keepRaising) (bc' := 0) (bs' := 0) (bcr := bc) (bsr := bs) dX7_raise_75 zs_X7_53 zi_X3_keepRaising zcl_3 (hS.hasF hf1 0 rfl rfl rfl) rfl rfl (Nat.le_of_ble_eq_true rfl) (Nat.le_of_ble_eq_true rfl) (Nat.le_of_ble_eq_true rfl) (Nat.le_refl _) (Nat.le_refl _) ?_
    refine ZC.mono (fun w S' I6 L6 k => ?_) k
    obtain ⟨rfl, rfl, k⟩ := k
    show ZW G mX7_raise fX7_raise lX7_raise 78 [zo G 60, zo G f1, .int v2, zo G 10, zo G c4, .int (((1 : Int32) <<< ((I4 60 0) &&& 31)) - (1 : Int32)), .long (L4 (zwy S) (((1 : Int32) <<< ((I4 60 0) &&& 31)) - (1 : Int32)).toNatClampNeg), .null] [] S I6 L6 bc bs Q
    refine zr_aload_n dX7_raise_78 rfl rfl ?_
    refine zr_aload_n dX7_raise_79 rfl rfl ?_
    refine zr_iload_n dX7_raise_80 rfl rfl ?_
    refine zr_callV (As := [zo G f1, .int v2]) (fr' := fX7_keepSteps) (lo' := lX7_keepSteps) (bc' := 0) (bs' := 0) (bcr := bc) (bsr := bs) dX7_raise_81 zs_X7_62 zi_X7_keepSteps zcl_7 (hS.has (a := 60) rfl rfl) rfl rfl (Nat.le_of_ble_eq_true rfl) (Nat.le_of_ble_eq_true rfl) (Nat.le_of_ble_eq_true rfl) (Nat.le_refl _) (Nat.le_refl _) ?_
    refine ZC.mono (fun w S' I7 L7 k => ?_) k
    obtain ⟨rfl, rfl, k⟩ := k
    show ZW G mX7_raise fX7_raise lX7_raise 84 [zo G 60, zo G f1, .int v2, zo G 10, zo G c4, .int (((1 : Int32) <<< ((I4 60 0) &&& 31)) - (1 : Int32)), .long (L4 (zwy S) (((1 : Int32) <<< ((I4 60 0) &&& 31)) - (1 : Int32)).toNatClampNeg), .null] [] S I7 L7 bc bs Q
    exact zr_return_ dX7_raise_84 rfl k
  · have k := k.2 hb
    refine zr_aload_n dX7_raise_44 rfl rfl ?_
    refine zr_iload_n dX7_raise_45 rfl rfl ?_
    refine zr_iconst (v := -1) dX7_raise_46 (by decide) ?_
    refine zr_lconst (v := 0) dX7_raise_47 (by decide) ?_
    refine zr_callV (As := [.int v2, .int (-1 : Int32), .long (0 : Int64)]) (fr' := fX3_keepRaising) (lo' := lX3_keepRaising) (bc' := 0) (bs' := 0) (bcr := bc) (bsr := bs) dX7_raise_48 zs_X7_53 zi_X3_keepRaising zcl_3 (hS.hasF hf1 0 rfl rfl rfl) rfl rfl (Nat.le_of_ble_eq_true rfl) (Nat.le_of_ble_eq_true rfl) (Nat.le_of_ble_eq_true rfl) (Nat.le_refl _) (Nat.le_refl _) ?_
    refine ZC.mono (fun w S' I8 L8 k => ?_) k
    obtain ⟨rfl, rfl, k⟩ := k
    show ZW G mX7_raise fX7_raise lX7_raise 51 [zo G 60, zo G f1, .int v2, zo G 10, zo G c4, .int (((1 : Int32) <<< ((I4 60 0) &&& 31)) - (1 : Int32)), .null, .null] [] S I8 L8 bc bs Q
    exact zr_return_ dX7_raise_51 rfl k
set_option maxHeartbeats 2000000 in
theorem vX8_tellMaster_0 {G : Gp} {bc bs : Nat} {Q : zPost} {S : zSh} {I : zFI} {L : zFL} {v1 : Int32} {v2 : Int32} (hS : zStd S)  (k : ((v1 < 0 → Q (some (.int (0 : Int32))) S I L) ∧ (¬ v1 < 0 → (((200 : Int32) ≤ v1 → Q (some (.int (0 : Int32))) S I L) ∧ (¬ (200 : Int32) ≤ v1 → ((v2 < (-1 : Int32) → Q (some (.int (0 : Int32))) S I L) ∧ (¬ v2 < (-1 : Int32) → ((v2 ≤ (99 : Int32) → vp_in v1 200 ∧ Q (some (.int (1 : Int32))) S (u2 I 68 v1.toNatClampNeg v2) L) ∧ (¬ v2 ≤ (99 : Int32) → Q (some (.int (0 : Int32))) S I L))))))))) : ZW G mX8_tellMaster fX8_tellMaster lX8_tellMaster 0 [zo G 67, .int v1, .int v2] [] S I L bc bs Q := by
  refine zr_iload_n dX8_tellMaster_0 rfl rfl ?_
  refine zr_iflt (tgt := 22) dX8_tellMaster_1 (by decide) (fun hb => ?_) (fun hb => ?_)
  · have k := k.1 hb
    refine zr_iconst (v := 0) dX8_tellMaster_22 (by decide) ?_
    exact zr_ireturn dX8_tellMaster_23 rfl rfl k
  · have k := k.2 hb
    refine zr_iload_n dX8_tellMaster_4 rfl rfl ?_
    refine zr_sipush (v := 200) dX8_tellMaster_5 (by decide) ?_
    refine zr_icge (tgt := 22) dX8_tellMaster_8 (by decide) (fun hb => ?_) (fun hb => ?_)
    · have k := k.1 hb
      refine zr_iconst (v := 0) dX8_tellMaster_22 (by decide) ?_
      exact zr_ireturn dX8_tellMaster_23 rfl rfl k
    · have k := k.2 hb
      refine zr_iload_n dX8_tellMaster_11 rfl rfl ?_
      refine zr_iconst (v := -1) dX8_tellMaster_12 (by decide) ?_
      refine zr_iclt (tgt := 22) dX8_tellMaster_13 (by decide) (fun hb => ?_) (fun hb => ?_)
      · have k := k.1 hb
        refine zr_iconst (v := 0) dX8_tellMaster_22 (by decide) ?_
        exact zr_ireturn dX8_tellMaster_23 rfl rfl k
      · have k := k.2 hb
        refine zr_iload_n dX8_tellMaster_16 rfl rfl ?_
        refine zr_bipush (v := 99) dX8_tellMaster_17 (by decide) ?_
        refine zr_icle (tgt := 24) dX8_tellMaster_19 (by decide) (fun hb => ?_) (fun hb => ?_)
        · have k := k.1 hb
          refine zr_aload_n dX8_tellMaster_24 rfl rfl ?_
          refine zr_getR dX8_tellMaster_25 zf_X8_11 rfl (hS.has (a := 67) rfl rfl) (hS.ref (a := 68) rfl) ?_
          refine zr_iload_n dX8_tellMaster_28 rfl rfl ?_
          refine zr_iload_n dX8_tellMaster_29 rfl rfl ?_
          obtain ⟨hi1, k⟩ := k
          refine zr_iast dX8_tellMaster_30 (hS.has (a := 68) rfl rfl) hi1 ?_
          refine zr_iconst (v := 1) dX8_tellMaster_31 (by decide) ?_
          exact zr_ireturn dX8_tellMaster_32 rfl rfl k
        · have k := k.2 hb
          refine zr_iconst (v := 0) dX8_tellMaster_22 (by decide) ?_
          exact zr_ireturn dX8_tellMaster_23 rfl rfl k
set_option maxHeartbeats 2000000 in
theorem vX8_addRing_0 {G : Gp} {bc bs : Nat} {Q : zPost} {S : zSh} {I : zFI} {L : zFL} {v1 : Int32} {v2 : Int32} {v3 : Int32} (hS : zStd S)  (k : ((v1 < 0 → Q (some (.int (-1 : Int32))) S I L) ∧ (¬ v1 < 0 → (((16 : Int32) ≤ v1 → Q (some (.int (-1 : Int32))) S I L) ∧ (¬ (16 : Int32) ≤ v1 → ((v2 < 0 → Q (some (.int (-1 : Int32))) S I L) ∧ (¬ v2 < 0 → (((99 : Int32) < v2 → Q (some (.int (-1 : Int32))) S I L) ∧ (¬ (99 : Int32) < v2 → vp_in v1 16 ∧ (((I 69 v1.toNatClampNeg) < (24 : Int32) → vp_in ((v1 * (24 : Int32)) + (I 69 v1.toNatClampNeg)) 384 ∧ Q (some (.int ((u2 (u2 (u2 I 70 ((v1 * (24 : Int32)) + (I 69 v1.toNatClampNeg)).toNatClampNeg v2) 71 ((v1 * (24 : Int32)) + (I 69 v1.toNatClampNeg)).toNatClampNeg v3) 69 v1.toNatClampNeg ((I 69 v1.toNatClampNeg) + (1 : Int32))) 69 v1.toNatClampNeg))) S (u2 (u2 (u2 I 70 ((v1 * (24 : Int32)) + (I 69 v1.toNatClampNeg)).toNatClampNeg v2) 71 ((v1 * (24 : Int32)) + (I 69 v1.toNatClampNeg)).toNatClampNeg v3) 69 v1.toNatClampNeg ((I 69 v1.toNatClampNeg) + (1 : Int32))) L) ∧ (¬ (I 69 v1.toNatClampNeg) < (24 : Int32) → Q (some (.int (-1 : Int32))) S I L))))))))))) : ZW G mX8_addRing fX8_addRing lX8_addRing 0 [zo G 67, .int v1, .int v2, .int v3] [] S I L bc bs Q := by
  refine zr_iload_n dX8_addRing_0 rfl rfl ?_
  refine zr_iflt (tgt := 31) dX8_addRing_1 (by decide) (fun hb => ?_) (fun hb => ?_)
  · have k := k.1 hb
    refine zr_iconst (v := -1) dX8_addRing_31 (by decide) ?_
    exact zr_ireturn dX8_addRing_32 rfl rfl k
  · have k := k.2 hb
    refine zr_iload_n dX8_addRing_4 rfl rfl ?_
    refine zr_bipush (v := 16) dX8_addRing_5 (by decide) ?_
    refine zr_icge (tgt := 31) dX8_addRing_7 (by decide) (fun hb => ?_) (fun hb => ?_)
    · have k := k.1 hb
      refine zr_iconst (v := -1) dX8_addRing_31 (by decide) ?_
      exact zr_ireturn dX8_addRing_32 rfl rfl k
    · have k := k.2 hb
      refine zr_iload_n dX8_addRing_10 rfl rfl ?_
      refine zr_iflt (tgt := 31) dX8_addRing_11 (by decide) (fun hb => ?_) (fun hb => ?_)
      · have k := k.1 hb
        refine zr_iconst (v := -1) dX8_addRing_31 (by decide) ?_
        exact zr_ireturn dX8_addRing_32 rfl rfl k
      · have k := k.2 hb
        refine zr_iload_n dX8_addRing_14 rfl rfl ?_
        refine zr_bipush (v := 99) dX8_addRing_15 (by decide) ?_
        refine zr_icgt (tgt := 31) dX8_addRing_17 (by decide) (fun hb => ?_) (fun hb => ?_)
        · have k := k.1 hb
          refine zr_iconst (v := -1) dX8_addRing_31 (by decide) ?_
          exact zr_ireturn dX8_addRing_32 rfl rfl k
        · have k := k.2 hb
          refine zr_aload_n dX8_addRing_20 rfl rfl ?_
          refine zr_getR dX8_addRing_21 zf_X8_15 rfl (hS.has (a := 67) rfl rfl) (hS.ref (a := 69) rfl) ?_
          refine zr_iload_n dX8_addRing_24 rfl rfl ?_
          obtain ⟨hi1, k⟩ := k
          refine zr_ialdv (x := (I 69 v1.toNatClampNeg)) dX8_addRing_25 (hS.has (a := 69) rfl rfl) hi1 rfl ?_
          refine zr_bipush (v := 24) dX8_addRing_26 (by decide) ?_
          refine zr_iclt (tgt := 33) dX8_addRing_28 (by decide) (fun hb => ?_) (fun hb => ?_)
          · have k := k.1 hb
            refine zr_aload_n dX8_addRing_33 rfl rfl ?_
            refine zr_getR dX8_addRing_34 zf_X8_18 rfl (hS.has (a := 67) rfl rfl) (hS.ref (a := 70) rfl) ?_
            refine zr_iload_n dX8_addRing_37 rfl rfl ?_
            refine zr_bipush (v := 24) dX8_addRing_38 (by decide) ?_
            refine zr_imul dX8_addRing_40 ?_
            refine zr_aload_n dX8_addRing_41 rfl rfl ?_
            refine zr_getR dX8_addRing_42 zf_X8_15 rfl (hS.has (a := 67) rfl rfl) (hS.ref (a := 69) rfl) ?_
            refine zr_iload_n dX8_addRing_45 rfl rfl ?_
            refine zr_ialdv (x := (I 69 v1.toNatClampNeg)) dX8_addRing_46 (hS.has (a := 69) rfl rfl) hi1 rfl ?_
            refine zr_iadd dX8_addRing_47 ?_
            refine zr_iload_n dX8_addRing_48 rfl rfl ?_
            obtain ⟨hi2, k⟩ := k
            refine zr_iast dX8_addRing_49 (hS.has (a := 70) rfl rfl) hi2 ?_
            refine zr_aload_n dX8_addRing_50 rfl rfl ?_
            refine zr_getR dX8_addRing_51 zf_X8_21 rfl (hS.has (a := 67) rfl rfl) (hS.ref (a := 71) rfl) ?_
            refine zr_iload_n dX8_addRing_54 rfl rfl ?_
            refine zr_bipush (v := 24) dX8_addRing_55 (by decide) ?_
            refine zr_imul dX8_addRing_57 ?_
            refine zr_aload_n dX8_addRing_58 rfl rfl ?_
            refine zr_getR dX8_addRing_59 zf_X8_15 rfl (hS.has (a := 67) rfl rfl) (hS.ref (a := 69) rfl) ?_
            refine zr_iload_n dX8_addRing_62 rfl rfl ?_
            refine zr_ialdv (x := (I 69 v1.toNatClampNeg)) dX8_addRing_63 (hS.has (a := 69) rfl rfl) hi1 rfl ?_
            refine zr_iadd dX8_addRing_64 ?_
            refine zr_iload_n dX8_addRing_65 rfl rfl ?_
            refine zr_iast dX8_addRing_66 (hS.has (a := 71) rfl rfl) hi2 ?_
            refine zr_aload_n dX8_addRing_67 rfl rfl ?_
            refine zr_getR dX8_addRing_68 zf_X8_15 rfl (hS.has (a := 67) rfl rfl) (hS.ref (a := 69) rfl) ?_
            refine zr_iload_n dX8_addRing_71 rfl rfl ?_
            refine zr_dup2 dX8_addRing_72 rfl rfl ?_
            refine zr_ialdv (x := (I 69 v1.toNatClampNeg)) dX8_addRing_73 (hS.has (a := 69) rfl rfl) hi1 rfl ?_
            refine zr_iconst (v := 1) dX8_addRing_74 (by decide) ?_
            refine zr_iadd dX8_addRing_75 ?_
            refine zr_iast dX8_addRing_76 (hS.has (a := 69) rfl rfl) hi1 ?_
            refine zr_aload_n dX8_addRing_77 rfl rfl ?_
            refine zr_getR dX8_addRing_78 zf_X8_15 rfl (hS.has (a := 67) rfl rfl) (hS.ref (a := 69) rfl) ?_
            refine zr_iload_n dX8_addRing_81 rfl rfl ?_
            refine zr_ialdv (x := ((u2 (u2 (u2 I 70 ((v1 * (24 : Int32)) + (I 69 v1.toNatClampNeg)).toNatClampNeg v2) 71 ((v1 * (24 : Int32)) + (I 69 v1.toNatClampNeg)).toNatClampNeg v3) 69 v1.toNatClampNeg ((I 69 v1.toNatClampNeg) + (1 : Int32))) 69 v1.toNatClampNeg)) dX8_addRing_82 (hS.has (a := 69) rfl rfl) hi1 rfl ?_
            exact zr_ireturn dX8_addRing_83 rfl rfl k
          · have k := k.2 hb
            refine zr_iconst (v := -1) dX8_addRing_31 (by decide) ?_
            exact zr_ireturn dX8_addRing_32 rfl rfl k
set_option maxHeartbeats 2000000 in
theorem vX8_tellSap_0 {G : Gp} {bc bs : Nat} {Q : zPost} {S : zSh} {I : zFI} {L : zFL} {v1 : Int32} {v2 : Int32} {v3 : Int32} (hS : zStd S)  (k : ((v1 < 0 → Q (some (.int (0 : Int32))) S I L) ∧ (¬ v1 < 0 → (((16 : Int32) ≤ v1 → Q (some (.int (0 : Int32))) S I L) ∧ (¬ (16 : Int32) ≤ v1 → ((v2 < 0 → Q (some (.int (0 : Int32))) S I L) ∧ (¬ v2 < 0 → ((v2 ≤ (24 : Int32) → vp_in v1 16 ∧ narrow .boolean (.int v3) = .int v3 ∧ Q (some (.int (1 : Int32))) S (u2 (u2 I 72 v1.toNatClampNeg v2) 73 v1.toNatClampNeg v3) L) ∧ (¬ v2 ≤ (24 : Int32) → Q (some (.int (0 : Int32))) S I L))))))))) : ZW G mX8_tellSap fX8_tellSap lX8_tellSap 0 [zo G 67, .int v1, .int v2, .int v3] [] S I L bc bs Q := by
  refine zr_iload_n dX8_tellSap_0 rfl rfl ?_
  refine zr_iflt (tgt := 20) dX8_tellSap_1 (by decide) (fun hb => ?_) (fun hb => ?_)
  · have k := k.1 hb
    refine zr_iconst (v := 0) dX8_tellSap_20 (by decide) ?_
    exact zr_ireturn dX8_tellSap_21 rfl rfl k
  · have k := k.2 hb
    refine zr_iload_n dX8_tellSap_4 rfl rfl ?_
    refine zr_bipush (v := 16) dX8_tellSap_5 (by decide) ?_
    refine zr_icge (tgt := 20) dX8_tellSap_7 (by decide) (fun hb => ?_) (fun hb => ?_)
    · have k := k.1 hb
      refine zr_iconst (v := 0) dX8_tellSap_20 (by decide) ?_
      exact zr_ireturn dX8_tellSap_21 rfl rfl k
    · have k := k.2 hb
      refine zr_iload_n dX8_tellSap_10 rfl rfl ?_
      refine zr_iflt (tgt := 20) dX8_tellSap_11 (by decide) (fun hb => ?_) (fun hb => ?_)
      · have k := k.1 hb
        refine zr_iconst (v := 0) dX8_tellSap_20 (by decide) ?_
        exact zr_ireturn dX8_tellSap_21 rfl rfl k
      · have k := k.2 hb
        refine zr_iload_n dX8_tellSap_14 rfl rfl ?_
        refine zr_bipush (v := 24) dX8_tellSap_15 (by decide) ?_
        refine zr_icle (tgt := 22) dX8_tellSap_17 (by decide) (fun hb => ?_) (fun hb => ?_)
        · have k := k.1 hb
          refine zr_aload_n dX8_tellSap_22 rfl rfl ?_
          refine zr_getR dX8_tellSap_23 zf_X8_24 rfl (hS.has (a := 67) rfl rfl) (hS.ref (a := 72) rfl) ?_
          refine zr_iload_n dX8_tellSap_26 rfl rfl ?_
          refine zr_iload_n dX8_tellSap_27 rfl rfl ?_
          obtain ⟨hi1, k⟩ := k
          refine zr_iast dX8_tellSap_28 (hS.has (a := 72) rfl rfl) hi1 ?_
          refine zr_aload_n dX8_tellSap_29 rfl rfl ?_
          refine zr_getR dX8_tellSap_30 zf_X8_27 rfl (hS.has (a := 67) rfl rfl) (hS.ref (a := 73) rfl) ?_
          refine zr_iload_n dX8_tellSap_33 rfl rfl ?_
          refine zr_iload_n dX8_tellSap_34 rfl rfl ?_
          obtain ⟨hn, k⟩ := k
          refine zr_zast dX8_tellSap_35 (hS.has (a := 73) rfl rfl) hi1 hn ?_
          refine zr_iconst (v := 1) dX8_tellSap_36 (by decide) ?_
          exact zr_ireturn dX8_tellSap_37 rfl rfl k
        · have k := k.2 hb
          refine zr_iconst (v := 0) dX8_tellSap_20 (by decide) ?_
          exact zr_ireturn dX8_tellSap_21 rfl rfl k
set_option maxHeartbeats 2000000 in
theorem vX8_ringsSeen_0 {G : Gp} {bc bs : Nat} {Q : zPost} {S : zSh} {I : zFI} {L : zFL} {v1 : Int32} {v2 : Int32} (hS : zStd S)  (k : ((v1 < 0 → Q (some (.int (0 : Int32))) S I L) ∧ (¬ v1 < 0 → ((v1 < (16 : Int32) → ZW G mX8_ringsSeen fX8_ringsSeen lX8_ringsSeen 14 [zo G 67, .int v1, .int v2, .int (0 : Int32)] [] S I L bc bs Q) ∧ (¬ v1 < (16 : Int32) → Q (some (.int (0 : Int32))) S I L))))) : ZW G mX8_ringsSeen fX8_ringsSeen lX8_ringsSeen 0 [zo G 67, .int v1, .int v2, .null] [] S I L bc bs Q := by
  refine zr_iload_n dX8_ringsSeen_0 rfl rfl ?_
  refine zr_iflt (tgt := 10) dX8_ringsSeen_1 (by decide) (fun hb => ?_) (fun hb => ?_)
  · have k := k.1 hb
    refine zr_iconst (v := 0) dX8_ringsSeen_10 (by decide) ?_
    exact zr_ireturn dX8_ringsSeen_11 rfl rfl k
  · have k := k.2 hb
    refine zr_iload_n dX8_ringsSeen_4 rfl rfl ?_
    refine zr_bipush (v := 16) dX8_ringsSeen_5 (by decide) ?_
    refine zr_iclt (tgt := 12) dX8_ringsSeen_7 (by decide) (fun hb => ?_) (fun hb => ?_)
    · have k := k.1 hb
      refine zr_iconst (v := 0) dX8_ringsSeen_12 (by decide) ?_
      refine zr_istore_n dX8_ringsSeen_13 rfl (Nat.le_of_ble_eq_true rfl) rfl ?_
      exact k
    · have k := k.2 hb
      refine zr_iconst (v := 0) dX8_ringsSeen_10 (by decide) ?_
      exact zr_ireturn dX8_ringsSeen_11 rfl rfl k
set_option maxHeartbeats 2000000 in
theorem vX8_ringsSeen_14 {G : Gp} {bc bs : Nat} {Q : zPost} {S : zSh} {I : zFI} {L : zFL} {v1 : Int32} {v2 : Int32} {v3 : Int32} (hS : zStd S)  (k : vp_in v1 16 ∧ (((I 69 v1.toNatClampNeg) ≤ v3 → Q (some (.int v3)) S I L) ∧ (¬ (I 69 v1.toNatClampNeg) ≤ v3 → (((24 : Int32) ≤ v3 → Q (some (.int v3)) S I L) ∧ (¬ (24 : Int32) ≤ v3 → vp_in ((v1 * (24 : Int32)) + v3) 384 ∧ ((v2 < (I 71 ((v1 * (24 : Int32)) + v3).toNatClampNeg) → Q (some (.int v3)) S I L) ∧ (¬ v2 < (I 71 ((v1 * (24 : Int32)) + v3).toNatClampNeg) → ZW G mX8_ringsSeen fX8_ringsSeen lX8_ringsSeen 14 [zo G 67, .int v1, .int v2, .int (v3 + 1)] [] S I L bc bs Q))))))) : ZW G mX8_ringsSeen fX8_ringsSeen lX8_ringsSeen 14 [zo G 67, .int v1, .int v2, .int v3] [] S I L bc bs Q := by
  refine zr_iload_n dX8_ringsSeen_14 rfl rfl ?_
  refine zr_aload_n dX8_ringsSeen_15 rfl rfl ?_
  refine zr_getR dX8_ringsSeen_16 zf_X8_15 rfl (hS.has (a := 67) rfl rfl) (hS.ref (a := 69) rfl) ?_
  refine zr_iload_n dX8_ringsSeen_19 rfl rfl ?_
  obtain ⟨hi1, k⟩ := k
  refine zr_ialdv (x := (I 69 v1.toNatClampNeg)) dX8_ringsSeen_20 (hS.has (a := 69) rfl rfl) hi1 rfl ?_
  refine zr_icge (tgt := 51) dX8_ringsSeen_21 (by decide) (fun hb => ?_) (fun hb => ?_)
  · have k := k.1 hb
    refine zr_iload_n dX8_ringsSeen_51 rfl rfl ?_
    exact zr_ireturn dX8_ringsSeen_52 rfl rfl k
  · have k := k.2 hb
    refine zr_iload_n dX8_ringsSeen_24 rfl rfl ?_
    refine zr_bipush (v := 24) dX8_ringsSeen_25 (by decide) ?_
    refine zr_icge (tgt := 51) dX8_ringsSeen_27 (by decide) (fun hb => ?_) (fun hb => ?_)
    · have k := k.1 hb
      refine zr_iload_n dX8_ringsSeen_51 rfl rfl ?_
      exact zr_ireturn dX8_ringsSeen_52 rfl rfl k
    · have k := k.2 hb
      refine zr_aload_n dX8_ringsSeen_30 rfl rfl ?_
      refine zr_getR dX8_ringsSeen_31 zf_X8_21 rfl (hS.has (a := 67) rfl rfl) (hS.ref (a := 71) rfl) ?_
      refine zr_iload_n dX8_ringsSeen_34 rfl rfl ?_
      refine zr_bipush (v := 24) dX8_ringsSeen_35 (by decide) ?_
      refine zr_imul dX8_ringsSeen_37 ?_
      refine zr_iload_n dX8_ringsSeen_38 rfl rfl ?_
      refine zr_iadd dX8_ringsSeen_39 ?_
      obtain ⟨hi2, k⟩ := k
      refine zr_ialdv (x := (I 71 ((v1 * (24 : Int32)) + v3).toNatClampNeg)) dX8_ringsSeen_40 (hS.has (a := 71) rfl rfl) hi2 rfl ?_
      refine zr_iload_n dX8_ringsSeen_41 rfl rfl ?_
      refine zr_icgt (tgt := 51) dX8_ringsSeen_42 (by decide) (fun hb => ?_) (fun hb => ?_)
      · have k := k.1 hb
        refine zr_iload_n dX8_ringsSeen_51 rfl rfl ?_
        exact zr_ireturn dX8_ringsSeen_52 rfl rfl k
      · have k := k.2 hb
        refine zr_iinc (v := (v3 + 1)) dX8_ringsSeen_45 rfl rfl (Nat.le_of_ble_eq_true rfl) rfl ?_
        refine zr_goto (tgt := 14) dX8_ringsSeen_48 (by decide) ?_
        exact k
set_option maxHeartbeats 2000000 in
theorem vX8_sapTold_0 {G : Gp} {bc bs : Nat} {Q : zPost} {S : zSh} {I : zFI} {L : zFL} {v1 : Int32} (hS : zStd S)  (k : Q (some (.int (p_X11_pick I 72 16 v1))) S I L) : ZW G mX8_sapTold fX8_sapTold lX8_sapTold 0 [zo G 67, .int v1] [] S I L bc bs Q := by
  refine zr_aload_n dX8_sapTold_0 rfl rfl ?_
  refine zr_getR dX8_sapTold_1 zf_X8_24 rfl (hS.has (a := 67) rfl rfl) (hS.ref (a := 72) rfl) ?_
  refine zr_iload_n dX8_sapTold_4 rfl rfl ?_
  refine zr_callSN (As := [zo G 72, .int v1]) (fr' := fX11_pick) (lo' := lX11_pick) (bc' := 0) (bs' := 0) (bcr := bc) (bsr := bs) dX8_sapTold_5 zsn_X8_37 zst_X11_pick rfl rfl (Nat.le_of_ble_eq_true rfl) (Nat.le_of_ble_eq_true rfl) (Nat.le_of_ble_eq_true rfl) (Nat.le_refl _) (Nat.le_refl _) ?_
  refine sp_X11_pick hS (hS.has (a := 72) rfl rfl) rfl ?_
  show ZW G mX8_sapTold fX8_sapTold lX8_sapTold 8 [zo G 67, .int v1] [.int (p_X11_pick I 72 16 v1)] S I L bc bs Q
  exact zr_ireturn dX8_sapTold_8 rfl rfl k
def p_X8_sapTold (I : zFI) (v1 : Int32) : Int32 := (p_X11_pick I 72 16 v1)
set_option maxHeartbeats 2000000 in
theorem sp_X8_sapTold {G : Gp} {Q : zPost} {S : zSh} {I : zFI} {L : zFL} {v1 : Int32} (hS : zStd S)  (h : Q (some (.int (p_X8_sapTold I v1))) S I L) : ZC G mX8_sapTold fX8_sapTold lX8_sapTold [zo G 67, .int v1] S I L 0 0 Q := by
  refine ZC.of' (vX8_sapTold_0 hS  ?_) rfl (Nat.le_of_ble_eq_true rfl) rfl
  unfold p_X8_sapTold at h
  exact h
set_option maxHeartbeats 2000000 in
theorem vX8_barkTold_0 {G : Gp} {bc bs : Nat} {Q : zPost} {S : zSh} {I : zFI} {L : zFL} {v1 : Int32} (hS : zStd S)  (k : ((v1 < 0 → Q (some (.int (0 : Int32))) S I L) ∧ (¬ v1 < 0 → (((16 : Int32) ≤ v1 → Q (some (.int (0 : Int32))) S I L) ∧ (¬ (16 : Int32) ≤ v1 → vp_in v1 16 ∧ (((I 73 v1.toNatClampNeg) = 0 → Q (some (.int (0 : Int32))) S I L) ∧ (¬ (I 73 v1.toNatClampNeg) = 0 → Q (some (.int (1 : Int32))) S I L))))))) : ZW G mX8_barkTold fX8_barkTold lX8_barkTold 0 [zo G 67, .int v1] [] S I L bc bs Q := by
  refine zr_iload_n dX8_barkTold_0 rfl rfl ?_
  refine zr_iflt (tgt := 23) dX8_barkTold_1 (by decide) (fun hb => ?_) (fun hb => ?_)
  · have k := k.1 hb
    refine zr_iconst (v := 0) dX8_barkTold_23 (by decide) ?_
    exact zr_ireturn dX8_barkTold_24 rfl rfl k
  · have k := k.2 hb
    refine zr_iload_n dX8_barkTold_4 rfl rfl ?_
    refine zr_bipush (v := 16) dX8_barkTold_5 (by decide) ?_
    refine zr_icge (tgt := 23) dX8_barkTold_7 (by decide) (fun hb => ?_) (fun hb => ?_)
    · have k := k.1 hb
      refine zr_iconst (v := 0) dX8_barkTold_23 (by decide) ?_
      exact zr_ireturn dX8_barkTold_24 rfl rfl k
    · have k := k.2 hb
      refine zr_aload_n dX8_barkTold_10 rfl rfl ?_
      refine zr_getR dX8_barkTold_11 zf_X8_27 rfl (hS.has (a := 67) rfl rfl) (hS.ref (a := 73) rfl) ?_
      refine zr_iload_n dX8_barkTold_14 rfl rfl ?_
      obtain ⟨hi1, k⟩ := k
      refine zr_zaldv (x := (I 73 v1.toNatClampNeg)) dX8_barkTold_15 (hS.has (a := 73) rfl rfl) hi1 rfl ?_
      refine zr_ifeq (tgt := 23) dX8_barkTold_16 (by decide) (fun hb => ?_) (fun hb => ?_)
      · have k := k.1 hb
        refine zr_iconst (v := 0) dX8_barkTold_23 (by decide) ?_
        exact zr_ireturn dX8_barkTold_24 rfl rfl k
      · have k := k.2 hb
        refine zr_iconst (v := 1) dX8_barkTold_19 (by decide) ?_
        refine zr_goto (tgt := 24) dX8_barkTold_20 (by decide) ?_
        exact zr_ireturn dX8_barkTold_24 rfl rfl k
def p_X8_barkTold (I : zFI) (v1 : Int32) : Int32 := (if v1 < 0 then (0 : Int32) else (if (16 : Int32) ≤ v1 then (0 : Int32) else (if (I 73 v1.toNatClampNeg) = 0 then (0 : Int32) else (1 : Int32))))
set_option maxHeartbeats 2000000 in
theorem sp_X8_barkTold {G : Gp} {Q : zPost} {S : zSh} {I : zFI} {L : zFL} {v1 : Int32} (hS : zStd S)  (h : Q (some (.int (p_X8_barkTold I v1))) S I L) : ZC G mX8_barkTold fX8_barkTold lX8_barkTold [zo G 67, .int v1] S I L 0 0 Q := by
  refine ZC.of' (vX8_barkTold_0 hS  ?_) rfl (Nat.le_of_ble_eq_true rfl) rfl
  unfold p_X8_barkTold at h
  refine ⟨fun hb1 => ?_, fun hb1 => ?_⟩
  · rw [if_pos hb1] at h
    exact h
  · rw [if_neg hb1] at h
    refine ⟨fun hb2 => ?_, fun hb2 => ?_⟩
    · rw [if_pos hb2] at h
      exact h
    · rw [if_neg hb2] at h
      refine ⟨zvin (m := 16) rfl (by first | lia) (by first | lia), ?_⟩
      refine ⟨fun hb3 => ?_, fun hb3 => ?_⟩
      · rw [if_pos hb3] at h
        exact h
      · rw [if_neg hb3] at h
        exact h
theorem pb_X8_barkTold (I : zFI) (v1 : Int32) : p_X8_barkTold I v1 = 0 ∨ p_X8_barkTold I v1 = 1 := by
  unfold p_X8_barkTold
  repeat' split
  all_goals first | exact Or.inl rfl | exact Or.inr rfl | assumption
set_option maxHeartbeats 2000000 in
theorem vX8_way_0 {G : Gp} {bc bs : Nat} {Q : zPost} {S : zSh} {I : zFI} {L : zFL} {v0 : Int32} {v1 : Int32} (hS : zStd S)  (k : ((¬ v0 = v1 → ((v1 ≤ v0 → Q (some (.int (-1 : Int32))) S I L) ∧ (¬ v1 ≤ v0 → Q (some (.int (1 : Int32))) S I L))) ∧ (v0 = v1 → Q (some (.int (0 : Int32))) S I L))) : ZW G mX8_way fX8_way lX8_way 0 [.int v0, .int v1] [] S I L bc bs Q := by
  refine zr_iload_n dX8_way_0 rfl rfl ?_
  refine zr_iload_n dX8_way_1 rfl rfl ?_
  refine zr_icne (tgt := 7) dX8_way_2 (by decide) (fun hb => ?_) (fun hb => ?_)
  · have k := k.1 hb
    refine zr_iload_n dX8_way_7 rfl rfl ?_
    refine zr_iload_n dX8_way_8 rfl rfl ?_
    refine zr_icge (tgt := 16) dX8_way_9 (by decide) (fun hb => ?_) (fun hb => ?_)
    · have k := k.1 hb
      refine zr_iconst (v := -1) dX8_way_16 (by decide) ?_
      exact zr_ireturn dX8_way_17 rfl rfl k
    · have k := k.2 hb
      refine zr_iconst (v := 1) dX8_way_12 (by decide) ?_
      refine zr_goto (tgt := 17) dX8_way_13 (by decide) ?_
      exact zr_ireturn dX8_way_17 rfl rfl k
  · have k := k.2 hb
    refine zr_iconst (v := 0) dX8_way_5 (by decide) ?_
    exact zr_ireturn dX8_way_6 rfl rfl k
def p_X8_way  (v0 : Int32) (v1 : Int32) : Int32 := (if v0 = v1 then (0 : Int32) else (if v1 ≤ v0 then (-1 : Int32) else (1 : Int32)))
set_option maxHeartbeats 2000000 in
theorem sp_X8_way {G : Gp} {Q : zPost} {S : zSh} {I : zFI} {L : zFL} {v0 : Int32} {v1 : Int32} (hS : zStd S)  (h : Q (some (.int (p_X8_way  v0 v1))) S I L) : ZC G mX8_way fX8_way lX8_way [.int v0, .int v1] S I L 0 0 Q := by
  refine ZC.of' (vX8_way_0 hS  ?_) rfl (Nat.le_of_ble_eq_true rfl) rfl
  unfold p_X8_way at h
  refine ⟨fun hb1 => ?_, fun hb1 => ?_⟩
  · rw [if_neg hb1] at h
    refine ⟨fun hb2 => ?_, fun hb2 => ?_⟩
    · rw [if_pos hb2] at h
      exact h
    · rw [if_neg hb2] at h
      exact h
  · rw [if_pos hb1] at h
    exact h
set_option maxHeartbeats 2000000 in
theorem vX8_wayTo_0 {G : Gp} {bc bs : Nat} {Q : zPost} {S : zSh} {I : zFI} {L : zFL} {v1 : Int32} {v2 : Int32} (hS : zStd S)  (k : Q (some (.int (p_X8_way (p_X11_pick I 70 384 (((v1 * (24 : Int32)) + v2) - (1 : Int32))) (p_X11_pick I 70 384 ((v1 * (24 : Int32)) + v2))))) S I L) : ZW G mX8_wayTo fX8_wayTo lX8_wayTo 0 [zo G 67, .int v1, .int v2] [] S I L bc bs Q := by
  refine zr_aload_n dX8_wayTo_0 rfl rfl ?_
  refine zr_getR dX8_wayTo_1 zf_X8_18 rfl (hS.has (a := 67) rfl rfl) (hS.ref (a := 70) rfl) ?_
  refine zr_iload_n dX8_wayTo_4 rfl rfl ?_
  refine zr_bipush (v := 24) dX8_wayTo_5 (by decide) ?_
  refine zr_imul dX8_wayTo_7 ?_
  refine zr_iload_n dX8_wayTo_8 rfl rfl ?_
  refine zr_iadd dX8_wayTo_9 ?_
  refine zr_iconst (v := 1) dX8_wayTo_10 (by decide) ?_
  refine zr_isub dX8_wayTo_11 ?_
  refine zr_callSN (As := [zo G 70, .int (((v1 * (24 : Int32)) + v2) - (1 : Int32))]) (fr' := fX11_pick) (lo' := lX11_pick) (bc' := 0) (bs' := 0) (bcr := bc) (bsr := bs) dX8_wayTo_12 zsn_X8_37 zst_X11_pick rfl rfl (Nat.le_of_ble_eq_true rfl) (Nat.le_of_ble_eq_true rfl) (Nat.le_of_ble_eq_true rfl) (Nat.le_refl _) (Nat.le_refl _) ?_
  refine sp_X11_pick hS (hS.has (a := 70) rfl rfl) rfl ?_
  show ZW G mX8_wayTo fX8_wayTo lX8_wayTo 15 [zo G 67, .int v1, .int v2] [.int (p_X11_pick I 70 384 (((v1 * (24 : Int32)) + v2) - (1 : Int32)))] S I L bc bs Q
  refine zr_aload_n dX8_wayTo_15 rfl rfl ?_
  refine zr_getR dX8_wayTo_16 zf_X8_18 rfl (hS.has (a := 67) rfl rfl) (hS.ref (a := 70) rfl) ?_
  refine zr_iload_n dX8_wayTo_19 rfl rfl ?_
  refine zr_bipush (v := 24) dX8_wayTo_20 (by decide) ?_
  refine zr_imul dX8_wayTo_22 ?_
  refine zr_iload_n dX8_wayTo_23 rfl rfl ?_
  refine zr_iadd dX8_wayTo_24 ?_
  refine zr_callSN (As := [zo G 70, .int ((v1 * (24 : Int32)) + v2)]) (fr' := fX11_pick) (lo' := lX11_pick) (bc' := 0) (bs' := 0) (bcr := bc) (bsr := bs) dX8_wayTo_25 zsn_X8_37 zst_X11_pick rfl rfl (Nat.le_of_ble_eq_true rfl) (Nat.le_of_ble_eq_true rfl) (Nat.le_of_ble_eq_true rfl) (Nat.le_refl _) (Nat.le_refl _) ?_
  refine sp_X11_pick hS (hS.has (a := 70) rfl rfl) rfl ?_
  show ZW G mX8_wayTo fX8_wayTo lX8_wayTo 28 [zo G 67, .int v1, .int v2] [.int (p_X11_pick I 70 384 ((v1 * (24 : Int32)) + v2)), .int (p_X11_pick I 70 384 (((v1 * (24 : Int32)) + v2) - (1 : Int32)))] S I L bc bs Q
  refine zr_callS (As := [.int (p_X11_pick I 70 384 (((v1 * (24 : Int32)) + v2) - (1 : Int32))), .int (p_X11_pick I 70 384 ((v1 * (24 : Int32)) + v2))]) (fr' := fX8_way) (lo' := lX8_way) (bc' := 0) (bs' := 0) (bcr := bc) (bsr := bs) dX8_wayTo_28 zs_X8_85 zst_X8_way rfl rfl (Nat.le_of_ble_eq_true rfl) (Nat.le_of_ble_eq_true rfl) (Nat.le_of_ble_eq_true rfl) (Nat.le_refl _) (Nat.le_refl _) ?_
  refine sp_X8_way hS  ?_
  show ZW G mX8_wayTo fX8_wayTo lX8_wayTo 31 [zo G 67, .int v1, .int v2] [.int (p_X8_way (p_X11_pick I 70 384 (((v1 * (24 : Int32)) + v2) - (1 : Int32))) (p_X11_pick I 70 384 ((v1 * (24 : Int32)) + v2)))] S I L bc bs Q
  exact zr_ireturn dX8_wayTo_31 rfl rfl k
def p_X8_wayTo (I : zFI) (v1 : Int32) (v2 : Int32) : Int32 := (p_X8_way (p_X11_pick I 70 384 (((v1 * (24 : Int32)) + v2) - (1 : Int32))) (p_X11_pick I 70 384 ((v1 * (24 : Int32)) + v2)))
set_option maxHeartbeats 2000000 in
theorem sp_X8_wayTo {G : Gp} {Q : zPost} {S : zSh} {I : zFI} {L : zFL} {v1 : Int32} {v2 : Int32} (hS : zStd S)  (h : Q (some (.int (p_X8_wayTo I v1 v2))) S I L) : ZC G mX8_wayTo fX8_wayTo lX8_wayTo [zo G 67, .int v1, .int v2] S I L 0 0 Q := by
  refine ZC.of' (vX8_wayTo_0 hS  ?_) rfl (Nat.le_of_ble_eq_true rfl) rfl
  unfold p_X8_wayTo at h
  exact h
set_option maxHeartbeats 2000000 in
theorem vX8_agreeAt_0 {G : Gp} {bc bs : Nat} {Q : zPost} {S : zSh} {I : zFI} {L : zFL} {v1 : Int32} {v2 : Int32} {v3 : Int32} (hS : zStd S)  (k : ZW G mX8_agreeAt fX8_agreeAt lX8_agreeAt 6 [zo G 67, .int v1, .int v2, .int v3, .int (0 : Int32), .int (0 : Int32), .null] [] S I L bc bs Q) : ZW G mX8_agreeAt fX8_agreeAt lX8_agreeAt 0 [zo G 67, .int v1, .int v2, .int v3, .null, .null, .null] [] S I L bc bs Q := by
  refine zr_iconst (v := 0) dX8_agreeAt_0 (by decide) ?_
  refine zr_istore dX8_agreeAt_1 (Nat.le_of_ble_eq_true rfl) rfl ?_
  refine zr_iconst (v := 0) dX8_agreeAt_3 (by decide) ?_
  refine zr_istore dX8_agreeAt_4 (Nat.le_of_ble_eq_true rfl) rfl ?_
  exact k
set_option maxHeartbeats 2000000 in
theorem vX8_agreeAt_6 {G : Gp} {bc bs : Nat} {Q : zPost} {S : zSh} {I : zFI} {L : zFL} {v1 : Int32} {v2 : Int32} {v3 : Int32} {v4 : Int32} {v5 : Int32} (hS : zStd S)  (k : ((v2 ≤ v5 → Q (some (.int v4)) S I L) ∧ (¬ v2 ≤ v5 → ((¬ (p_X11_pick I 68 200 (((v3 - v2) + (1 : Int32)) + v5)) = (-1 : Int32) → ((v5 ≤ 0 → ZW G mX8_agreeAt fX8_agreeAt lX8_agreeAt 6 [zo G 67, .int v1, .int v2, .int v3, .int v4, .int (v5 + 1), .null] [] S I L bc bs Q) ∧ (¬ v5 ≤ 0 → ((¬ (p_X8_way (p_X11_pick I 68 200 ((((v3 - v2) + (1 : Int32)) + v5) - (1 : Int32))) (p_X11_pick I 68 200 (((v3 - v2) + (1 : Int32)) + v5))) = (p_X8_wayTo I v1 v5) → ZW G mX8_agreeAt fX8_agreeAt lX8_agreeAt 6 [zo G 67, .int v1, .int v2, .int v3, .int v4, .int (v5 + 1), .null] [] S I L bc bs Q) ∧ ((p_X8_way (p_X11_pick I 68 200 ((((v3 - v2) + (1 : Int32)) + v5) - (1 : Int32))) (p_X11_pick I 68 200 (((v3 - v2) + (1 : Int32)) + v5))) = (p_X8_wayTo I v1 v5) → ZW G mX8_agreeAt fX8_agreeAt lX8_agreeAt 6 [zo G 67, .int v1, .int v2, .int v3, .int (v4 + 1), .int (v5 + 1), .null] [] S I L bc bs Q))))) ∧ ((p_X11_pick I 68 200 (((v3 - v2) + (1 : Int32)) + v5)) = (-1 : Int32) → Q (some (.int (-1 : Int32))) S I L))))) : ZW G mX8_agreeAt fX8_agreeAt lX8_agreeAt 6 [zo G 67, .int v1, .int v2, .int v3, .int v4, .int v5, .null] [] S I L bc bs Q := by
  refine zr_iload dX8_agreeAt_6 rfl ?_
  refine zr_iload_n dX8_agreeAt_8 rfl rfl ?_
  refine zr_icge (tgt := 84) dX8_agreeAt_9 (by decide) (fun hb => ?_) (fun hb => ?_)
  · have k := k.1 hb
    refine zr_iload dX8_agreeAt_84 rfl ?_
    exact zr_ireturn dX8_agreeAt_86 rfl rfl k
  · have k := k.2 hb
    refine zr_iload_n dX8_agreeAt_12 rfl rfl ?_
    refine zr_iload_n dX8_agreeAt_13 rfl rfl ?_
    refine zr_isub dX8_agreeAt_14 ?_
    refine zr_iconst (v := 1) dX8_agreeAt_15 (by decide) ?_
    refine zr_iadd dX8_agreeAt_16 ?_
    refine zr_iload dX8_agreeAt_17 rfl ?_
    refine zr_iadd dX8_agreeAt_19 ?_
    refine zr_istore dX8_agreeAt_20 (Nat.le_of_ble_eq_true rfl) rfl ?_
    refine zr_aload_n dX8_agreeAt_22 rfl rfl ?_
    refine zr_getR dX8_agreeAt_23 zf_X8_11 rfl (hS.has (a := 67) rfl rfl) (hS.ref (a := 68) rfl) ?_
    refine zr_iload dX8_agreeAt_26 rfl ?_
    refine zr_callSN (As := [zo G 68, .int (((v3 - v2) + (1 : Int32)) + v5)]) (fr' := fX11_pick) (lo' := lX11_pick) (bc' := 0) (bs' := 0) (bcr := bc) (bsr := bs) dX8_agreeAt_28 zsn_X8_37 zst_X11_pick rfl rfl (Nat.le_of_ble_eq_true rfl) (Nat.le_of_ble_eq_true rfl) (Nat.le_of_ble_eq_true rfl) (Nat.le_refl _) (Nat.le_refl _) ?_
    refine sp_X11_pick hS (hS.has (a := 68) rfl rfl) rfl ?_
    show ZW G mX8_agreeAt fX8_agreeAt lX8_agreeAt 31 [zo G 67, .int v1, .int v2, .int v3, .int v4, .int v5, .int (((v3 - v2) + (1 : Int32)) + v5)] [.int (p_X11_pick I 68 200 (((v3 - v2) + (1 : Int32)) + v5))] S I L bc bs Q
    refine zr_iconst (v := -1) dX8_agreeAt_31 (by decide) ?_
    refine zr_icne (tgt := 37) dX8_agreeAt_32 (by decide) (fun hb => ?_) (fun hb => ?_)
    · have k := k.1 hb
      refine zr_iload dX8_agreeAt_37 rfl ?_
      refine zr_ifle (tgt := 78) dX8_agreeAt_39 (by decide) (fun hb => ?_) (fun hb => ?_)
      · have k := k.1 hb
        refine zr_iinc (v := (v5 + 1)) dX8_agreeAt_78 rfl rfl (Nat.le_of_ble_eq_true rfl) rfl ?_
        refine zr_goto (tgt := 6) dX8_agreeAt_81 (by decide) ?_
        exact zr_mask [true, true, true, true, true, true, false] rfl k
      · have k := k.2 hb
        refine zr_aload_n dX8_agreeAt_42 rfl rfl ?_
        refine zr_getR dX8_agreeAt_43 zf_X8_11 rfl (hS.has (a := 67) rfl rfl) (hS.ref (a := 68) rfl) ?_
        refine zr_iload dX8_agreeAt_46 rfl ?_
        refine zr_iconst (v := 1) dX8_agreeAt_48 (by decide) ?_
        refine zr_isub dX8_agreeAt_49 ?_
        refine zr_callSN (As := [zo G 68, .int ((((v3 - v2) + (1 : Int32)) + v5) - (1 : Int32))]) (fr' := fX11_pick) (lo' := lX11_pick) (bc' := 0) (bs' := 0) (bcr := bc) (bsr := bs) dX8_agreeAt_50 zsn_X8_37 zst_X11_pick rfl rfl (Nat.le_of_ble_eq_true rfl) (Nat.le_of_ble_eq_true rfl) (Nat.le_of_ble_eq_true rfl) (Nat.le_refl _) (Nat.le_refl _) ?_
        refine sp_X11_pick hS (hS.has (a := 68) rfl rfl) rfl ?_
        show ZW G mX8_agreeAt fX8_agreeAt lX8_agreeAt 53 [zo G 67, .int v1, .int v2, .int v3, .int v4, .int v5, .int (((v3 - v2) + (1 : Int32)) + v5)] [.int (p_X11_pick I 68 200 ((((v3 - v2) + (1 : Int32)) + v5) - (1 : Int32)))] S I L bc bs Q
        refine zr_aload_n dX8_agreeAt_53 rfl rfl ?_
        refine zr_getR dX8_agreeAt_54 zf_X8_11 rfl (hS.has (a := 67) rfl rfl) (hS.ref (a := 68) rfl) ?_
        refine zr_iload dX8_agreeAt_57 rfl ?_
        refine zr_callSN (As := [zo G 68, .int (((v3 - v2) + (1 : Int32)) + v5)]) (fr' := fX11_pick) (lo' := lX11_pick) (bc' := 0) (bs' := 0) (bcr := bc) (bsr := bs) dX8_agreeAt_59 zsn_X8_37 zst_X11_pick rfl rfl (Nat.le_of_ble_eq_true rfl) (Nat.le_of_ble_eq_true rfl) (Nat.le_of_ble_eq_true rfl) (Nat.le_refl _) (Nat.le_refl _) ?_
        refine sp_X11_pick hS (hS.has (a := 68) rfl rfl) rfl ?_
        show ZW G mX8_agreeAt fX8_agreeAt lX8_agreeAt 62 [zo G 67, .int v1, .int v2, .int v3, .int v4, .int v5, .int (((v3 - v2) + (1 : Int32)) + v5)] [.int (p_X11_pick I 68 200 (((v3 - v2) + (1 : Int32)) + v5)), .int (p_X11_pick I 68 200 ((((v3 - v2) + (1 : Int32)) + v5) - (1 : Int32)))] S I L bc bs Q
        refine zr_callS (As := [.int (p_X11_pick I 68 200 ((((v3 - v2) + (1 : Int32)) + v5) - (1 : Int32))), .int (p_X11_pick I 68 200 (((v3 - v2) + (1 : Int32)) + v5))]) (fr' := fX8_way) (lo' := lX8_way) (bc' := 0) (bs' := 0) (bcr := bc) (bsr := bs) dX8_agreeAt_62 zs_X8_85 zst_X8_way rfl rfl (Nat.le_of_ble_eq_true rfl) (Nat.le_of_ble_eq_true rfl) (Nat.le_of_ble_eq_true rfl) (Nat.le_refl _) (Nat.le_refl _) ?_
        refine sp_X8_way hS  ?_
        show ZW G mX8_agreeAt fX8_agreeAt lX8_agreeAt 65 [zo G 67, .int v1, .int v2, .int v3, .int v4, .int v5, .int (((v3 - v2) + (1 : Int32)) + v5)] [.int (p_X8_way (p_X11_pick I 68 200 ((((v3 - v2) + (1 : Int32)) + v5) - (1 : Int32))) (p_X11_pick I 68 200 (((v3 - v2) + (1 : Int32)) + v5)))] S I L bc bs Q
        refine zr_aload_n dX8_agreeAt_65 rfl rfl ?_
        refine zr_iload_n dX8_agreeAt_66 rfl rfl ?_
        refine zr_iload dX8_agreeAt_67 rfl ?_
        refine zr_callV (As := [.int v1, .int v5]) (fr' := fX8_wayTo) (lo' := lX8_wayTo) (bc' := 0) (bs' := 0) (bcr := bc) (bsr := bs) dX8_agreeAt_69 zs_X8_88 zi_X8_wayTo zcl_8 (hS.has (a := 67) rfl rfl) rfl rfl (Nat.le_of_ble_eq_true rfl) (Nat.le_of_ble_eq_true rfl) (Nat.le_of_ble_eq_true rfl) (Nat.le_refl _) (Nat.le_refl _) ?_
        refine sp_X8_wayTo hS  ?_
        show ZW G mX8_agreeAt fX8_agreeAt lX8_agreeAt 72 [zo G 67, .int v1, .int v2, .int v3, .int v4, .int v5, .int (((v3 - v2) + (1 : Int32)) + v5)] [.int (p_X8_wayTo I v1 v5), .int (p_X8_way (p_X11_pick I 68 200 ((((v3 - v2) + (1 : Int32)) + v5) - (1 : Int32))) (p_X11_pick I 68 200 (((v3 - v2) + (1 : Int32)) + v5)))] S I L bc bs Q
        refine zr_icne (tgt := 78) dX8_agreeAt_72 (by decide) (fun hb => ?_) (fun hb => ?_)
        · have k := k.1 hb
          refine zr_iinc (v := (v5 + 1)) dX8_agreeAt_78 rfl rfl (Nat.le_of_ble_eq_true rfl) rfl ?_
          refine zr_goto (tgt := 6) dX8_agreeAt_81 (by decide) ?_
          exact zr_mask [true, true, true, true, true, true, false] rfl k
        · have k := k.2 hb
          refine zr_iinc (v := (v4 + 1)) dX8_agreeAt_75 rfl rfl (Nat.le_of_ble_eq_true rfl) rfl ?_
          refine zr_iinc (v := (v5 + 1)) dX8_agreeAt_78 rfl rfl (Nat.le_of_ble_eq_true rfl) rfl ?_
          refine zr_goto (tgt := 6) dX8_agreeAt_81 (by decide) ?_
          exact zr_mask [true, true, true, true, true, true, false] rfl k
    · have k := k.2 hb
      refine zr_iconst (v := -1) dX8_agreeAt_35 (by decide) ?_
      exact zr_ireturn dX8_agreeAt_36 rfl rfl k
set_option maxHeartbeats 2000000 in
theorem vX8_fell_0 {G : Gp} {bc bs : Nat} {Q : zPost} {S : zSh} {I : zFI} {L : zFL} {c1 : Nat} {v2 : Int32} {v3 : Int32} (hS : zStd S) (hc1 : zCu c1) (k : ((v3 = 0 → ((v2 ≤ 0 → Q none S (u2 (u2 (u2 I 67 9 (if (I 67 6) < (((I 67 6) + (I c1 6)) - v2) then (((I 67 6) + (I c1 6)) - v2) else (I 67 6))) 67 10 (999 : Int32)) 67 11 (if ((999 : Int32) + ((u2 (u2 I 67 9 (if (I 67 6) < (((I 67 6) + (I c1 6)) - v2) then (((I 67 6) + (I c1 6)) - v2) else (I 67 6))) 67 10 (999 : Int32)) c1 8)) < (999 : Int32) then ((999 : Int32) + ((u2 (u2 I 67 9 (if (I 67 6) < (((I 67 6) + (I c1 6)) - v2) then (((I 67 6) + (I c1 6)) - v2) else (I 67 6))) 67 10 (999 : Int32)) c1 8)) else (999 : Int32))) L) ∧ (¬ v2 ≤ 0 → Q none S (u2 (u2 (u2 I 67 9 (if (I 67 6) < (((I 67 6) + (I c1 6)) - v2) then (((I 67 6) + (I c1 6)) - v2) else (I 67 6))) 67 10 (if (if (I 67 6) < (((I 67 6) + (I c1 6)) - v2) then (((I 67 6) + (I c1 6)) - v2) else (I 67 6)) < (((I 67 6) + ((u2 I 67 9 (if (I 67 6) < (((I 67 6) + (I c1 6)) - v2) then (((I 67 6) + (I c1 6)) - v2) else (I 67 6))) c1 7)) - v2) then (((I 67 6) + ((u2 I 67 9 (if (I 67 6) < (((I 67 6) + (I c1 6)) - v2) then (((I 67 6) + (I c1 6)) - v2) else (I 67 6))) c1 7)) - v2) else (if (I 67 6) < (((I 67 6) + (I c1 6)) - v2) then (((I 67 6) + (I c1 6)) - v2) else (I 67 6)))) 67 11 (if ((if (if (I 67 6) < (((I 67 6) + (I c1 6)) - v2) then (((I 67 6) + (I c1 6)) - v2) else (I 67 6)) < (((I 67 6) + ((u2 I 67 9 (if (I 67 6) < (((I 67 6) + (I c1 6)) - v2) then (((I 67 6) + (I c1 6)) - v2) else (I 67 6))) c1 7)) - v2) then (((I 67 6) + ((u2 I 67 9 (if (I 67 6) < (((I 67 6) + (I c1 6)) - v2) then (((I 67 6) + (I c1 6)) - v2) else (I 67 6))) c1 7)) - v2) else (if (I 67 6) < (((I 67 6) + (I c1 6)) - v2) then (((I 67 6) + (I c1 6)) - v2) else (I 67 6))) + ((u2 (u2 I 67 9 (if (I 67 6) < (((I 67 6) + (I c1 6)) - v2) then (((I 67 6) + (I c1 6)) - v2) else (I 67 6))) 67 10 (if (if (I 67 6) < (((I 67 6) + (I c1 6)) - v2) then (((I 67 6) + (I c1 6)) - v2) else (I 67 6)) < (((I 67 6) + ((u2 I 67 9 (if (I 67 6) < (((I 67 6) + (I c1 6)) - v2) then (((I 67 6) + (I c1 6)) - v2) else (I 67 6))) c1 7)) - v2) then (((I 67 6) + ((u2 I 67 9 (if (I 67 6) < (((I 67 6) + (I c1 6)) - v2) then (((I 67 6) + (I c1 6)) - v2) else (I 67 6))) c1 7)) - v2) else (if (I 67 6) < (((I 67 6) + (I c1 6)) - v2) then (((I 67 6) + (I c1 6)) - v2) else (I 67 6)))) c1 8)) < (999 : Int32) then ((if (if (I 67 6) < (((I 67 6) + (I c1 6)) - v2) then (((I 67 6) + (I c1 6)) - v2) else (I 67 6)) < (((I 67 6) + ((u2 I 67 9 (if (I 67 6) < (((I 67 6) + (I c1 6)) - v2) then (((I 67 6) + (I c1 6)) - v2) else (I 67 6))) c1 7)) - v2) then (((I 67 6) + ((u2 I 67 9 (if (I 67 6) < (((I 67 6) + (I c1 6)) - v2) then (((I 67 6) + (I c1 6)) - v2) else (I 67 6))) c1 7)) - v2) else (if (I 67 6) < (((I 67 6) + (I c1 6)) - v2) then (((I 67 6) + (I c1 6)) - v2) else (I 67 6))) + ((u2 (u2 I 67 9 (if (I 67 6) < (((I 67 6) + (I c1 6)) - v2) then (((I 67 6) + (I c1 6)) - v2) else (I 67 6))) 67 10 (if (if (I 67 6) < (((I 67 6) + (I c1 6)) - v2) then (((I 67 6) + (I c1 6)) - v2) else (I 67 6)) < (((I 67 6) + ((u2 I 67 9 (if (I 67 6) < (((I 67 6) + (I c1 6)) - v2) then (((I 67 6) + (I c1 6)) - v2) else (I 67 6))) c1 7)) - v2) then (((I 67 6) + ((u2 I 67 9 (if (I 67 6) < (((I 67 6) + (I c1 6)) - v2) then (((I 67 6) + (I c1 6)) - v2) else (I 67 6))) c1 7)) - v2) else (if (I 67 6) < (((I 67 6) + (I c1 6)) - v2) then (((I 67 6) + (I c1 6)) - v2) else (I 67 6)))) c1 8)) else (999 : Int32))) L))) ∧ (¬ v3 = 0 → Q none S (u2 (u2 (u2 I 67 9 (I 67 6)) 67 10 (I 67 6)) 67 11 (if ((I 67 6) + ((u2 (u2 I 67 9 (I 67 6)) 67 10 (I 67 6)) c1 8)) < (999 : Int32) then ((I 67 6) + ((u2 (u2 I 67 9 (I 67 6)) 67 10 (I 67 6)) c1 8)) else (999 : Int32))) L))) : ZW G mX8_fell fX8_fell lX8_fell 0 [zo G 67, zo G c1, .int v2, .int v3] [] S I L bc bs Q := by
  refine zr_iload_n dX8_fell_0 rfl rfl ?_
  refine zr_ifeq (tgt := 23) dX8_fell_1 (by decide) (fun hb => ?_) (fun hb => ?_)
  · have k := k.1 hb
    refine zr_aload_n dX8_fell_23 rfl rfl ?_
    refine zr_aload_n dX8_fell_24 rfl rfl ?_
    refine zr_getIv (x := (I 67 6)) dX8_fell_25 zf_X8_45 rfl (hS.has (a := 67) rfl rfl) rfl ?_
    refine zr_aload_n dX8_fell_28 rfl rfl ?_
    refine zr_getIv (x := (I 67 6)) dX8_fell_29 zf_X8_45 rfl (hS.has (a := 67) rfl rfl) rfl ?_
    refine zr_aload_n dX8_fell_32 rfl rfl ?_
    refine zr_getIv (x := (I c1 6)) dX8_fell_33 zf_X8_97 rfl (hS.hasC hc1) rfl ?_
    refine zr_iadd dX8_fell_36 ?_
    refine zr_iload_n dX8_fell_37 rfl rfl ?_
    refine zr_isub dX8_fell_38 ?_
    refine zr_mmax dX8_fell_39 zmt_X8_100 (Nat.le_of_ble_eq_true rfl) (Nat.le_of_ble_eq_true rfl) (Nat.le_of_ble_eq_true rfl) ?_
    refine zr_putI dX8_fell_42 zf_X8_91 rfl (hS.has (a := 67) rfl rfl) rfl rfl ?_
    refine zr_aload_n dX8_fell_45 rfl rfl ?_
    refine zr_iload_n dX8_fell_46 rfl rfl ?_
    refine zr_ifle (tgt := 71) dX8_fell_47 (by decide) (fun hb => ?_) (fun hb => ?_)
    · have k := k.1 hb
      refine zr_sipush (v := 999) dX8_fell_71 (by decide) ?_
      refine zr_putI dX8_fell_74 zf_X8_94 rfl (hS.has (a := 67) rfl rfl) rfl rfl ?_
      refine zr_aload_n dX8_fell_77 rfl rfl ?_
      refine zr_sipush (v := 999) dX8_fell_78 (by decide) ?_
      refine zr_aload_n dX8_fell_81 rfl rfl ?_
      refine zr_getIv (x := (999 : Int32)) dX8_fell_82 zf_X8_94 rfl (hS.has (a := 67) rfl rfl) rfl ?_
      refine zr_aload_n dX8_fell_85 rfl rfl ?_
      refine zr_getIv (x := ((u2 (u2 I 67 9 (if (I 67 6) < (((I 67 6) + (I c1 6)) - v2) then (((I 67 6) + (I c1 6)) - v2) else (I 67 6))) 67 10 (999 : Int32)) c1 8)) dX8_fell_86 zf_X8_106 rfl (hS.hasC hc1) rfl ?_
      refine zr_iadd dX8_fell_89 ?_
      refine zr_mmin dX8_fell_90 zmt_X8_72 (Nat.le_of_ble_eq_true rfl) (Nat.le_of_ble_eq_true rfl) (Nat.le_of_ble_eq_true rfl) ?_
      refine zr_putI dX8_fell_93 zf_X8_109 rfl (hS.has (a := 67) rfl rfl) rfl rfl ?_
      exact zr_return_ dX8_fell_96 rfl k
    · have k := k.2 hb
      refine zr_aload_n dX8_fell_50 rfl rfl ?_
      refine zr_getIv (x := (if (I 67 6) < (((I 67 6) + (I c1 6)) - v2) then (((I 67 6) + (I c1 6)) - v2) else (I 67 6))) dX8_fell_51 zf_X8_91 rfl (hS.has (a := 67) rfl rfl) rfl ?_
      refine zr_aload_n dX8_fell_54 rfl rfl ?_
      refine zr_getIv (x := (I 67 6)) dX8_fell_55 zf_X8_45 rfl (hS.has (a := 67) rfl rfl) rfl ?_
      refine zr_aload_n dX8_fell_58 rfl rfl ?_
      refine zr_getIv (x := ((u2 I 67 9 (if (I 67 6) < (((I 67 6) + (I c1 6)) - v2) then (((I 67 6) + (I c1 6)) - v2) else (I 67 6))) c1 7)) dX8_fell_59 zf_X8_103 rfl (hS.hasC hc1) rfl ?_
      refine zr_iadd dX8_fell_62 ?_
      refine zr_iload_n dX8_fell_63 rfl rfl ?_
      refine zr_isub dX8_fell_64 ?_
      refine zr_mmax dX8_fell_65 zmt_X8_100 (Nat.le_of_ble_eq_true rfl) (Nat.le_of_ble_eq_true rfl) (Nat.le_of_ble_eq_true rfl) ?_
      refine zr_goto (tgt := 74) dX8_fell_68 (by decide) ?_
      refine zr_putI dX8_fell_74 zf_X8_94 rfl (hS.has (a := 67) rfl rfl) rfl rfl ?_
      refine zr_aload_n dX8_fell_77 rfl rfl ?_
      refine zr_sipush (v := 999) dX8_fell_78 (by decide) ?_
      refine zr_aload_n dX8_fell_81 rfl rfl ?_
      refine zr_getIv (x := (if (if (I 67 6) < (((I 67 6) + (I c1 6)) - v2) then (((I 67 6) + (I c1 6)) - v2) else (I 67 6)) < (((I 67 6) + ((u2 I 67 9 (if (I 67 6) < (((I 67 6) + (I c1 6)) - v2) then (((I 67 6) + (I c1 6)) - v2) else (I 67 6))) c1 7)) - v2) then (((I 67 6) + ((u2 I 67 9 (if (I 67 6) < (((I 67 6) + (I c1 6)) - v2) then (((I 67 6) + (I c1 6)) - v2) else (I 67 6))) c1 7)) - v2) else (if (I 67 6) < (((I 67 6) + (I c1 6)) - v2) then (((I 67 6) + (I c1 6)) - v2) else (I 67 6)))) dX8_fell_82 zf_X8_94 rfl (hS.has (a := 67) rfl rfl) rfl ?_
      refine zr_aload_n dX8_fell_85 rfl rfl ?_
      refine zr_getIv (x := ((u2 (u2 I 67 9 (if (I 67 6) < (((I 67 6) + (I c1 6)) - v2) then (((I 67 6) + (I c1 6)) - v2) else (I 67 6))) 67 10 (if (if (I 67 6) < (((I 67 6) + (I c1 6)) - v2) then (((I 67 6) + (I c1 6)) - v2) else (I 67 6)) < (((I 67 6) + ((u2 I 67 9 (if (I 67 6) < (((I 67 6) + (I c1 6)) - v2) then (((I 67 6) + (I c1 6)) - v2) else (I 67 6))) c1 7)) - v2) then (((I 67 6) + ((u2 I 67 9 (if (I 67 6) < (((I 67 6) + (I c1 6)) - v2) then (((I 67 6) + (I c1 6)) - v2) else (I 67 6))) c1 7)) - v2) else (if (I 67 6) < (((I 67 6) + (I c1 6)) - v2) then (((I 67 6) + (I c1 6)) - v2) else (I 67 6)))) c1 8)) dX8_fell_86 zf_X8_106 rfl (hS.hasC hc1) rfl ?_
      refine zr_iadd dX8_fell_89 ?_
      refine zr_mmin dX8_fell_90 zmt_X8_72 (Nat.le_of_ble_eq_true rfl) (Nat.le_of_ble_eq_true rfl) (Nat.le_of_ble_eq_true rfl) ?_
      refine zr_putI dX8_fell_93 zf_X8_109 rfl (hS.has (a := 67) rfl rfl) rfl rfl ?_
      exact zr_return_ dX8_fell_96 rfl k
  · have k := k.2 hb
    refine zr_aload_n dX8_fell_4 rfl rfl ?_
    refine zr_aload_n dX8_fell_5 rfl rfl ?_
    refine zr_getIv (x := (I 67 6)) dX8_fell_6 zf_X8_45 rfl (hS.has (a := 67) rfl rfl) rfl ?_
    refine zr_putI dX8_fell_9 zf_X8_91 rfl (hS.has (a := 67) rfl rfl) rfl rfl ?_
    refine zr_aload_n dX8_fell_12 rfl rfl ?_
    refine zr_aload_n dX8_fell_13 rfl rfl ?_
    refine zr_getIv (x := (I 67 6)) dX8_fell_14 zf_X8_45 rfl (hS.has (a := 67) rfl rfl) rfl ?_
    refine zr_putI dX8_fell_17 zf_X8_94 rfl (hS.has (a := 67) rfl rfl) rfl rfl ?_
    refine zr_goto (tgt := 77) dX8_fell_20 (by decide) ?_
    refine zr_aload_n dX8_fell_77 rfl rfl ?_
    refine zr_sipush (v := 999) dX8_fell_78 (by decide) ?_
    refine zr_aload_n dX8_fell_81 rfl rfl ?_
    refine zr_getIv (x := (I 67 6)) dX8_fell_82 zf_X8_94 rfl (hS.has (a := 67) rfl rfl) rfl ?_
    refine zr_aload_n dX8_fell_85 rfl rfl ?_
    refine zr_getIv (x := ((u2 (u2 I 67 9 (I 67 6)) 67 10 (I 67 6)) c1 8)) dX8_fell_86 zf_X8_106 rfl (hS.hasC hc1) rfl ?_
    refine zr_iadd dX8_fell_89 ?_
    refine zr_mmin dX8_fell_90 zmt_X8_72 (Nat.le_of_ble_eq_true rfl) (Nat.le_of_ble_eq_true rfl) (Nat.le_of_ble_eq_true rfl) ?_
    refine zr_putI dX8_fell_93 zf_X8_109 rfl (hS.has (a := 67) rfl rfl) rfl rfl ?_
    exact zr_return_ dX8_fell_96 rfl k
set_option maxHeartbeats 2000000 in
theorem vX8_dateBy_0 {G : Gp} {bc bs : Nat} {Q : zPost} {S : zSh} {I : zFI} {L : zFL} {c1 : Nat} {v2 : Int32} {v3 : Int32} (hS : zStd S) (hc1 : zCu c1) (k : ZC G mX8_ringsSeen fX8_ringsSeen lX8_ringsSeen [zo G 67, .int v2, .int v3] S I L 0 0 (fun w S' I1 L1 => ∃ r1 : Int32, w = some (.int r1) ∧ S = S' ∧ (((2 : Int32) ≤ r1 → ZW G mX8_dateBy fX8_dateBy lX8_dateBy 39 [zo G 67, zo G c1, .int v2, .int v3, .int r1, .int (-1 : Int32), .int (r1 - (1 : Int32)), .null] [] S (u2 (u2 (u2 I1 67 6 (-1 : Int32)) 67 7 (-1 : Int32)) 67 8 (0 : Int32)) L1 bc bs Q) ∧ (¬ (2 : Int32) ≤ r1 → Q none S (u2 (u2 (u2 I1 67 6 (-1 : Int32)) 67 7 (-1 : Int32)) 67 8 (0 : Int32)) L1)))) : ZW G mX8_dateBy fX8_dateBy lX8_dateBy 0 [zo G 67, zo G c1, .int v2, .int v3, .null, .null, .null, .null] [] S I L bc bs Q := by
  refine zr_aload_n dX8_dateBy_0 rfl rfl ?_
  refine zr_iload_n dX8_dateBy_1 rfl rfl ?_
  refine zr_iload_n dX8_dateBy_2 rfl rfl ?_
  refine zr_callV (As := [.int v2, .int v3]) (fr' := fX8_ringsSeen) (lo' := lX8_ringsSeen) (bc' := 0) (bs' := 0) (bcr := bc) (bsr := bs) dX8_dateBy_3 zs_X8_41 zi_X8_ringsSeen zcl_8 (hS.has (a := 67) rfl rfl) rfl rfl (Nat.le_of_ble_eq_true rfl) (Nat.le_of_ble_eq_true rfl) (Nat.le_of_ble_eq_true rfl) (Nat.le_refl _) (Nat.le_refl _) ?_
  refine ZC.mono (fun w S' I1 L1 k => ?_) k
  obtain ⟨r1, rfl, rfl, k⟩ := k
  show ZW G mX8_dateBy fX8_dateBy lX8_dateBy 6 [zo G 67, zo G c1, .int v2, .int v3, .null, .null, .null, .null] [.int r1] S I1 L1 bc bs Q
  refine zr_istore dX8_dateBy_6 (Nat.le_of_ble_eq_true rfl) rfl ?_
  refine zr_aload_n dX8_dateBy_8 rfl rfl ?_
  refine zr_iconst (v := -1) dX8_dateBy_9 (by decide) ?_
  refine zr_putI dX8_dateBy_10 zf_X8_45 rfl (hS.has (a := 67) rfl rfl) rfl rfl ?_
  refine zr_aload_n dX8_dateBy_13 rfl rfl ?_
  refine zr_iconst (v := -1) dX8_dateBy_14 (by decide) ?_
  refine zr_putI dX8_dateBy_15 zf_X8_49 rfl (hS.has (a := 67) rfl rfl) rfl rfl ?_
  refine zr_aload_n dX8_dateBy_18 rfl rfl ?_
  refine zr_iconst (v := 0) dX8_dateBy_19 (by decide) ?_
  refine zr_putI dX8_dateBy_20 zf_X8_52 rfl (hS.has (a := 67) rfl rfl) rfl rfl ?_
  refine zr_iload dX8_dateBy_23 rfl ?_
  refine zr_iconst (v := 2) dX8_dateBy_25 (by decide) ?_
  refine zr_icge (tgt := 30) dX8_dateBy_26 (by decide) (fun hb => ?_) (fun hb => ?_)
  · have k := k.1 hb
    refine zr_iconst (v := -1) dX8_dateBy_30 (by decide) ?_
    refine zr_istore dX8_dateBy_31 (Nat.le_of_ble_eq_true rfl) rfl ?_
    refine zr_iload dX8_dateBy_33 rfl ?_
    refine zr_iconst (v := 1) dX8_dateBy_35 (by decide) ?_
    refine zr_isub dX8_dateBy_36 ?_
    refine zr_istore dX8_dateBy_37 (Nat.le_of_ble_eq_true rfl) rfl ?_
    exact k
  · have k := k.2 hb
    exact zr_return_ dX8_dateBy_29 rfl k
set_option maxHeartbeats 2000000 in
theorem vX8_dateBy_39 {G : Gp} {bc bs : Nat} {Q : zPost} {S : zSh} {I : zFI} {L : zFL} {c1 : Nat} {v2 : Int32} {v3 : Int32} {v4 : Int32} {v5 : Int32} {v6 : Int32} (hS : zStd S) (hc1 : zCu c1) (k : (((200 : Int32) ≤ v6 → (((I 67 6) = (-1 : Int32) → (((0 : Int32) = 0 → Q none S (u2 I 67 8 (0 : Int32)) L) ∧ (¬ (0 : Int32) = 0 → ZC G mX8_fell fX8_fell lX8_fell [zo G 67, zo G c1, .int (if v4 < (p_X8_sapTold (u2 I 67 8 (0 : Int32)) v2) then v4 else (p_X8_sapTold (u2 I 67 8 (0 : Int32)) v2)), .int (p_X8_barkTold (u2 I 67 8 (0 : Int32)) v2)] S (u2 I 67 8 (0 : Int32)) L 0 0 (fun w S' I1 L1 => w = none ∧ S = S' ∧ Q none S I1 L1)))) ∧ (¬ (I 67 6) = (-1 : Int32) → ((((100 : Int32) * (I 67 7)) < ((I c1 4) * (v4 - (1 : Int32))) → (((0 : Int32) = 0 → Q none S (u2 I 67 8 (0 : Int32)) L) ∧ (¬ (0 : Int32) = 0 → ZC G mX8_fell fX8_fell lX8_fell [zo G 67, zo G c1, .int (if v4 < (p_X8_sapTold (u2 I 67 8 (0 : Int32)) v2) then v4 else (p_X8_sapTold (u2 I 67 8 (0 : Int32)) v2)), .int (p_X8_barkTold (u2 I 67 8 (0 : Int32)) v2)] S (u2 I 67 8 (0 : Int32)) L 0 0 (fun w S' I2 L2 => w = none ∧ S = S' ∧ Q none S I2 L2)))) ∧ (¬ ((100 : Int32) * (I 67 7)) < ((I c1 4) * (v4 - (1 : Int32))) → ((v5 = (-1 : Int32) → (((1 : Int32) = 0 → Q none S (u2 I 67 8 (1 : Int32)) L) ∧ (¬ (1 : Int32) = 0 → ZC G mX8_fell fX8_fell lX8_fell [zo G 67, zo G c1, .int (if v4 < (p_X8_sapTold (u2 I 67 8 (1 : Int32)) v2) then v4 else (p_X8_sapTold (u2 I 67 8 (1 : Int32)) v2)), .int (p_X8_barkTold (u2 I 67 8 (1 : Int32)) v2)] S (u2 I 67 8 (1 : Int32)) L 0 0 (fun w S' I3 L3 => w = none ∧ S = S' ∧ Q none S I3 L3)))) ∧ (¬ v5 = (-1 : Int32) → ((((I 67 7) - (I c1 5)) < v5 → (((0 : Int32) = 0 → Q none S (u2 I 67 8 (0 : Int32)) L) ∧ (¬ (0 : Int32) = 0 → ZC G mX8_fell fX8_fell lX8_fell [zo G 67, zo G c1, .int (if v4 < (p_X8_sapTold (u2 I 67 8 (0 : Int32)) v2) then v4 else (p_X8_sapTold (u2 I 67 8 (0 : Int32)) v2)), .int (p_X8_barkTold (u2 I 67 8 (0 : Int32)) v2)] S (u2 I 67 8 (0 : Int32)) L 0 0 (fun w S' I4 L4 => w = none ∧ S = S' ∧ Q none S I4 L4)))) ∧ (¬ ((I 67 7) - (I c1 5)) < v5 → (((1 : Int32) = 0 → Q none S (u2 I 67 8 (1 : Int32)) L) ∧ (¬ (1 : Int32) = 0 → ZC G mX8_fell fX8_fell lX8_fell [zo G 67, zo G c1, .int (if v4 < (p_X8_sapTold (u2 I 67 8 (1 : Int32)) v2) then v4 else (p_X8_sapTold (u2 I 67 8 (1 : Int32)) v2)), .int (p_X8_barkTold (u2 I 67 8 (1 : Int32)) v2)] S (u2 I 67 8 (1 : Int32)) L 0 0 (fun w S' I5 L5 => w = none ∧ S = S' ∧ Q none S I5 L5)))))))))))) ∧ (¬ (200 : Int32) ≤ v6 → ZC G mX8_agreeAt fX8_agreeAt lX8_agreeAt [zo G 67, .int v2, .int v4, .int v6] S I L 0 0 (fun w S' I6 L6 => ∃ r6 : Int32, w = some (.int r6) ∧ S = S' ∧ ((r6 ≤ (I6 67 7) → ((r6 ≤ v5 → ZW G mX8_dateBy fX8_dateBy lX8_dateBy 39 [zo G 67, zo G c1, .int v2, .int v3, .int v4, .int v5, .int (v6 + 1), .null] [] S I6 L6 bc bs Q) ∧ (¬ r6 ≤ v5 → ZW G mX8_dateBy fX8_dateBy lX8_dateBy 39 [zo G 67, zo G c1, .int v2, .int v3, .int v4, .int r6, .int (v6 + 1), .null] [] S I6 L6 bc bs Q))) ∧ (¬ r6 ≤ (I6 67 7) → ZW G mX8_dateBy fX8_dateBy lX8_dateBy 39 [zo G 67, zo G c1, .int v2, .int v3, .int v4, .int (I6 67 7), .int (v6 + 1), .null] [] S (u2 (u2 I6 67 7 r6) 67 6 v6) L6 bc bs Q)))))) : ZW G mX8_dateBy fX8_dateBy lX8_dateBy 39 [zo G 67, zo G c1, .int v2, .int v3, .int v4, .int v5, .int v6, .null] [] S I L bc bs Q := by
  refine zr_iload dX8_dateBy_39 rfl ?_
  refine zr_sipush (v := 200) dX8_dateBy_41 (by decide) ?_
  refine zr_icge (tgt := 105) dX8_dateBy_44 (by decide) (fun hb => ?_) (fun hb => ?_)
  · have k := k.1 hb
    refine zr_aload_n dX8_dateBy_105 rfl rfl ?_
    refine zr_aload_n dX8_dateBy_106 rfl rfl ?_
    refine zr_getIv (x := (I 67 6)) dX8_dateBy_107 zf_X8_45 rfl (hS.has (a := 67) rfl rfl) rfl ?_
    refine zr_iconst (v := -1) dX8_dateBy_110 (by decide) ?_
    refine zr_iceq (tgt := 157) dX8_dateBy_111 (by decide) (fun hb => ?_) (fun hb => ?_)
    · have k := k.1 hb
      refine zr_iconst (v := 0) dX8_dateBy_157 (by decide) ?_
      refine zr_putI dX8_dateBy_158 zf_X8_52 rfl (hS.has (a := 67) rfl rfl) rfl rfl ?_
      refine zr_aload_n dX8_dateBy_161 rfl rfl ?_
      refine zr_getIv (x := (0 : Int32)) dX8_dateBy_162 zf_X8_52 rfl (hS.has (a := 67) rfl rfl) rfl ?_
      refine zr_ifeq (tgt := 188) dX8_dateBy_165 (by decide) (fun hb => ?_) (fun hb => ?_)
      · have k := k.1 hb
        exact zr_return_ dX8_dateBy_188 rfl k
      · have k := k.2 hb
        refine zr_aload_n dX8_dateBy_168 rfl rfl ?_
        refine zr_aload_n dX8_dateBy_169 rfl rfl ?_
        refine zr_aload_n dX8_dateBy_170 rfl rfl ?_
        refine zr_iload_n dX8_dateBy_171 rfl rfl ?_
        refine zr_callV (As := [.int v2]) (fr' := fX8_sapTold) (lo' := lX8_sapTold) (bc' := 0) (bs' := 0) (bcr := bc) (bsr := bs) dX8_dateBy_172 zs_X8_68 zi_X8_sapTold zcl_8 (hS.has (a := 67) rfl rfl) rfl rfl (Nat.le_of_ble_eq_true rfl) (Nat.le_of_ble_eq_true rfl) (Nat.le_of_ble_eq_true rfl) (Nat.le_refl _) (Nat.le_refl _) ?_
        refine sp_X8_sapTold hS  ?_
        show ZW G mX8_dateBy fX8_dateBy lX8_dateBy 175 [zo G 67, zo G c1, .int v2, .int v3, .int v4, .int v5, .int v6, .null] [.int (p_X8_sapTold (u2 I 67 8 (0 : Int32)) v2), zo G c1, zo G 67] S (u2 I 67 8 (0 : Int32)) L bc bs Q
        refine zr_iload dX8_dateBy_175 rfl ?_
        refine zr_mmin dX8_dateBy_177 zmt_X8_72 (Nat.le_of_ble_eq_true rfl) (Nat.le_of_ble_eq_true rfl) (Nat.le_of_ble_eq_true rfl) ?_
        refine zr_aload_n dX8_dateBy_180 rfl rfl ?_
        refine zr_iload_n dX8_dateBy_181 rfl rfl ?_
        refine zr_callV (As := [.int v2]) (fr' := fX8_barkTold) (lo' := lX8_barkTold) (bc' := 0) (bs' := 0) (bcr := bc) (bsr := bs) dX8_dateBy_182 zs_X8_77 zi_X8_barkTold zcl_8 (hS.has (a := 67) rfl rfl) rfl rfl (Nat.le_of_ble_eq_true rfl) (Nat.le_of_ble_eq_true rfl) (Nat.le_of_ble_eq_true rfl) (Nat.le_refl _) (Nat.le_refl _) ?_
        refine sp_X8_barkTold hS  ?_
        show ZW G mX8_dateBy fX8_dateBy lX8_dateBy 185 [zo G 67, zo G c1, .int v2, .int v3, .int v4, .int v5, .int v6, .null] [.int (p_X8_barkTold (u2 I 67 8 (0 : Int32)) v2), .int (if v4 < (p_X8_sapTold (u2 I 67 8 (0 : Int32)) v2) then v4 else (p_X8_sapTold (u2 I 67 8 (0 : Int32)) v2)), zo G c1, zo G 67] S (u2 I 67 8 (0 : Int32)) L bc bs Q
        refine zr_callV (As := [zo G c1, .int (if v4 < (p_X8_sapTold (u2 I 67 8 (0 : Int32)) v2) then v4 else (p_X8_sapTold (u2 I 67 8 (0 : Int32)) v2)), .int (p_X8_barkTold (u2 I 67 8 (0 : Int32)) v2)]) (fr' := fX8_fell) (lo' := lX8_fell) (bc' := 0) (bs' := 0) (bcr := bc) (bsr := bs) dX8_dateBy_185 zs_X8_81 zi_X8_fell zcl_8 (hS.has (a := 67) rfl rfl) rfl rfl (Nat.le_of_ble_eq_true rfl) (Nat.le_of_ble_eq_true rfl) (Nat.le_of_ble_eq_true rfl) (Nat.le_refl _) (Nat.le_refl _) ?_
        refine ZC.mono (fun w S' I1 L1 k => ?_) k
        obtain ⟨rfl, rfl, k⟩ := k
        show ZW G mX8_dateBy fX8_dateBy lX8_dateBy 188 [zo G 67, zo G c1, .int v2, .int v3, .int v4, .int v5, .int v6, .null] [] S I1 L1 bc bs Q
        exact zr_return_ dX8_dateBy_188 rfl k
    · have k := k.2 hb
      refine zr_bipush (v := 100) dX8_dateBy_114 (by decide) ?_
      refine zr_aload_n dX8_dateBy_116 rfl rfl ?_
      refine zr_getIv (x := (I 67 7)) dX8_dateBy_117 zf_X8_49 rfl (hS.has (a := 67) rfl rfl) rfl ?_
      refine zr_imul dX8_dateBy_120 ?_
      refine zr_aload_n dX8_dateBy_121 rfl rfl ?_
      refine zr_getIv (x := (I c1 4)) dX8_dateBy_122 zf_X8_60 rfl (hS.hasC hc1) rfl ?_
      refine zr_iload dX8_dateBy_125 rfl ?_
      refine zr_iconst (v := 1) dX8_dateBy_127 (by decide) ?_
      refine zr_isub dX8_dateBy_128 ?_
      refine zr_imul dX8_dateBy_129 ?_
      refine zr_iclt (tgt := 157) dX8_dateBy_130 (by decide) (fun hb => ?_) (fun hb => ?_)
      · have k := k.1 hb
        refine zr_iconst (v := 0) dX8_dateBy_157 (by decide) ?_
        refine zr_putI dX8_dateBy_158 zf_X8_52 rfl (hS.has (a := 67) rfl rfl) rfl rfl ?_
        refine zr_aload_n dX8_dateBy_161 rfl rfl ?_
        refine zr_getIv (x := (0 : Int32)) dX8_dateBy_162 zf_X8_52 rfl (hS.has (a := 67) rfl rfl) rfl ?_
        refine zr_ifeq (tgt := 188) dX8_dateBy_165 (by decide) (fun hb => ?_) (fun hb => ?_)
        · have k := k.1 hb
          exact zr_return_ dX8_dateBy_188 rfl k
        · have k := k.2 hb
          refine zr_aload_n dX8_dateBy_168 rfl rfl ?_
          refine zr_aload_n dX8_dateBy_169 rfl rfl ?_
          refine zr_aload_n dX8_dateBy_170 rfl rfl ?_
          refine zr_iload_n dX8_dateBy_171 rfl rfl ?_
          refine zr_callV (As := [.int v2]) (fr' := fX8_sapTold) (lo' := lX8_sapTold) (bc' := 0) (bs' := 0) (bcr := bc) (bsr := bs) dX8_dateBy_172 zs_X8_68 zi_X8_sapTold zcl_8 (hS.has (a := 67) rfl rfl) rfl rfl (Nat.le_of_ble_eq_true rfl) (Nat.le_of_ble_eq_true rfl) (Nat.le_of_ble_eq_true rfl) (Nat.le_refl _) (Nat.le_refl _) ?_
          refine sp_X8_sapTold hS  ?_
          show ZW G mX8_dateBy fX8_dateBy lX8_dateBy 175 [zo G 67, zo G c1, .int v2, .int v3, .int v4, .int v5, .int v6, .null] [.int (p_X8_sapTold (u2 I 67 8 (0 : Int32)) v2), zo G c1, zo G 67] S (u2 I 67 8 (0 : Int32)) L bc bs Q
          refine zr_iload dX8_dateBy_175 rfl ?_
          refine zr_mmin dX8_dateBy_177 zmt_X8_72 (Nat.le_of_ble_eq_true rfl) (Nat.le_of_ble_eq_true rfl) (Nat.le_of_ble_eq_true rfl) ?_
          refine zr_aload_n dX8_dateBy_180 rfl rfl ?_
          refine zr_iload_n dX8_dateBy_181 rfl rfl ?_
          refine zr_callV (As := [.int v2]) (fr' := fX8_barkTold) (lo' := lX8_barkTold) (bc' := 0) (bs' := 0) (bcr := bc) (bsr := bs) dX8_dateBy_182 zs_X8_77 zi_X8_barkTold zcl_8 (hS.has (a := 67) rfl rfl) rfl rfl (Nat.le_of_ble_eq_true rfl) (Nat.le_of_ble_eq_true rfl) (Nat.le_of_ble_eq_true rfl) (Nat.le_refl _) (Nat.le_refl _) ?_
          refine sp_X8_barkTold hS  ?_
          show ZW G mX8_dateBy fX8_dateBy lX8_dateBy 185 [zo G 67, zo G c1, .int v2, .int v3, .int v4, .int v5, .int v6, .null] [.int (p_X8_barkTold (u2 I 67 8 (0 : Int32)) v2), .int (if v4 < (p_X8_sapTold (u2 I 67 8 (0 : Int32)) v2) then v4 else (p_X8_sapTold (u2 I 67 8 (0 : Int32)) v2)), zo G c1, zo G 67] S (u2 I 67 8 (0 : Int32)) L bc bs Q
          refine zr_callV (As := [zo G c1, .int (if v4 < (p_X8_sapTold (u2 I 67 8 (0 : Int32)) v2) then v4 else (p_X8_sapTold (u2 I 67 8 (0 : Int32)) v2)), .int (p_X8_barkTold (u2 I 67 8 (0 : Int32)) v2)]) (fr' := fX8_fell) (lo' := lX8_fell) (bc' := 0) (bs' := 0) (bcr := bc) (bsr := bs) dX8_dateBy_185 zs_X8_81 zi_X8_fell zcl_8 (hS.has (a := 67) rfl rfl) rfl rfl (Nat.le_of_ble_eq_true rfl) (Nat.le_of_ble_eq_true rfl) (Nat.le_of_ble_eq_true rfl) (Nat.le_refl _) (Nat.le_refl _) ?_
          refine ZC.mono (fun w S' I2 L2 k => ?_) k
          obtain ⟨rfl, rfl, k⟩ := k
          show ZW G mX8_dateBy fX8_dateBy lX8_dateBy 188 [zo G 67, zo G c1, .int v2, .int v3, .int v4, .int v5, .int v6, .null] [] S I2 L2 bc bs Q
          exact zr_return_ dX8_dateBy_188 rfl k
      · have k := k.2 hb
        refine zr_iload dX8_dateBy_133 rfl ?_
        refine zr_iconst (v := -1) dX8_dateBy_135 (by decide) ?_
        refine zr_iceq (tgt := 153) dX8_dateBy_136 (by decide) (fun hb => ?_) (fun hb => ?_)
        · have k := k.1 hb
          refine zr_iconst (v := 1) dX8_dateBy_153 (by decide) ?_
          refine zr_goto (tgt := 158) dX8_dateBy_154 (by decide) ?_
          refine zr_putI dX8_dateBy_158 zf_X8_52 rfl (hS.has (a := 67) rfl rfl) rfl rfl ?_
          refine zr_aload_n dX8_dateBy_161 rfl rfl ?_
          refine zr_getIv (x := (1 : Int32)) dX8_dateBy_162 zf_X8_52 rfl (hS.has (a := 67) rfl rfl) rfl ?_
          refine zr_ifeq (tgt := 188) dX8_dateBy_165 (by decide) (fun hb => ?_) (fun hb => ?_)
          · have k := k.1 hb
            exact zr_return_ dX8_dateBy_188 rfl k
          · have k := k.2 hb
            refine zr_aload_n dX8_dateBy_168 rfl rfl ?_
            refine zr_aload_n dX8_dateBy_169 rfl rfl ?_
            refine zr_aload_n dX8_dateBy_170 rfl rfl ?_
            refine zr_iload_n dX8_dateBy_171 rfl rfl ?_
            refine zr_callV (As := [.int v2]) (fr' := fX8_sapTold) (lo' := lX8_sapTold) (bc' := 0) (bs' := 0) (bcr := bc) (bsr := bs) dX8_dateBy_172 zs_X8_68 zi_X8_sapTold zcl_8 (hS.has (a := 67) rfl rfl) rfl rfl (Nat.le_of_ble_eq_true rfl) (Nat.le_of_ble_eq_true rfl) (Nat.le_of_ble_eq_true rfl) (Nat.le_refl _) (Nat.le_refl _) ?_
            refine sp_X8_sapTold hS  ?_
            show ZW G mX8_dateBy fX8_dateBy lX8_dateBy 175 [zo G 67, zo G c1, .int v2, .int v3, .int v4, .int v5, .int v6, .null] [.int (p_X8_sapTold (u2 I 67 8 (1 : Int32)) v2), zo G c1, zo G 67] S (u2 I 67 8 (1 : Int32)) L bc bs Q
            refine zr_iload dX8_dateBy_175 rfl ?_
            refine zr_mmin dX8_dateBy_177 zmt_X8_72 (Nat.le_of_ble_eq_true rfl) (Nat.le_of_ble_eq_true rfl) (Nat.le_of_ble_eq_true rfl) ?_
            refine zr_aload_n dX8_dateBy_180 rfl rfl ?_
            refine zr_iload_n dX8_dateBy_181 rfl rfl ?_
            refine zr_callV (As := [.int v2]) (fr' := fX8_barkTold) (lo' := lX8_barkTold) (bc' := 0) (bs' := 0) (bcr := bc) (bsr := bs) dX8_dateBy_182 zs_X8_77 zi_X8_barkTold zcl_8 (hS.has (a := 67) rfl rfl) rfl rfl (Nat.le_of_ble_eq_true rfl) (Nat.le_of_ble_eq_true rfl) (Nat.le_of_ble_eq_true rfl) (Nat.le_refl _) (Nat.le_refl _) ?_
            refine sp_X8_barkTold hS  ?_
            show ZW G mX8_dateBy fX8_dateBy lX8_dateBy 185 [zo G 67, zo G c1, .int v2, .int v3, .int v4, .int v5, .int v6, .null] [.int (p_X8_barkTold (u2 I 67 8 (1 : Int32)) v2), .int (if v4 < (p_X8_sapTold (u2 I 67 8 (1 : Int32)) v2) then v4 else (p_X8_sapTold (u2 I 67 8 (1 : Int32)) v2)), zo G c1, zo G 67] S (u2 I 67 8 (1 : Int32)) L bc bs Q
            refine zr_callV (As := [zo G c1, .int (if v4 < (p_X8_sapTold (u2 I 67 8 (1 : Int32)) v2) then v4 else (p_X8_sapTold (u2 I 67 8 (1 : Int32)) v2)), .int (p_X8_barkTold (u2 I 67 8 (1 : Int32)) v2)]) (fr' := fX8_fell) (lo' := lX8_fell) (bc' := 0) (bs' := 0) (bcr := bc) (bsr := bs) dX8_dateBy_185 zs_X8_81 zi_X8_fell zcl_8 (hS.has (a := 67) rfl rfl) rfl rfl (Nat.le_of_ble_eq_true rfl) (Nat.le_of_ble_eq_true rfl) (Nat.le_of_ble_eq_true rfl) (Nat.le_refl _) (Nat.le_refl _) ?_
            refine ZC.mono (fun w S' I3 L3 k => ?_) k
            obtain ⟨rfl, rfl, k⟩ := k
            show ZW G mX8_dateBy fX8_dateBy lX8_dateBy 188 [zo G 67, zo G c1, .int v2, .int v3, .int v4, .int v5, .int v6, .null] [] S I3 L3 bc bs Q
            exact zr_return_ dX8_dateBy_188 rfl k
        · have k := k.2 hb
          refine zr_iload dX8_dateBy_139 rfl ?_
          refine zr_aload_n dX8_dateBy_141 rfl rfl ?_
          refine zr_getIv (x := (I 67 7)) dX8_dateBy_142 zf_X8_49 rfl (hS.has (a := 67) rfl rfl) rfl ?_
          refine zr_aload_n dX8_dateBy_145 rfl rfl ?_
          refine zr_getIv (x := (I c1 5)) dX8_dateBy_146 zf_X8_65 rfl (hS.hasC hc1) rfl ?_
          refine zr_isub dX8_dateBy_149 ?_
          refine zr_icgt (tgt := 157) dX8_dateBy_150 (by decide) (fun hb => ?_) (fun hb => ?_)
          · have k := k.1 hb
            refine zr_iconst (v := 0) dX8_dateBy_157 (by decide) ?_
            refine zr_putI dX8_dateBy_158 zf_X8_52 rfl (hS.has (a := 67) rfl rfl) rfl rfl ?_
            refine zr_aload_n dX8_dateBy_161 rfl rfl ?_
            refine zr_getIv (x := (0 : Int32)) dX8_dateBy_162 zf_X8_52 rfl (hS.has (a := 67) rfl rfl) rfl ?_
            refine zr_ifeq (tgt := 188) dX8_dateBy_165 (by decide) (fun hb => ?_) (fun hb => ?_)
            · have k := k.1 hb
              exact zr_return_ dX8_dateBy_188 rfl k
            · have k := k.2 hb
              refine zr_aload_n dX8_dateBy_168 rfl rfl ?_
              refine zr_aload_n dX8_dateBy_169 rfl rfl ?_
              refine zr_aload_n dX8_dateBy_170 rfl rfl ?_
              refine zr_iload_n dX8_dateBy_171 rfl rfl ?_
              refine zr_callV (As := [.int v2]) (fr' := fX8_sapTold) (lo' := lX8_sapTold) (bc' := 0) (bs' := 0) (bcr := bc) (bsr := bs) dX8_dateBy_172 zs_X8_68 zi_X8_sapTold zcl_8 (hS.has (a := 67) rfl rfl) rfl rfl (Nat.le_of_ble_eq_true rfl) (Nat.le_of_ble_eq_true rfl) (Nat.le_of_ble_eq_true rfl) (Nat.le_refl _) (Nat.le_refl _) ?_
              refine sp_X8_sapTold hS  ?_
              show ZW G mX8_dateBy fX8_dateBy lX8_dateBy 175 [zo G 67, zo G c1, .int v2, .int v3, .int v4, .int v5, .int v6, .null] [.int (p_X8_sapTold (u2 I 67 8 (0 : Int32)) v2), zo G c1, zo G 67] S (u2 I 67 8 (0 : Int32)) L bc bs Q
              refine zr_iload dX8_dateBy_175 rfl ?_
              refine zr_mmin dX8_dateBy_177 zmt_X8_72 (Nat.le_of_ble_eq_true rfl) (Nat.le_of_ble_eq_true rfl) (Nat.le_of_ble_eq_true rfl) ?_
              refine zr_aload_n dX8_dateBy_180 rfl rfl ?_
              refine zr_iload_n dX8_dateBy_181 rfl rfl ?_
              refine zr_callV (As := [.int v2]) (fr' := fX8_barkTold) (lo' := lX8_barkTold) (bc' := 0) (bs' := 0) (bcr := bc) (bsr := bs) dX8_dateBy_182 zs_X8_77 zi_X8_barkTold zcl_8 (hS.has (a := 67) rfl rfl) rfl rfl (Nat.le_of_ble_eq_true rfl) (Nat.le_of_ble_eq_true rfl) (Nat.le_of_ble_eq_true rfl) (Nat.le_refl _) (Nat.le_refl _) ?_
              refine sp_X8_barkTold hS  ?_
              show ZW G mX8_dateBy fX8_dateBy lX8_dateBy 185 [zo G 67, zo G c1, .int v2, .int v3, .int v4, .int v5, .int v6, .null] [.int (p_X8_barkTold (u2 I 67 8 (0 : Int32)) v2), .int (if v4 < (p_X8_sapTold (u2 I 67 8 (0 : Int32)) v2) then v4 else (p_X8_sapTold (u2 I 67 8 (0 : Int32)) v2)), zo G c1, zo G 67] S (u2 I 67 8 (0 : Int32)) L bc bs Q
              refine zr_callV (As := [zo G c1, .int (if v4 < (p_X8_sapTold (u2 I 67 8 (0 : Int32)) v2) then v4 else (p_X8_sapTold (u2 I 67 8 (0 : Int32)) v2)), .int (p_X8_barkTold (u2 I 67 8 (0 : Int32)) v2)]) (fr' := fX8_fell) (lo' := lX8_fell) (bc' := 0) (bs' := 0) (bcr := bc) (bsr := bs) dX8_dateBy_185 zs_X8_81 zi_X8_fell zcl_8 (hS.has (a := 67) rfl rfl) rfl rfl (Nat.le_of_ble_eq_true rfl) (Nat.le_of_ble_eq_true rfl) (Nat.le_of_ble_eq_true rfl) (Nat.le_refl _) (Nat.le_refl _) ?_
              refine ZC.mono (fun w S' I4 L4 k => ?_) k
              obtain ⟨rfl, rfl, k⟩ := k
              show ZW G mX8_dateBy fX8_dateBy lX8_dateBy 188 [zo G 67, zo G c1, .int v2, .int v3, .int v4, .int v5, .int v6, .null] [] S I4 L4 bc bs Q
              exact zr_return_ dX8_dateBy_188 rfl k
          · have k := k.2 hb
            refine zr_iconst (v := 1) dX8_dateBy_153 (by decide) ?_
            refine zr_goto (tgt := 158) dX8_dateBy_154 (by decide) ?_
            refine zr_putI dX8_dateBy_158 zf_X8_52 rfl (hS.has (a := 67) rfl rfl) rfl rfl ?_
            refine zr_aload_n dX8_dateBy_161 rfl rfl ?_
            refine zr_getIv (x := (1 : Int32)) dX8_dateBy_162 zf_X8_52 rfl (hS.has (a := 67) rfl rfl) rfl ?_
            refine zr_ifeq (tgt := 188) dX8_dateBy_165 (by decide) (fun hb => ?_) (fun hb => ?_)
            · have k := k.1 hb
              exact zr_return_ dX8_dateBy_188 rfl k
            · have k := k.2 hb
              refine zr_aload_n dX8_dateBy_168 rfl rfl ?_
              refine zr_aload_n dX8_dateBy_169 rfl rfl ?_
              refine zr_aload_n dX8_dateBy_170 rfl rfl ?_
              refine zr_iload_n dX8_dateBy_171 rfl rfl ?_
              refine zr_callV (As := [.int v2]) (fr' := fX8_sapTold) (lo' := lX8_sapTold) (bc' := 0) (bs' := 0) (bcr := bc) (bsr := bs) dX8_dateBy_172 zs_X8_68 zi_X8_sapTold zcl_8 (hS.has (a := 67) rfl rfl) rfl rfl (Nat.le_of_ble_eq_true rfl) (Nat.le_of_ble_eq_true rfl) (Nat.le_of_ble_eq_true rfl) (Nat.le_refl _) (Nat.le_refl _) ?_
              refine sp_X8_sapTold hS  ?_
              show ZW G mX8_dateBy fX8_dateBy lX8_dateBy 175 [zo G 67, zo G c1, .int v2, .int v3, .int v4, .int v5, .int v6, .null] [.int (p_X8_sapTold (u2 I 67 8 (1 : Int32)) v2), zo G c1, zo G 67] S (u2 I 67 8 (1 : Int32)) L bc bs Q
              refine zr_iload dX8_dateBy_175 rfl ?_
              refine zr_mmin dX8_dateBy_177 zmt_X8_72 (Nat.le_of_ble_eq_true rfl) (Nat.le_of_ble_eq_true rfl) (Nat.le_of_ble_eq_true rfl) ?_
              refine zr_aload_n dX8_dateBy_180 rfl rfl ?_
              refine zr_iload_n dX8_dateBy_181 rfl rfl ?_
              refine zr_callV (As := [.int v2]) (fr' := fX8_barkTold) (lo' := lX8_barkTold) (bc' := 0) (bs' := 0) (bcr := bc) (bsr := bs) dX8_dateBy_182 zs_X8_77 zi_X8_barkTold zcl_8 (hS.has (a := 67) rfl rfl) rfl rfl (Nat.le_of_ble_eq_true rfl) (Nat.le_of_ble_eq_true rfl) (Nat.le_of_ble_eq_true rfl) (Nat.le_refl _) (Nat.le_refl _) ?_
              refine sp_X8_barkTold hS  ?_
              show ZW G mX8_dateBy fX8_dateBy lX8_dateBy 185 [zo G 67, zo G c1, .int v2, .int v3, .int v4, .int v5, .int v6, .null] [.int (p_X8_barkTold (u2 I 67 8 (1 : Int32)) v2), .int (if v4 < (p_X8_sapTold (u2 I 67 8 (1 : Int32)) v2) then v4 else (p_X8_sapTold (u2 I 67 8 (1 : Int32)) v2)), zo G c1, zo G 67] S (u2 I 67 8 (1 : Int32)) L bc bs Q
              refine zr_callV (As := [zo G c1, .int (if v4 < (p_X8_sapTold (u2 I 67 8 (1 : Int32)) v2) then v4 else (p_X8_sapTold (u2 I 67 8 (1 : Int32)) v2)), .int (p_X8_barkTold (u2 I 67 8 (1 : Int32)) v2)]) (fr' := fX8_fell) (lo' := lX8_fell) (bc' := 0) (bs' := 0) (bcr := bc) (bsr := bs) dX8_dateBy_185 zs_X8_81 zi_X8_fell zcl_8 (hS.has (a := 67) rfl rfl) rfl rfl (Nat.le_of_ble_eq_true rfl) (Nat.le_of_ble_eq_true rfl) (Nat.le_of_ble_eq_true rfl) (Nat.le_refl _) (Nat.le_refl _) ?_
              refine ZC.mono (fun w S' I5 L5 k => ?_) k
              obtain ⟨rfl, rfl, k⟩ := k
              show ZW G mX8_dateBy fX8_dateBy lX8_dateBy 188 [zo G 67, zo G c1, .int v2, .int v3, .int v4, .int v5, .int v6, .null] [] S I5 L5 bc bs Q
              exact zr_return_ dX8_dateBy_188 rfl k
  · have k := k.2 hb
    refine zr_aload_n dX8_dateBy_47 rfl rfl ?_
    refine zr_iload_n dX8_dateBy_48 rfl rfl ?_
    refine zr_iload dX8_dateBy_49 rfl ?_
    refine zr_iload dX8_dateBy_51 rfl ?_
    refine zr_callV (As := [.int v2, .int v4, .int v6]) (fr' := fX8_agreeAt) (lo' := lX8_agreeAt) (bc' := 0) (bs' := 0) (bcr := bc) (bsr := bs) dX8_dateBy_53 zs_X8_56 zi_X8_agreeAt zcl_8 (hS.has (a := 67) rfl rfl) rfl rfl (Nat.le_of_ble_eq_true rfl) (Nat.le_of_ble_eq_true rfl) (Nat.le_of_ble_eq_true rfl) (Nat.le_refl _) (Nat.le_refl _) ?_
    refine ZC.mono (fun w S' I6 L6 k => ?_) k
    obtain ⟨r6, rfl, rfl, k⟩ := k
    show ZW G mX8_dateBy fX8_dateBy lX8_dateBy 56 [zo G 67, zo G c1, .int v2, .int v3, .int v4, .int v5, .int v6, .null] [.int r6] S I6 L6 bc bs Q
    refine zr_istore dX8_dateBy_56 (Nat.le_of_ble_eq_true rfl) rfl ?_
    refine zr_iload dX8_dateBy_58 rfl ?_
    refine zr_aload_n dX8_dateBy_60 rfl rfl ?_
    refine zr_getIv (x := (I6 67 7)) dX8_dateBy_61 zf_X8_49 rfl (hS.has (a := 67) rfl rfl) rfl ?_
    refine zr_icle (tgt := 88) dX8_dateBy_64 (by decide) (fun hb => ?_) (fun hb => ?_)
    · have k := k.1 hb
      refine zr_iload dX8_dateBy_88 rfl ?_
      refine zr_iload dX8_dateBy_90 rfl ?_
      refine zr_icle (tgt := 99) dX8_dateBy_92 (by decide) (fun hb => ?_) (fun hb => ?_)
      · have k := k.1 hb
        refine zr_iinc (v := (v6 + 1)) dX8_dateBy_99 rfl rfl (Nat.le_of_ble_eq_true rfl) rfl ?_
        refine zr_goto (tgt := 39) dX8_dateBy_102 (by decide) ?_
        exact zr_mask [true, true, true, true, true, true, true, false] rfl k
      · have k := k.2 hb
        refine zr_iload dX8_dateBy_95 rfl ?_
        refine zr_istore dX8_dateBy_97 (Nat.le_of_ble_eq_true rfl) rfl ?_
        refine zr_iinc (v := (v6 + 1)) dX8_dateBy_99 rfl rfl (Nat.le_of_ble_eq_true rfl) rfl ?_
        refine zr_goto (tgt := 39) dX8_dateBy_102 (by decide) ?_
        exact zr_mask [true, true, true, true, true, true, true, false] rfl k
    · have k := k.2 hb
      refine zr_aload_n dX8_dateBy_67 rfl rfl ?_
      refine zr_getIv (x := (I6 67 7)) dX8_dateBy_68 zf_X8_49 rfl (hS.has (a := 67) rfl rfl) rfl ?_
      refine zr_istore dX8_dateBy_71 (Nat.le_of_ble_eq_true rfl) rfl ?_
      refine zr_aload_n dX8_dateBy_73 rfl rfl ?_
      refine zr_iload dX8_dateBy_74 rfl ?_
      refine zr_putI dX8_dateBy_76 zf_X8_49 rfl (hS.has (a := 67) rfl rfl) rfl rfl ?_
      refine zr_aload_n dX8_dateBy_79 rfl rfl ?_
      refine zr_iload dX8_dateBy_80 rfl ?_
      refine zr_putI dX8_dateBy_82 zf_X8_45 rfl (hS.has (a := 67) rfl rfl) rfl rfl ?_
      refine zr_goto (tgt := 99) dX8_dateBy_85 (by decide) ?_
      refine zr_iinc (v := (v6 + 1)) dX8_dateBy_99 rfl rfl (Nat.le_of_ble_eq_true rfl) rfl ?_
      refine zr_goto (tgt := 39) dX8_dateBy_102 (by decide) ?_
      exact zr_mask [true, true, true, true, true, true, true, false] rfl k
set_option maxHeartbeats 2000000 in
theorem vX8_isSure_0 {G : Gp} {bc bs : Nat} {Q : zPost} {S : zSh} {I : zFI} {L : zFL}  (hS : zStd S)  (k : narrow .boolean (.int (I 67 8)) = .int (I 67 8) ∧ Q (some (.int (I 67 8))) S I L) : ZW G mX8_isSure fX8_isSure lX8_isSure 0 [zo G 67] [] S I L bc bs Q := by
  refine zr_aload_n dX8_isSure_0 rfl rfl ?_
  refine zr_getIv (x := (I 67 8)) dX8_isSure_1 zf_X8_52 rfl (hS.has (a := 67) rfl rfl) rfl ?_
  exact zr_ireturn dX8_isSure_4 rfl k.1 k.2
def p_X8_isSure (I : zFI)  : Int32 := (I 67 8)
set_option maxHeartbeats 2000000 in
theorem sp_X8_isSure {G : Gp} {Q : zPost} {S : zSh} {I : zFI} {L : zFL}  (hS : zStd S)  (hv0 : narrow .boolean (.int (I 67 8)) = .int (I 67 8)) (h : Q (some (.int (p_X8_isSure I ))) S I L) : ZC G mX8_isSure fX8_isSure lX8_isSure [zo G 67] S I L 0 0 Q := by
  refine ZC.of' (vX8_isSure_0 hS  ?_) rfl (Nat.le_of_ble_eq_true rfl) rfl
  unfold p_X8_isSure at h
  refine ⟨hv0 , ?_⟩
  exact h
set_option maxHeartbeats 2000000 in
theorem vX8_felledOrUsed_0 {G : Gp} {bc bs : Nat} {Q : zPost} {S : zSh} {I : zFI} {L : zFL} {v1 : Int32} (hS : zStd S)  (k : ((v1 = 3 → Q (some (.int (I 67 9))) S I L) ∧ (v1 = 4 → Q (some (.int (I 67 10))) S I L) ∧ (v1 = 5 → Q (some (.int (I 67 9))) S I L) ∧ (v1 = 6 → Q (some (.int (I 67 11))) S I L) ∧ (¬ v1 = 3 → ¬ v1 = 4 → ¬ v1 = 5 → ¬ v1 = 6 → Q (some (.int (-1 : Int32))) S I L))) : ZW G mX8_felledOrUsed fX8_felledOrUsed lX8_felledOrUsed 0 [zo G 67, .int v1] [] S I L bc bs Q := by
  refine zr_iload_n dX8_felledOrUsed_0 rfl rfl ?_
  by_cases h0 : v1 = 3
  · have k := k.1 h0
    refine zr_tabIn (off := 31) (tgt := 32) dX8_felledOrUsed_1 (by rw [h0]; decide) (by rw [h0]; decide) (by rw [h0]; rfl) (by decide) ?_
    refine zr_aload_n dX8_felledOrUsed_32 rfl rfl ?_
    refine zr_getIv (x := (I 67 9)) dX8_felledOrUsed_33 zf_X8_91 rfl (hS.has (a := 67) rfl rfl) rfl ?_
    exact zr_ireturn dX8_felledOrUsed_36 rfl rfl k
  · by_cases h1 : v1 = 4
    · have k := k.2.1 h1
      refine zr_tabIn (off := 36) (tgt := 37) dX8_felledOrUsed_1 (by rw [h1]; decide) (by rw [h1]; decide) (by rw [h1]; rfl) (by decide) ?_
      refine zr_aload_n dX8_felledOrUsed_37 rfl rfl ?_
      refine zr_getIv (x := (I 67 10)) dX8_felledOrUsed_38 zf_X8_94 rfl (hS.has (a := 67) rfl rfl) rfl ?_
      exact zr_ireturn dX8_felledOrUsed_41 rfl rfl k
    · by_cases h2 : v1 = 5
      · have k := k.2.2.1 h2
        refine zr_tabIn (off := 41) (tgt := 42) dX8_felledOrUsed_1 (by rw [h2]; decide) (by rw [h2]; decide) (by rw [h2]; rfl) (by decide) ?_
        refine zr_aload_n dX8_felledOrUsed_42 rfl rfl ?_
        refine zr_getIv (x := (I 67 9)) dX8_felledOrUsed_43 zf_X8_91 rfl (hS.has (a := 67) rfl rfl) rfl ?_
        exact zr_ireturn dX8_felledOrUsed_46 rfl rfl k
      · by_cases h3 : v1 = 6
        · have k := k.2.2.2.1 h3
          refine zr_tabIn (off := 46) (tgt := 47) dX8_felledOrUsed_1 (by rw [h3]; decide) (by rw [h3]; decide) (by rw [h3]; rfl) (by decide) ?_
          refine zr_aload_n dX8_felledOrUsed_47 rfl rfl ?_
          refine zr_getIv (x := (I 67 11)) dX8_felledOrUsed_48 zf_X8_109 rfl (hS.has (a := 67) rfl rfl) rfl ?_
          exact zr_ireturn dX8_felledOrUsed_51 rfl rfl k
        · have k := k.2.2.2.2 h0 h1 h2 h3
          refine zr_tabOut (tgt := 52) dX8_felledOrUsed_1 ?_ (by decide) ?_
          · have e0 := ztab_ne h0; have e1 := ztab_ne h1; have e2 := ztab_ne h2; have e3 := ztab_ne h3; simp only [ztabv_3, ztabv_4, ztabv_5, ztabv_6] at e0 e1 e2 e3; omega
          refine zr_iconst (v := -1) dX8_felledOrUsed_52 (by decide) ?_
          exact zr_ireturn dX8_felledOrUsed_53 rfl rfl k
def p_X8_felledOrUsed (I : zFI) (v1 : Int32) : Int32 := (if v1 = 3 then (I 67 9) else (if v1 = 4 then (I 67 10) else (if v1 = 5 then (I 67 9) else (if v1 = 6 then (I 67 11) else (-1 : Int32)))))
set_option maxHeartbeats 2000000 in
theorem sp_X8_felledOrUsed {G : Gp} {Q : zPost} {S : zSh} {I : zFI} {L : zFL} {v1 : Int32} (hS : zStd S)  (h : Q (some (.int (p_X8_felledOrUsed I v1))) S I L) : ZC G mX8_felledOrUsed fX8_felledOrUsed lX8_felledOrUsed [zo G 67, .int v1] S I L 0 0 Q := by
  refine ZC.of' (vX8_felledOrUsed_0 hS  ?_) rfl (Nat.le_of_ble_eq_true rfl) rfl
  unfold p_X8_felledOrUsed at h
  refine ⟨?_, ?_, ?_, ?_, ?_⟩
  · intro hz
    rw [if_pos hz] at h
    exact h
  · intro hz
    rw [if_neg (by rw [hz]; decide), if_pos hz] at h
    exact h
  · intro hz
    rw [if_neg (by rw [hz]; decide), if_neg (by rw [hz]; decide), if_pos hz] at h
    exact h
  · intro hz
    rw [if_neg (by rw [hz]; decide), if_neg (by rw [hz]; decide), if_neg (by rw [hz]; decide), if_pos hz] at h
    exact h
  · intro hs1_0 hs1_1 hs1_2 hs1_3
    rw [if_neg hs1_0, if_neg hs1_1, if_neg hs1_2, if_neg hs1_3] at h
    exact h
set_option maxHeartbeats 2000000 in
theorem vX8_dated_0 {G : Gp} {bc bs : Nat} {Q : zPost} {S : zSh} {I : zFI} {L : zFL} {v1 : Int32} (hS : zStd S)  (k : ((¬ (I 67 6) = (-1 : Int32) → ((v1 = 0 → Q (some (.int (I 67 6))) S I L) ∧ (v1 = 1 → Q (some (.int (I 67 7))) S I L) ∧ (v1 = 2 → (((I 67 8) = 0 → Q (some (.int (0 : Int32))) S I L) ∧ (¬ (I 67 8) = 0 → Q (some (.int (1 : Int32))) S I L))) ∧ (¬ v1 = 0 → ¬ v1 = 1 → ¬ v1 = 2 → (((I 67 8) = 0 → Q (some (.int (-1 : Int32))) S I L) ∧ (¬ (I 67 8) = 0 → Q (some (.int (p_X8_felledOrUsed I v1))) S I L))))) ∧ ((I 67 6) = (-1 : Int32) → Q (some (.int (-1 : Int32))) S I L))) : ZW G mX8_dated fX8_dated lX8_dated 0 [zo G 67, .int v1] [] S I L bc bs Q := by
  refine zr_aload_n dX8_dated_0 rfl rfl ?_
  refine zr_getIv (x := (I 67 6)) dX8_dated_1 zf_X8_45 rfl (hS.has (a := 67) rfl rfl) rfl ?_
  refine zr_iconst (v := -1) dX8_dated_4 (by decide) ?_
  refine zr_icne (tgt := 10) dX8_dated_5 (by decide) (fun hb => ?_) (fun hb => ?_)
  · have k := k.1 hb
    refine zr_iload_n dX8_dated_10 rfl rfl ?_
    by_cases h0 : v1 = 0
    · have k := k.1 h0
      refine zr_tabIn (off := 25) (tgt := 36) dX8_dated_11 (by rw [h0]; decide) (by rw [h0]; decide) (by rw [h0]; rfl) (by decide) ?_
      refine zr_aload_n dX8_dated_36 rfl rfl ?_
      refine zr_getIv (x := (I 67 6)) dX8_dated_37 zf_X8_45 rfl (hS.has (a := 67) rfl rfl) rfl ?_
      exact zr_ireturn dX8_dated_40 rfl rfl k
    · by_cases h1 : v1 = 1
      · have k := k.2.1 h1
        refine zr_tabIn (off := 30) (tgt := 41) dX8_dated_11 (by rw [h1]; decide) (by rw [h1]; decide) (by rw [h1]; rfl) (by decide) ?_
        refine zr_aload_n dX8_dated_41 rfl rfl ?_
        refine zr_getIv (x := (I 67 7)) dX8_dated_42 zf_X8_49 rfl (hS.has (a := 67) rfl rfl) rfl ?_
        exact zr_ireturn dX8_dated_45 rfl rfl k
      · by_cases h2 : v1 = 2
        · have k := k.2.2.1 h2
          refine zr_tabIn (off := 35) (tgt := 46) dX8_dated_11 (by rw [h2]; decide) (by rw [h2]; decide) (by rw [h2]; rfl) (by decide) ?_
          refine zr_aload_n dX8_dated_46 rfl rfl ?_
          refine zr_getIv (x := (I 67 8)) dX8_dated_47 zf_X8_52 rfl (hS.has (a := 67) rfl rfl) rfl ?_
          refine zr_ifeq (tgt := 57) dX8_dated_50 (by decide) (fun hb => ?_) (fun hb => ?_)
          · have k := k.1 hb
            refine zr_iconst (v := 0) dX8_dated_57 (by decide) ?_
            exact zr_ireturn dX8_dated_58 rfl rfl k
          · have k := k.2 hb
            refine zr_iconst (v := 1) dX8_dated_53 (by decide) ?_
            refine zr_goto (tgt := 58) dX8_dated_54 (by decide) ?_
            exact zr_ireturn dX8_dated_58 rfl rfl k
        · have k := k.2.2.2 h0 h1 h2
          refine zr_tabOut (tgt := 59) dX8_dated_11 ?_ (by decide) ?_
          · have e0 := ztab_ne h0; have e1 := ztab_ne h1; have e2 := ztab_ne h2; simp only [ztabv_0, ztabv_1, ztabv_2] at e0 e1 e2; omega
          refine zr_aload_n dX8_dated_59 rfl rfl ?_
          refine zr_getIv (x := (I 67 8)) dX8_dated_60 zf_X8_52 rfl (hS.has (a := 67) rfl rfl) rfl ?_
          refine zr_ifeq (tgt := 74) dX8_dated_63 (by decide) (fun hb => ?_) (fun hb => ?_)
          · have k := k.1 hb
            refine zr_iconst (v := -1) dX8_dated_74 (by decide) ?_
            exact zr_ireturn dX8_dated_75 rfl rfl k
          · have k := k.2 hb
            refine zr_aload_n dX8_dated_66 rfl rfl ?_
            refine zr_iload_n dX8_dated_67 rfl rfl ?_
            refine zr_callV (As := [.int v1]) (fr' := fX8_felledOrUsed) (lo' := lX8_felledOrUsed) (bc' := 0) (bs' := 0) (bcr := bc) (bsr := bs) dX8_dated_68 zs_X8_112 zi_X8_felledOrUsed zcl_8 (hS.has (a := 67) rfl rfl) rfl rfl (Nat.le_of_ble_eq_true rfl) (Nat.le_of_ble_eq_true rfl) (Nat.le_of_ble_eq_true rfl) (Nat.le_refl _) (Nat.le_refl _) ?_
            refine sp_X8_felledOrUsed hS  ?_
            show ZW G mX8_dated fX8_dated lX8_dated 71 [zo G 67, .int v1] [.int (p_X8_felledOrUsed I v1)] S I L bc bs Q
            refine zr_goto (tgt := 75) dX8_dated_71 (by decide) ?_
            exact zr_ireturn dX8_dated_75 rfl rfl k
  · have k := k.2 hb
    refine zr_iconst (v := -1) dX8_dated_8 (by decide) ?_
    exact zr_ireturn dX8_dated_9 rfl rfl k
def p_X8_dated (I : zFI) (v1 : Int32) : Int32 := (if (I 67 6) = (-1 : Int32) then (-1 : Int32) else (if v1 = 0 then (I 67 6) else (if v1 = 1 then (I 67 7) else (if v1 = 2 then (if (I 67 8) = 0 then (0 : Int32) else (1 : Int32)) else (if (I 67 8) = 0 then (-1 : Int32) else (p_X8_felledOrUsed I v1))))))
set_option maxHeartbeats 2000000 in
theorem sp_X8_dated {G : Gp} {Q : zPost} {S : zSh} {I : zFI} {L : zFL} {v1 : Int32} (hS : zStd S)  (h : Q (some (.int (p_X8_dated I v1))) S I L) : ZC G mX8_dated fX8_dated lX8_dated [zo G 67, .int v1] S I L 0 0 Q := by
  refine ZC.of' (vX8_dated_0 hS  ?_) rfl (Nat.le_of_ble_eq_true rfl) rfl
  unfold p_X8_dated at h
  refine ⟨fun hb1 => ?_, fun hb1 => ?_⟩
  · rw [if_neg hb1] at h
    refine ⟨?_, ?_, ?_, ?_⟩
    · intro hz
      rw [if_pos hz] at h
      exact h
    · intro hz
      rw [if_neg (by rw [hz]; decide), if_pos hz] at h
      exact h
    · intro hz
      rw [if_neg (by rw [hz]; decide), if_neg (by rw [hz]; decide), if_pos hz] at h
      refine ⟨fun hb2 => ?_, fun hb2 => ?_⟩
      · rw [if_pos hb2] at h
        exact h
      · rw [if_neg hb2] at h
        exact h
    · intro hs2_0 hs2_1 hs2_2
      rw [if_neg hs2_0, if_neg hs2_1, if_neg hs2_2] at h
      refine ⟨fun hb3 => ?_, fun hb3 => ?_⟩
      · rw [if_pos hb3] at h
        exact h
      · rw [if_neg hb3] at h
        exact h
  · rw [if_pos hb1] at h
    exact h
set_option maxHeartbeats 2000000 in
theorem vX9_hasRoomFor_0 {G : Gp} {bc bs : Nat} {Q : zPost} {S : zSh} {I : zFI} {L : zFL} {v1 : Int32} (hS : zStd S)  (k : (((800 : Int32) < ((I 1 1) + v1) → Q (some (.int (0 : Int32))) S I L) ∧ (¬ (800 : Int32) < ((I 1 1) + v1) → Q (some (.int (1 : Int32))) S I L))) : ZW G mX9_hasRoomFor fX9_hasRoomFor lX9_hasRoomFor 0 [zo G 1, .int v1] [] S I L bc bs Q := by
  refine zr_aload_n dX9_hasRoomFor_0 rfl rfl ?_
  refine zr_getIv (x := (I 1 1)) dX9_hasRoomFor_1 zf_X9_15 rfl (hS.has (a := 1) rfl rfl) rfl ?_
  refine zr_iload_n dX9_hasRoomFor_4 rfl rfl ?_
  refine zr_iadd dX9_hasRoomFor_5 ?_
  refine zr_sipush (v := 800) dX9_hasRoomFor_6 (by decide) ?_
  refine zr_icgt (tgt := 16) dX9_hasRoomFor_9 (by decide) (fun hb => ?_) (fun hb => ?_)
  · have k := k.1 hb
    refine zr_iconst (v := 0) dX9_hasRoomFor_16 (by decide) ?_
    exact zr_ireturn dX9_hasRoomFor_17 rfl rfl k
  · have k := k.2 hb
    refine zr_iconst (v := 1) dX9_hasRoomFor_12 (by decide) ?_
    refine zr_goto (tgt := 17) dX9_hasRoomFor_13 (by decide) ?_
    exact zr_ireturn dX9_hasRoomFor_17 rfl rfl k
def p_X9_hasRoomFor (I : zFI) (v1 : Int32) : Int32 := (if (800 : Int32) < ((I 1 1) + v1) then (0 : Int32) else (1 : Int32))
set_option maxHeartbeats 2000000 in
theorem sp_X9_hasRoomFor {G : Gp} {Q : zPost} {S : zSh} {I : zFI} {L : zFL} {v1 : Int32} (hS : zStd S)  (h : Q (some (.int (p_X9_hasRoomFor I v1))) S I L) : ZC G mX9_hasRoomFor fX9_hasRoomFor lX9_hasRoomFor [zo G 1, .int v1] S I L 0 0 Q := by
  refine ZC.of' (vX9_hasRoomFor_0 hS  ?_) rfl (Nat.le_of_ble_eq_true rfl) rfl
  unfold p_X9_hasRoomFor at h
  refine ⟨fun hb1 => ?_, fun hb1 => ?_⟩
  · rw [if_pos hb1] at h
    exact h
  · rw [if_neg hb1] at h
    exact h
theorem pb_X9_hasRoomFor (I : zFI) (v1 : Int32) : p_X9_hasRoomFor I v1 = 0 ∨ p_X9_hasRoomFor I v1 = 1 := by
  unfold p_X9_hasRoomFor
  repeat' split
  all_goals first | exact Or.inl rfl | exact Or.inr rfl | assumption
set_option maxHeartbeats 2000000 in
theorem vX9_push_0 {G : Gp} {bc bs : Nat} {Q : zPost} {S : zSh} {I : zFI} {L : zFL} {v1 : Int32} (hS : zStd S)  (k : ZW G mX9_push fX9_push lX9_push 3 [zo G 1, .int v1, .int (24 : Int32)] [] S I L bc bs Q) : ZW G mX9_push fX9_push lX9_push 0 [zo G 1, .int v1, .null] [] S I L bc bs Q := by
  refine zr_bipush (v := 24) dX9_push_0 (by decide) ?_
  refine zr_istore_n dX9_push_2 rfl (Nat.le_of_ble_eq_true rfl) rfl ?_
  exact k
set_option maxHeartbeats 2000000 in
theorem vX9_push_3 {G : Gp} {bc bs : Nat} {Q : zPost} {S : zSh} {I : zFI} {L : zFL} {v1 : Int32} {v2 : Int32} (hS : zStd S)  (k : ((v2 < 0 → Q none S I L) ∧ (¬ v2 < 0 → (((800 : Int32) ≤ (I 1 1) → ZW G mX9_push fX9_push lX9_push 3 [zo G 1, .int v1, .int (v2 + (-8))] [] S I L bc bs Q) ∧ (¬ (800 : Int32) ≤ (I 1 1) → vp_in (I 1 1) 800 ∧ ZW G mX9_push fX9_push lX9_push 3 [zo G 1, .int v1, .int (v2 + (-8))] [] S (u2 (u2 I 2 (I 1 1).toNatClampNeg ((v1.toUInt32 >>> (v2.toUInt32 &&& Int32.toUInt32 31)).toInt32 &&& (255 : Int32))) 1 1 ((I 1 1) + (1 : Int32))) L bc bs Q))))) : ZW G mX9_push fX9_push lX9_push 3 [zo G 1, .int v1, .int v2] [] S I L bc bs Q := by
  refine zr_iload_n dX9_push_3 rfl rfl ?_
  refine zr_iflt (tgt := 49) dX9_push_4 (by decide) (fun hb => ?_) (fun hb => ?_)
  · have k := k.1 hb
    exact zr_return_ dX9_push_49 rfl k
  · have k := k.2 hb
    refine zr_aload_n dX9_push_7 rfl rfl ?_
    refine zr_getIv (x := (I 1 1)) dX9_push_8 zf_X9_15 rfl (hS.has (a := 1) rfl rfl) rfl ?_
    refine zr_sipush (v := 800) dX9_push_11 (by decide) ?_
    refine zr_icge (tgt := 43) dX9_push_14 (by decide) (fun hb => ?_) (fun hb => ?_)
    · have k := k.1 hb
      refine zr_iinc (v := (v2 + (-8))) dX9_push_43 rfl rfl (Nat.le_of_ble_eq_true rfl) rfl ?_
      refine zr_goto (tgt := 3) dX9_push_46 (by decide) ?_
      exact k
    · have k := k.2 hb
      refine zr_aload_n dX9_push_17 rfl rfl ?_
      refine zr_getR dX9_push_18 zf_X9_11 rfl (hS.has (a := 1) rfl rfl) (hS.ref (a := 2) rfl) ?_
      refine zr_aload_n dX9_push_21 rfl rfl ?_
      refine zr_getIv (x := (I 1 1)) dX9_push_22 zf_X9_15 rfl (hS.has (a := 1) rfl rfl) rfl ?_
      refine zr_iload_n dX9_push_25 rfl rfl ?_
      refine zr_iload_n dX9_push_26 rfl rfl ?_
      refine zr_iushr dX9_push_27 rfl ?_
      refine zr_sipush (v := 255) dX9_push_28 (by decide) ?_
      refine zr_iand dX9_push_31 ?_
      obtain ⟨hi1, k⟩ := k
      refine zr_iast dX9_push_32 (hS.has (a := 2) rfl rfl) hi1 ?_
      refine zr_aload_n dX9_push_33 rfl rfl ?_
      refine zr_dup dX9_push_34 rfl ?_
      refine zr_getIv (x := (I 1 1)) dX9_push_35 zf_X9_15 rfl (hS.has (a := 1) rfl rfl) rfl ?_
      refine zr_iconst (v := 1) dX9_push_38 (by decide) ?_
      refine zr_iadd dX9_push_39 ?_
      refine zr_putI dX9_push_40 zf_X9_15 rfl (hS.has (a := 1) rfl rfl) rfl rfl ?_
      refine zr_iinc (v := (v2 + (-8))) dX9_push_43 rfl rfl (Nat.le_of_ble_eq_true rfl) rfl ?_
      refine zr_goto (tgt := 3) dX9_push_46 (by decide) ?_
      exact k
set_option maxHeartbeats 2000000 in
theorem vX9_cut_0 {G : Gp} {bc bs : Nat} {Q : zPost} {S : zSh} {I : zFI} {L : zFL} {v1 : Int32} (hS : zStd S)  (k : ((v1 < 0 → Q (some (.int (0 : Int32))) S I L) ∧ (¬ v1 < 0 → ((v1 ≤ (I 1 1) → Q (some (.int (1 : Int32))) S (u2 I 1 1 v1) L) ∧ (¬ v1 ≤ (I 1 1) → Q (some (.int (0 : Int32))) S I L))))) : ZW G mX9_cut fX9_cut lX9_cut 0 [zo G 1, .int v1] [] S I L bc bs Q := by
  refine zr_iload_n dX9_cut_0 rfl rfl ?_
  refine zr_iflt (tgt := 12) dX9_cut_1 (by decide) (fun hb => ?_) (fun hb => ?_)
  · have k := k.1 hb
    refine zr_iconst (v := 0) dX9_cut_12 (by decide) ?_
    exact zr_ireturn dX9_cut_13 rfl rfl k
  · have k := k.2 hb
    refine zr_iload_n dX9_cut_4 rfl rfl ?_
    refine zr_aload_n dX9_cut_5 rfl rfl ?_
    refine zr_getIv (x := (I 1 1)) dX9_cut_6 zf_X9_15 rfl (hS.has (a := 1) rfl rfl) rfl ?_
    refine zr_icle (tgt := 14) dX9_cut_9 (by decide) (fun hb => ?_) (fun hb => ?_)
    · have k := k.1 hb
      refine zr_aload_n dX9_cut_14 rfl rfl ?_
      refine zr_iload_n dX9_cut_15 rfl rfl ?_
      refine zr_putI dX9_cut_16 zf_X9_15 rfl (hS.has (a := 1) rfl rfl) rfl rfl ?_
      refine zr_iconst (v := 1) dX9_cut_19 (by decide) ?_
      exact zr_ireturn dX9_cut_20 rfl rfl k
    · have k := k.2 hb
      refine zr_iconst (v := 0) dX9_cut_12 (by decide) ?_
      exact zr_ireturn dX9_cut_13 rfl rfl k
set_option maxHeartbeats 2000000 in
theorem vX9_clear_0 {G : Gp} {bc bs : Nat} {Q : zPost} {S : zSh} {I : zFI} {L : zFL}  (hS : zStd S)  (k : Q none S (u2 I 1 1 (0 : Int32)) L) : ZW G mX9_clear fX9_clear lX9_clear 0 [zo G 1] [] S I L bc bs Q := by
  refine zr_aload_n dX9_clear_0 rfl rfl ?_
  refine zr_iconst (v := 0) dX9_clear_1 (by decide) ?_
  refine zr_putI dX9_clear_2 zf_X9_15 rfl (hS.has (a := 1) rfl rfl) rfl rfl ?_
  exact zr_return_ dX9_clear_5 rfl k
set_option maxHeartbeats 2000000 in
theorem vX10_addTimber_0 {G : Gp} {bc bs : Nat} {Q : zPost} {S : zSh} {I : zFI} {L : zFL} {v1 : Int32} {v2 : Int32} {v3 : Int32} (hS : zStd S)  (k : ((v1 < 0 → Q (some (.int (-1 : Int32))) S I L) ∧ (¬ v1 < 0 → (((4 : Int32) ≤ v1 → Q (some (.int (-1 : Int32))) S I L) ∧ (¬ (4 : Int32) ≤ v1 → ((v2 < (1 : Int32) → Q (some (.int (-1 : Int32))) S I L) ∧ (¬ v2 < (1 : Int32) → (((99 : Int32) < v2 → Q (some (.int (-1 : Int32))) S I L) ∧ (¬ (99 : Int32) < v2 → (((I 10 0) < (16 : Int32) → vp_in (I 10 0) 16 ∧ Q (some (.int (((I 10 0) + (1 : Int32)) - (1 : Int32)))) S (u2 (u2 (u2 (u2 I 11 (I 10 0).toNatClampNeg v1) 12 (I 10 0).toNatClampNeg v2) 13 (I 10 0).toNatClampNeg v3) 10 0 ((I 10 0) + (1 : Int32))) L) ∧ (¬ (I 10 0) < (16 : Int32) → Q (some (.int (-1 : Int32))) S I L))))))))))) : ZW G mX10_addTimber fX10_addTimber lX10_addTimber 0 [zo G 10, .int v1, .int v2, .int v3] [] S I L bc bs Q := by
  refine zr_iload_n dX10_addTimber_0 rfl rfl ?_
  refine zr_iflt (tgt := 29) dX10_addTimber_1 (by decide) (fun hb => ?_) (fun hb => ?_)
  · have k := k.1 hb
    refine zr_iconst (v := -1) dX10_addTimber_29 (by decide) ?_
    exact zr_ireturn dX10_addTimber_30 rfl rfl k
  · have k := k.2 hb
    refine zr_iload_n dX10_addTimber_4 rfl rfl ?_
    refine zr_iconst (v := 4) dX10_addTimber_5 (by decide) ?_
    refine zr_icge (tgt := 29) dX10_addTimber_6 (by decide) (fun hb => ?_) (fun hb => ?_)
    · have k := k.1 hb
      refine zr_iconst (v := -1) dX10_addTimber_29 (by decide) ?_
      exact zr_ireturn dX10_addTimber_30 rfl rfl k
    · have k := k.2 hb
      refine zr_iload_n dX10_addTimber_9 rfl rfl ?_
      refine zr_iconst (v := 1) dX10_addTimber_10 (by decide) ?_
      refine zr_iclt (tgt := 29) dX10_addTimber_11 (by decide) (fun hb => ?_) (fun hb => ?_)
      · have k := k.1 hb
        refine zr_iconst (v := -1) dX10_addTimber_29 (by decide) ?_
        exact zr_ireturn dX10_addTimber_30 rfl rfl k
      · have k := k.2 hb
        refine zr_iload_n dX10_addTimber_14 rfl rfl ?_
        refine zr_bipush (v := 99) dX10_addTimber_15 (by decide) ?_
        refine zr_icgt (tgt := 29) dX10_addTimber_17 (by decide) (fun hb => ?_) (fun hb => ?_)
        · have k := k.1 hb
          refine zr_iconst (v := -1) dX10_addTimber_29 (by decide) ?_
          exact zr_ireturn dX10_addTimber_30 rfl rfl k
        · have k := k.2 hb
          refine zr_aload_n dX10_addTimber_20 rfl rfl ?_
          refine zr_getIv (x := (I 10 0)) dX10_addTimber_21 zf_X10_9 rfl (hS.has (a := 10) rfl rfl) rfl ?_
          refine zr_bipush (v := 16) dX10_addTimber_24 (by decide) ?_
          refine zr_iclt (tgt := 31) dX10_addTimber_26 (by decide) (fun hb => ?_) (fun hb => ?_)
          · have k := k.1 hb
            refine zr_aload_n dX10_addTimber_31 rfl rfl ?_
            refine zr_getR dX10_addTimber_32 zf_X10_15 rfl (hS.has (a := 10) rfl rfl) (hS.ref (a := 11) rfl) ?_
            refine zr_aload_n dX10_addTimber_35 rfl rfl ?_
            refine zr_getIv (x := (I 10 0)) dX10_addTimber_36 zf_X10_9 rfl (hS.has (a := 10) rfl rfl) rfl ?_
            refine zr_iload_n dX10_addTimber_39 rfl rfl ?_
            obtain ⟨hi1, k⟩ := k
            refine zr_iast dX10_addTimber_40 (hS.has (a := 11) rfl rfl) hi1 ?_
            refine zr_aload_n dX10_addTimber_41 rfl rfl ?_
            refine zr_getR dX10_addTimber_42 zf_X10_19 rfl (hS.has (a := 10) rfl rfl) (hS.ref (a := 12) rfl) ?_
            refine zr_aload_n dX10_addTimber_45 rfl rfl ?_
            refine zr_getIv (x := (I 10 0)) dX10_addTimber_46 zf_X10_9 rfl (hS.has (a := 10) rfl rfl) rfl ?_
            refine zr_iload_n dX10_addTimber_49 rfl rfl ?_
            refine zr_iast dX10_addTimber_50 (hS.has (a := 12) rfl rfl) hi1 ?_
            refine zr_aload_n dX10_addTimber_51 rfl rfl ?_
            refine zr_getR dX10_addTimber_52 zf_X10_22 rfl (hS.has (a := 10) rfl rfl) (hS.ref (a := 13) rfl) ?_
            refine zr_aload_n dX10_addTimber_55 rfl rfl ?_
            refine zr_getIv (x := (I 10 0)) dX10_addTimber_56 zf_X10_9 rfl (hS.has (a := 10) rfl rfl) rfl ?_
            refine zr_iload_n dX10_addTimber_59 rfl rfl ?_
            refine zr_iast dX10_addTimber_60 (hS.has (a := 13) rfl rfl) hi1 ?_
            refine zr_aload_n dX10_addTimber_61 rfl rfl ?_
            refine zr_dup dX10_addTimber_62 rfl ?_
            refine zr_getIv (x := (I 10 0)) dX10_addTimber_63 zf_X10_9 rfl (hS.has (a := 10) rfl rfl) rfl ?_
            refine zr_iconst (v := 1) dX10_addTimber_66 (by decide) ?_
            refine zr_iadd dX10_addTimber_67 ?_
            refine zr_putI dX10_addTimber_68 zf_X10_9 rfl (hS.has (a := 10) rfl rfl) rfl rfl ?_
            refine zr_aload_n dX10_addTimber_71 rfl rfl ?_
            refine zr_getIv (x := ((I 10 0) + (1 : Int32))) dX10_addTimber_72 zf_X10_9 rfl (hS.has (a := 10) rfl rfl) rfl ?_
            refine zr_iconst (v := 1) dX10_addTimber_75 (by decide) ?_
            refine zr_isub dX10_addTimber_76 ?_
            exact zr_ireturn dX10_addTimber_77 rfl rfl k
          · have k := k.2 hb
            refine zr_iconst (v := -1) dX10_addTimber_29 (by decide) ?_
            exact zr_ireturn dX10_addTimber_30 rfl rfl k
set_option maxHeartbeats 2000000 in
theorem vX10_hasTimber_0 {G : Gp} {bc bs : Nat} {Q : zPost} {S : zSh} {I : zFI} {L : zFL} {v1 : Int32} (hS : zStd S)  (k : ((v1 < 0 → Q (some (.int (0 : Int32))) S I L) ∧ (¬ v1 < 0 → (((I 10 0) ≤ v1 → Q (some (.int (0 : Int32))) S I L) ∧ (¬ (I 10 0) ≤ v1 → (((16 : Int32) ≤ v1 → Q (some (.int (0 : Int32))) S I L) ∧ (¬ (16 : Int32) ≤ v1 → Q (some (.int (1 : Int32))) S I L))))))) : ZW G mX10_hasTimber fX10_hasTimber lX10_hasTimber 0 [zo G 10, .int v1] [] S I L bc bs Q := by
  refine zr_iload_n dX10_hasTimber_0 rfl rfl ?_
  refine zr_iflt (tgt := 22) dX10_hasTimber_1 (by decide) (fun hb => ?_) (fun hb => ?_)
  · have k := k.1 hb
    refine zr_iconst (v := 0) dX10_hasTimber_22 (by decide) ?_
    exact zr_ireturn dX10_hasTimber_23 rfl rfl k
  · have k := k.2 hb
    refine zr_iload_n dX10_hasTimber_4 rfl rfl ?_
    refine zr_aload_n dX10_hasTimber_5 rfl rfl ?_
    refine zr_getIv (x := (I 10 0)) dX10_hasTimber_6 zf_X10_9 rfl (hS.has (a := 10) rfl rfl) rfl ?_
    refine zr_icge (tgt := 22) dX10_hasTimber_9 (by decide) (fun hb => ?_) (fun hb => ?_)
    · have k := k.1 hb
      refine zr_iconst (v := 0) dX10_hasTimber_22 (by decide) ?_
      exact zr_ireturn dX10_hasTimber_23 rfl rfl k
    · have k := k.2 hb
      refine zr_iload_n dX10_hasTimber_12 rfl rfl ?_
      refine zr_bipush (v := 16) dX10_hasTimber_13 (by decide) ?_
      refine zr_icge (tgt := 22) dX10_hasTimber_15 (by decide) (fun hb => ?_) (fun hb => ?_)
      · have k := k.1 hb
        refine zr_iconst (v := 0) dX10_hasTimber_22 (by decide) ?_
        exact zr_ireturn dX10_hasTimber_23 rfl rfl k
      · have k := k.2 hb
        refine zr_iconst (v := 1) dX10_hasTimber_18 (by decide) ?_
        refine zr_goto (tgt := 23) dX10_hasTimber_19 (by decide) ?_
        exact zr_ireturn dX10_hasTimber_23 rfl rfl k
def p_X10_hasTimber (I : zFI) (v1 : Int32) : Int32 := (if v1 < 0 then (0 : Int32) else (if (I 10 0) ≤ v1 then (0 : Int32) else (if (16 : Int32) ≤ v1 then (0 : Int32) else (1 : Int32))))
set_option maxHeartbeats 2000000 in
theorem sp_X10_hasTimber {G : Gp} {Q : zPost} {S : zSh} {I : zFI} {L : zFL} {v1 : Int32} (hS : zStd S)  (h : Q (some (.int (p_X10_hasTimber I v1))) S I L) : ZC G mX10_hasTimber fX10_hasTimber lX10_hasTimber [zo G 10, .int v1] S I L 0 0 Q := by
  refine ZC.of' (vX10_hasTimber_0 hS  ?_) rfl (Nat.le_of_ble_eq_true rfl) rfl
  unfold p_X10_hasTimber at h
  refine ⟨fun hb1 => ?_, fun hb1 => ?_⟩
  · rw [if_pos hb1] at h
    exact h
  · rw [if_neg hb1] at h
    refine ⟨fun hb2 => ?_, fun hb2 => ?_⟩
    · rw [if_pos hb2] at h
      exact h
    · rw [if_neg hb2] at h
      refine ⟨fun hb3 => ?_, fun hb3 => ?_⟩
      · rw [if_pos hb3] at h
        exact h
      · rw [if_neg hb3] at h
        exact h
theorem pb_X10_hasTimber (I : zFI) (v1 : Int32) : p_X10_hasTimber I v1 = 0 ∨ p_X10_hasTimber I v1 = 1 := by
  unfold p_X10_hasTimber
  repeat' split
  all_goals first | exact Or.inl rfl | exact Or.inr rfl | assumption
set_option maxHeartbeats 2000000 in
theorem vX10_jointsOf_0 {G : Gp} {bc bs : Nat} {Q : zPost} {S : zSh} {I : zFI} {L : zFL} {v1 : Int32} {v2 : Int32} (hS : zStd S)  (k : ZW G mX10_jointsOf fX10_jointsOf lX10_jointsOf 5 [zo G 10, .int v1, .int v2, .int (0 : Int32), .int (0 : Int32)] [] S I L bc bs Q) : ZW G mX10_jointsOf fX10_jointsOf lX10_jointsOf 0 [zo G 10, .int v1, .int v2, .null, .null] [] S I L bc bs Q := by
  refine zr_iconst (v := 0) dX10_jointsOf_0 (by decide) ?_
  refine zr_istore_n dX10_jointsOf_1 rfl (Nat.le_of_ble_eq_true rfl) rfl ?_
  refine zr_iconst (v := 0) dX10_jointsOf_2 (by decide) ?_
  refine zr_istore dX10_jointsOf_3 (Nat.le_of_ble_eq_true rfl) rfl ?_
  exact k
set_option maxHeartbeats 2000000 in
theorem vX10_jointsOf_5 {G : Gp} {bc bs : Nat} {Q : zPost} {S : zSh} {I : zFI} {L : zFL} {v1 : Int32} {v2 : Int32} {v3 : Int32} {v4 : Int32} (hS : zStd S)  (k : ((v2 ≤ v4 → Q (some (.int v3)) S I L) ∧ (¬ v2 ≤ v4 → (((48 : Int32) ≤ v4 → Q (some (.int v3)) S I L) ∧ (¬ (48 : Int32) ≤ v4 → vp_in v4 48 ∧ ((¬ (I 14 v4.toNatClampNeg) = v1 → ZW G mX10_jointsOf fX10_jointsOf lX10_jointsOf 5 [zo G 10, .int v1, .int v2, .int v3, .int (v4 + 1)] [] S I L bc bs Q) ∧ ((I 14 v4.toNatClampNeg) = v1 → ZW G mX10_jointsOf fX10_jointsOf lX10_jointsOf 5 [zo G 10, .int v1, .int v2, .int (v3 + 1), .int (v4 + 1)] [] S I L bc bs Q))))))) : ZW G mX10_jointsOf fX10_jointsOf lX10_jointsOf 5 [zo G 10, .int v1, .int v2, .int v3, .int v4] [] S I L bc bs Q := by
  refine zr_iload dX10_jointsOf_5 rfl ?_
  refine zr_iload_n dX10_jointsOf_7 rfl rfl ?_
  refine zr_icge (tgt := 38) dX10_jointsOf_8 (by decide) (fun hb => ?_) (fun hb => ?_)
  · have k := k.1 hb
    refine zr_iload_n dX10_jointsOf_38 rfl rfl ?_
    exact zr_ireturn dX10_jointsOf_39 rfl rfl k
  · have k := k.2 hb
    refine zr_iload dX10_jointsOf_11 rfl ?_
    refine zr_bipush (v := 48) dX10_jointsOf_13 (by decide) ?_
    refine zr_icge (tgt := 38) dX10_jointsOf_15 (by decide) (fun hb => ?_) (fun hb => ?_)
    · have k := k.1 hb
      refine zr_iload_n dX10_jointsOf_38 rfl rfl ?_
      exact zr_ireturn dX10_jointsOf_39 rfl rfl k
    · have k := k.2 hb
      refine zr_aload_n dX10_jointsOf_18 rfl rfl ?_
      refine zr_getR dX10_jointsOf_19 zf_X10_28 rfl (hS.has (a := 10) rfl rfl) (hS.ref (a := 14) rfl) ?_
      refine zr_iload dX10_jointsOf_22 rfl ?_
      obtain ⟨hi1, k⟩ := k
      refine zr_ialdv (x := (I 14 v4.toNatClampNeg)) dX10_jointsOf_24 (hS.has (a := 14) rfl rfl) hi1 rfl ?_
      refine zr_iload_n dX10_jointsOf_25 rfl rfl ?_
      refine zr_icne (tgt := 32) dX10_jointsOf_26 (by decide) (fun hb => ?_) (fun hb => ?_)
      · have k := k.1 hb
        refine zr_iinc (v := (v4 + 1)) dX10_jointsOf_32 rfl rfl (Nat.le_of_ble_eq_true rfl) rfl ?_
        refine zr_goto (tgt := 5) dX10_jointsOf_35 (by decide) ?_
        exact k
      · have k := k.2 hb
        refine zr_iinc (v := (v3 + 1)) dX10_jointsOf_29 rfl rfl (Nat.le_of_ble_eq_true rfl) rfl ?_
        refine zr_iinc (v := (v4 + 1)) dX10_jointsOf_32 rfl rfl (Nat.le_of_ble_eq_true rfl) rfl ?_
        refine zr_goto (tgt := 5) dX10_jointsOf_35 (by decide) ?_
        exact k
set_option maxHeartbeats 2000000 in
theorem vX10_addJoint_0 {G : Gp} {bc bs : Nat} {Q : zPost} {S : zSh} {I : zFI} {L : zFL} {v1 : Int32} {v2 : Int32} {v3 : Int32} {v4 : Int32} {v5 : Int32} (hS : zStd S)  (k : (((p_X10_hasTimber I v1) = 0 → Q (some (.int (-1 : Int32))) S I L) ∧ (¬ (p_X10_hasTimber I v1) = 0 → (((48 : Int32) ≤ (I 10 4) → Q (some (.int (-1 : Int32))) S I L) ∧ (¬ (48 : Int32) ≤ (I 10 4) → ZC G mX10_jointsOf fX10_jointsOf lX10_jointsOf [zo G 10, .int v1, .int (I 10 4)] S I L 0 0 (fun w S' I1 L1 => ∃ r1 : Int32, w = some (.int r1) ∧ S = S' ∧ ((r1 < (6 : Int32) → ((v2 < 0 → Q (some (.int (-1 : Int32))) S I1 L1) ∧ (¬ v2 < 0 → vp_in v1 16 ∧ (((I1 12 v1.toNatClampNeg) < v2 → Q (some (.int (-1 : Int32))) S I1 L1) ∧ (¬ (I1 12 v1.toNatClampNeg) < v2 → ((v3 = 0 → ((v4 < (1 : Int32) → Q (some (.int (-1 : Int32))) S I1 L1) ∧ (¬ v4 < (1 : Int32) → ((v4 ≤ (9 : Int32) → vp_in (I1 10 4) 48 ∧ Q (some (.int (((I1 10 4) + (1 : Int32)) - (1 : Int32)))) S (u2 (u2 (u2 (u2 (u2 (u2 I1 14 (I1 10 4).toNatClampNeg v1) 15 (I1 10 4).toNatClampNeg v2) 16 (I1 10 4).toNatClampNeg v3) 17 (I1 10 4).toNatClampNeg v4) 18 (I1 10 4).toNatClampNeg v5) 10 4 ((I1 10 4) + (1 : Int32))) L1) ∧ (¬ v4 ≤ (9 : Int32) → Q (some (.int (-1 : Int32))) S I1 L1))))) ∧ (¬ v3 = 0 → ((¬ v3 = (1 : Int32) → Q (some (.int (-1 : Int32))) S I1 L1) ∧ (v3 = (1 : Int32) → ((v4 < (1 : Int32) → Q (some (.int (-1 : Int32))) S I1 L1) ∧ (¬ v4 < (1 : Int32) → ((v4 ≤ (9 : Int32) → vp_in (I1 10 4) 48 ∧ Q (some (.int (((I1 10 4) + (1 : Int32)) - (1 : Int32)))) S (u2 (u2 (u2 (u2 (u2 (u2 I1 14 (I1 10 4).toNatClampNeg v1) 15 (I1 10 4).toNatClampNeg v2) 16 (I1 10 4).toNatClampNeg v3) 17 (I1 10 4).toNatClampNeg v4) 18 (I1 10 4).toNatClampNeg v5) 10 4 ((I1 10 4) + (1 : Int32))) L1) ∧ (¬ v4 ≤ (9 : Int32) → Q (some (.int (-1 : Int32))) S I1 L1))))))))))))) ∧ (¬ r1 < (6 : Int32) → Q (some (.int (-1 : Int32))) S I1 L1)))))))) : ZW G mX10_addJoint fX10_addJoint lX10_addJoint 0 [zo G 10, .int v1, .int v2, .int v3, .int v4, .int v5] [] S I L bc bs Q := by
  refine zr_aload_n dX10_addJoint_0 rfl rfl ?_
  refine zr_iload_n dX10_addJoint_1 rfl rfl ?_
  refine zr_callV (As := [.int v1]) (fr' := fX10_hasTimber) (lo' := lX10_hasTimber) (bc' := 0) (bs' := 0) (bcr := bc) (bsr := bs) dX10_addJoint_2 zs_X10_43 zi_X10_hasTimber zcl_10 (hS.has (a := 10) rfl rfl) rfl rfl (Nat.le_of_ble_eq_true rfl) (Nat.le_of_ble_eq_true rfl) (Nat.le_of_ble_eq_true rfl) (Nat.le_refl _) (Nat.le_refl _) ?_
  refine sp_X10_hasTimber hS  ?_
  show ZW G mX10_addJoint fX10_addJoint lX10_addJoint 5 [zo G 10, .int v1, .int v2, .int v3, .int v4, .int v5] [.int (p_X10_hasTimber I v1)] S I L bc bs Q
  refine zr_ifeq (tgt := 31) dX10_addJoint_5 (by decide) (fun hb => ?_) (fun hb => ?_)
  · have k := k.1 hb
    refine zr_iconst (v := -1) dX10_addJoint_31 (by decide) ?_
    exact zr_ireturn dX10_addJoint_32 rfl rfl k
  · have k := k.2 hb
    refine zr_aload_n dX10_addJoint_8 rfl rfl ?_
    refine zr_getIv (x := (I 10 4)) dX10_addJoint_9 zf_X10_25 rfl (hS.has (a := 10) rfl rfl) rfl ?_
    refine zr_bipush (v := 48) dX10_addJoint_12 (by decide) ?_
    refine zr_icge (tgt := 31) dX10_addJoint_14 (by decide) (fun hb => ?_) (fun hb => ?_)
    · have k := k.1 hb
      refine zr_iconst (v := -1) dX10_addJoint_31 (by decide) ?_
      exact zr_ireturn dX10_addJoint_32 rfl rfl k
    · have k := k.2 hb
      refine zr_aload_n dX10_addJoint_17 rfl rfl ?_
      refine zr_iload_n dX10_addJoint_18 rfl rfl ?_
      refine zr_aload_n dX10_addJoint_19 rfl rfl ?_
      refine zr_getIv (x := (I 10 4)) dX10_addJoint_20 zf_X10_25 rfl (hS.has (a := 10) rfl rfl) rfl ?_
      refine zr_callV (As := [.int v1, .int (I 10 4)]) (fr' := fX10_jointsOf) (lo' := lX10_jointsOf) (bc' := 0) (bs' := 0) (bcr := bc) (bsr := bs) dX10_addJoint_23 zs_X10_47 zi_X10_jointsOf zcl_10 (hS.has (a := 10) rfl rfl) rfl rfl (Nat.le_of_ble_eq_true rfl) (Nat.le_of_ble_eq_true rfl) (Nat.le_of_ble_eq_true rfl) (Nat.le_refl _) (Nat.le_refl _) ?_
      refine ZC.mono (fun w S' I1 L1 k => ?_) k
      obtain ⟨r1, rfl, rfl, k⟩ := k
      show ZW G mX10_addJoint fX10_addJoint lX10_addJoint 26 [zo G 10, .int v1, .int v2, .int v3, .int v4, .int v5] [.int r1] S I1 L1 bc bs Q
      refine zr_bipush (v := 6) dX10_addJoint_26 (by decide) ?_
      refine zr_iclt (tgt := 33) dX10_addJoint_28 (by decide) (fun hb => ?_) (fun hb => ?_)
      · have k := k.1 hb
        refine zr_iload_n dX10_addJoint_33 rfl rfl ?_
        refine zr_iflt (tgt := 69) dX10_addJoint_34 (by decide) (fun hb => ?_) (fun hb => ?_)
        · have k := k.1 hb
          refine zr_iconst (v := -1) dX10_addJoint_69 (by decide) ?_
          exact zr_ireturn dX10_addJoint_70 rfl rfl k
        · have k := k.2 hb
          refine zr_iload_n dX10_addJoint_37 rfl rfl ?_
          refine zr_aload_n dX10_addJoint_38 rfl rfl ?_
          refine zr_getR dX10_addJoint_39 zf_X10_19 rfl (hS.has (a := 10) rfl rfl) (hS.ref (a := 12) rfl) ?_
          refine zr_iload_n dX10_addJoint_42 rfl rfl ?_
          obtain ⟨hi1, k⟩ := k
          refine zr_ialdv (x := (I1 12 v1.toNatClampNeg)) dX10_addJoint_43 (hS.has (a := 12) rfl rfl) hi1 rfl ?_
          refine zr_icgt (tgt := 69) dX10_addJoint_44 (by decide) (fun hb => ?_) (fun hb => ?_)
          · have k := k.1 hb
            refine zr_iconst (v := -1) dX10_addJoint_69 (by decide) ?_
            exact zr_ireturn dX10_addJoint_70 rfl rfl k
          · have k := k.2 hb
            refine zr_iload_n dX10_addJoint_47 rfl rfl ?_
            refine zr_ifeq (tgt := 56) dX10_addJoint_48 (by decide) (fun hb => ?_) (fun hb => ?_)
            · have k := k.1 hb
              refine zr_iload dX10_addJoint_56 rfl ?_
              refine zr_iconst (v := 1) dX10_addJoint_58 (by decide) ?_
              refine zr_iclt (tgt := 69) dX10_addJoint_59 (by decide) (fun hb => ?_) (fun hb => ?_)
              · have k := k.1 hb
                refine zr_iconst (v := -1) dX10_addJoint_69 (by decide) ?_
                exact zr_ireturn dX10_addJoint_70 rfl rfl k
              · have k := k.2 hb
                refine zr_iload dX10_addJoint_62 rfl ?_
                refine zr_bipush (v := 9) dX10_addJoint_64 (by decide) ?_
                refine zr_icle (tgt := 71) dX10_addJoint_66 (by decide) (fun hb => ?_) (fun hb => ?_)
                · have k := k.1 hb
                  refine zr_aload_n dX10_addJoint_71 rfl rfl ?_
                  refine zr_getR dX10_addJoint_72 zf_X10_28 rfl (hS.has (a := 10) rfl rfl) (hS.ref (a := 14) rfl) ?_
                  refine zr_aload_n dX10_addJoint_75 rfl rfl ?_
                  refine zr_getIv (x := (I1 10 4)) dX10_addJoint_76 zf_X10_25 rfl (hS.has (a := 10) rfl rfl) rfl ?_
                  refine zr_iload_n dX10_addJoint_79 rfl rfl ?_
                  obtain ⟨hi2, k⟩ := k
                  refine zr_iast dX10_addJoint_80 (hS.has (a := 14) rfl rfl) hi2 ?_
                  refine zr_aload_n dX10_addJoint_81 rfl rfl ?_
                  refine zr_getR dX10_addJoint_82 zf_X10_31 rfl (hS.has (a := 10) rfl rfl) (hS.ref (a := 15) rfl) ?_
                  refine zr_aload_n dX10_addJoint_85 rfl rfl ?_
                  refine zr_getIv (x := (I1 10 4)) dX10_addJoint_86 zf_X10_25 rfl (hS.has (a := 10) rfl rfl) rfl ?_
                  refine zr_iload_n dX10_addJoint_89 rfl rfl ?_
                  refine zr_iast dX10_addJoint_90 (hS.has (a := 15) rfl rfl) hi2 ?_
                  refine zr_aload_n dX10_addJoint_91 rfl rfl ?_
                  refine zr_getR dX10_addJoint_92 zf_X10_34 rfl (hS.has (a := 10) rfl rfl) (hS.ref (a := 16) rfl) ?_
                  refine zr_aload_n dX10_addJoint_95 rfl rfl ?_
                  refine zr_getIv (x := (I1 10 4)) dX10_addJoint_96 zf_X10_25 rfl (hS.has (a := 10) rfl rfl) rfl ?_
                  refine zr_iload_n dX10_addJoint_99 rfl rfl ?_
                  refine zr_iast dX10_addJoint_100 (hS.has (a := 16) rfl rfl) hi2 ?_
                  refine zr_aload_n dX10_addJoint_101 rfl rfl ?_
                  refine zr_getR dX10_addJoint_102 zf_X10_37 rfl (hS.has (a := 10) rfl rfl) (hS.ref (a := 17) rfl) ?_
                  refine zr_aload_n dX10_addJoint_105 rfl rfl ?_
                  refine zr_getIv (x := (I1 10 4)) dX10_addJoint_106 zf_X10_25 rfl (hS.has (a := 10) rfl rfl) rfl ?_
                  refine zr_iload dX10_addJoint_109 rfl ?_
                  refine zr_iast dX10_addJoint_111 (hS.has (a := 17) rfl rfl) hi2 ?_
                  refine zr_aload_n dX10_addJoint_112 rfl rfl ?_
                  refine zr_getR dX10_addJoint_113 zf_X10_40 rfl (hS.has (a := 10) rfl rfl) (hS.ref (a := 18) rfl) ?_
                  refine zr_aload_n dX10_addJoint_116 rfl rfl ?_
                  refine zr_getIv (x := (I1 10 4)) dX10_addJoint_117 zf_X10_25 rfl (hS.has (a := 10) rfl rfl) rfl ?_
                  refine zr_iload dX10_addJoint_120 rfl ?_
                  refine zr_iast dX10_addJoint_122 (hS.has (a := 18) rfl rfl) hi2 ?_
                  refine zr_aload_n dX10_addJoint_123 rfl rfl ?_
                  refine zr_dup dX10_addJoint_124 rfl ?_
                  refine zr_getIv (x := (I1 10 4)) dX10_addJoint_125 zf_X10_25 rfl (hS.has (a := 10) rfl rfl) rfl ?_
                  refine zr_iconst (v := 1) dX10_addJoint_128 (by decide) ?_
                  refine zr_iadd dX10_addJoint_129 ?_
                  refine zr_putI dX10_addJoint_130 zf_X10_25 rfl (hS.has (a := 10) rfl rfl) rfl rfl ?_
                  refine zr_aload_n dX10_addJoint_133 rfl rfl ?_
                  refine zr_getIv (x := ((I1 10 4) + (1 : Int32))) dX10_addJoint_134 zf_X10_25 rfl (hS.has (a := 10) rfl rfl) rfl ?_
                  refine zr_iconst (v := 1) dX10_addJoint_137 (by decide) ?_
                  refine zr_isub dX10_addJoint_138 ?_
                  exact zr_ireturn dX10_addJoint_139 rfl rfl k
                · have k := k.2 hb
                  refine zr_iconst (v := -1) dX10_addJoint_69 (by decide) ?_
                  exact zr_ireturn dX10_addJoint_70 rfl rfl k
            · have k := k.2 hb
              refine zr_iload_n dX10_addJoint_51 rfl rfl ?_
              refine zr_iconst (v := 1) dX10_addJoint_52 (by decide) ?_
              refine zr_icne (tgt := 69) dX10_addJoint_53 (by decide) (fun hb => ?_) (fun hb => ?_)
              · have k := k.1 hb
                refine zr_iconst (v := -1) dX10_addJoint_69 (by decide) ?_
                exact zr_ireturn dX10_addJoint_70 rfl rfl k
              · have k := k.2 hb
                refine zr_iload dX10_addJoint_56 rfl ?_
                refine zr_iconst (v := 1) dX10_addJoint_58 (by decide) ?_
                refine zr_iclt (tgt := 69) dX10_addJoint_59 (by decide) (fun hb => ?_) (fun hb => ?_)
                · have k := k.1 hb
                  refine zr_iconst (v := -1) dX10_addJoint_69 (by decide) ?_
                  exact zr_ireturn dX10_addJoint_70 rfl rfl k
                · have k := k.2 hb
                  refine zr_iload dX10_addJoint_62 rfl ?_
                  refine zr_bipush (v := 9) dX10_addJoint_64 (by decide) ?_
                  refine zr_icle (tgt := 71) dX10_addJoint_66 (by decide) (fun hb => ?_) (fun hb => ?_)
                  · have k := k.1 hb
                    refine zr_aload_n dX10_addJoint_71 rfl rfl ?_
                    refine zr_getR dX10_addJoint_72 zf_X10_28 rfl (hS.has (a := 10) rfl rfl) (hS.ref (a := 14) rfl) ?_
                    refine zr_aload_n dX10_addJoint_75 rfl rfl ?_
                    refine zr_getIv (x := (I1 10 4)) dX10_addJoint_76 zf_X10_25 rfl (hS.has (a := 10) rfl rfl) rfl ?_
                    refine zr_iload_n dX10_addJoint_79 rfl rfl ?_
                    obtain ⟨hi3, k⟩ := k
                    refine zr_iast dX10_addJoint_80 (hS.has (a := 14) rfl rfl) hi3 ?_
                    refine zr_aload_n dX10_addJoint_81 rfl rfl ?_
                    refine zr_getR dX10_addJoint_82 zf_X10_31 rfl (hS.has (a := 10) rfl rfl) (hS.ref (a := 15) rfl) ?_
                    refine zr_aload_n dX10_addJoint_85 rfl rfl ?_
                    refine zr_getIv (x := (I1 10 4)) dX10_addJoint_86 zf_X10_25 rfl (hS.has (a := 10) rfl rfl) rfl ?_
                    refine zr_iload_n dX10_addJoint_89 rfl rfl ?_
                    refine zr_iast dX10_addJoint_90 (hS.has (a := 15) rfl rfl) hi3 ?_
                    refine zr_aload_n dX10_addJoint_91 rfl rfl ?_
                    refine zr_getR dX10_addJoint_92 zf_X10_34 rfl (hS.has (a := 10) rfl rfl) (hS.ref (a := 16) rfl) ?_
                    refine zr_aload_n dX10_addJoint_95 rfl rfl ?_
                    refine zr_getIv (x := (I1 10 4)) dX10_addJoint_96 zf_X10_25 rfl (hS.has (a := 10) rfl rfl) rfl ?_
                    refine zr_iload_n dX10_addJoint_99 rfl rfl ?_
                    refine zr_iast dX10_addJoint_100 (hS.has (a := 16) rfl rfl) hi3 ?_
                    refine zr_aload_n dX10_addJoint_101 rfl rfl ?_
                    refine zr_getR dX10_addJoint_102 zf_X10_37 rfl (hS.has (a := 10) rfl rfl) (hS.ref (a := 17) rfl) ?_
                    refine zr_aload_n dX10_addJoint_105 rfl rfl ?_
                    refine zr_getIv (x := (I1 10 4)) dX10_addJoint_106 zf_X10_25 rfl (hS.has (a := 10) rfl rfl) rfl ?_
                    refine zr_iload dX10_addJoint_109 rfl ?_
                    refine zr_iast dX10_addJoint_111 (hS.has (a := 17) rfl rfl) hi3 ?_
                    refine zr_aload_n dX10_addJoint_112 rfl rfl ?_
                    refine zr_getR dX10_addJoint_113 zf_X10_40 rfl (hS.has (a := 10) rfl rfl) (hS.ref (a := 18) rfl) ?_
                    refine zr_aload_n dX10_addJoint_116 rfl rfl ?_
                    refine zr_getIv (x := (I1 10 4)) dX10_addJoint_117 zf_X10_25 rfl (hS.has (a := 10) rfl rfl) rfl ?_
                    refine zr_iload dX10_addJoint_120 rfl ?_
                    refine zr_iast dX10_addJoint_122 (hS.has (a := 18) rfl rfl) hi3 ?_
                    refine zr_aload_n dX10_addJoint_123 rfl rfl ?_
                    refine zr_dup dX10_addJoint_124 rfl ?_
                    refine zr_getIv (x := (I1 10 4)) dX10_addJoint_125 zf_X10_25 rfl (hS.has (a := 10) rfl rfl) rfl ?_
                    refine zr_iconst (v := 1) dX10_addJoint_128 (by decide) ?_
                    refine zr_iadd dX10_addJoint_129 ?_
                    refine zr_putI dX10_addJoint_130 zf_X10_25 rfl (hS.has (a := 10) rfl rfl) rfl rfl ?_
                    refine zr_aload_n dX10_addJoint_133 rfl rfl ?_
                    refine zr_getIv (x := ((I1 10 4) + (1 : Int32))) dX10_addJoint_134 zf_X10_25 rfl (hS.has (a := 10) rfl rfl) rfl ?_
                    refine zr_iconst (v := 1) dX10_addJoint_137 (by decide) ?_
                    refine zr_isub dX10_addJoint_138 ?_
                    exact zr_ireturn dX10_addJoint_139 rfl rfl k
                  · have k := k.2 hb
                    refine zr_iconst (v := -1) dX10_addJoint_69 (by decide) ?_
                    exact zr_ireturn dX10_addJoint_70 rfl rfl k
      · have k := k.2 hb
        refine zr_iconst (v := -1) dX10_addJoint_31 (by decide) ?_
        exact zr_ireturn dX10_addJoint_32 rfl rfl k
set_option maxHeartbeats 2000000 in
theorem vX10_hasJoint_0 {G : Gp} {bc bs : Nat} {Q : zPost} {S : zSh} {I : zFI} {L : zFL} {v1 : Int32} (hS : zStd S)  (k : ((v1 < 0 → Q (some (.int (0 : Int32))) S I L) ∧ (¬ v1 < 0 → (((I 10 4) ≤ v1 → Q (some (.int (0 : Int32))) S I L) ∧ (¬ (I 10 4) ≤ v1 → (((48 : Int32) ≤ v1 → Q (some (.int (0 : Int32))) S I L) ∧ (¬ (48 : Int32) ≤ v1 → Q (some (.int (1 : Int32))) S I L))))))) : ZW G mX10_hasJoint fX10_hasJoint lX10_hasJoint 0 [zo G 10, .int v1] [] S I L bc bs Q := by
  refine zr_iload_n dX10_hasJoint_0 rfl rfl ?_
  refine zr_iflt (tgt := 22) dX10_hasJoint_1 (by decide) (fun hb => ?_) (fun hb => ?_)
  · have k := k.1 hb
    refine zr_iconst (v := 0) dX10_hasJoint_22 (by decide) ?_
    exact zr_ireturn dX10_hasJoint_23 rfl rfl k
  · have k := k.2 hb
    refine zr_iload_n dX10_hasJoint_4 rfl rfl ?_
    refine zr_aload_n dX10_hasJoint_5 rfl rfl ?_
    refine zr_getIv (x := (I 10 4)) dX10_hasJoint_6 zf_X10_25 rfl (hS.has (a := 10) rfl rfl) rfl ?_
    refine zr_icge (tgt := 22) dX10_hasJoint_9 (by decide) (fun hb => ?_) (fun hb => ?_)
    · have k := k.1 hb
      refine zr_iconst (v := 0) dX10_hasJoint_22 (by decide) ?_
      exact zr_ireturn dX10_hasJoint_23 rfl rfl k
    · have k := k.2 hb
      refine zr_iload_n dX10_hasJoint_12 rfl rfl ?_
      refine zr_bipush (v := 48) dX10_hasJoint_13 (by decide) ?_
      refine zr_icge (tgt := 22) dX10_hasJoint_15 (by decide) (fun hb => ?_) (fun hb => ?_)
      · have k := k.1 hb
        refine zr_iconst (v := 0) dX10_hasJoint_22 (by decide) ?_
        exact zr_ireturn dX10_hasJoint_23 rfl rfl k
      · have k := k.2 hb
        refine zr_iconst (v := 1) dX10_hasJoint_18 (by decide) ?_
        refine zr_goto (tgt := 23) dX10_hasJoint_19 (by decide) ?_
        exact zr_ireturn dX10_hasJoint_23 rfl rfl k
def p_X10_hasJoint (I : zFI) (v1 : Int32) : Int32 := (if v1 < 0 then (0 : Int32) else (if (I 10 4) ≤ v1 then (0 : Int32) else (if (48 : Int32) ≤ v1 then (0 : Int32) else (1 : Int32))))
set_option maxHeartbeats 2000000 in
theorem sp_X10_hasJoint {G : Gp} {Q : zPost} {S : zSh} {I : zFI} {L : zFL} {v1 : Int32} (hS : zStd S)  (h : Q (some (.int (p_X10_hasJoint I v1))) S I L) : ZC G mX10_hasJoint fX10_hasJoint lX10_hasJoint [zo G 10, .int v1] S I L 0 0 Q := by
  refine ZC.of' (vX10_hasJoint_0 hS  ?_) rfl (Nat.le_of_ble_eq_true rfl) rfl
  unfold p_X10_hasJoint at h
  refine ⟨fun hb1 => ?_, fun hb1 => ?_⟩
  · rw [if_pos hb1] at h
    exact h
  · rw [if_neg hb1] at h
    refine ⟨fun hb2 => ?_, fun hb2 => ?_⟩
    · rw [if_pos hb2] at h
      exact h
    · rw [if_neg hb2] at h
      refine ⟨fun hb3 => ?_, fun hb3 => ?_⟩
      · rw [if_pos hb3] at h
        exact h
      · rw [if_neg hb3] at h
        exact h
theorem pb_X10_hasJoint (I : zFI) (v1 : Int32) : p_X10_hasJoint I v1 = 0 ∨ p_X10_hasJoint I v1 = 1 := by
  unfold p_X10_hasJoint
  repeat' split
  all_goals first | exact Or.inl rfl | exact Or.inr rfl | assumption
set_option maxHeartbeats 2000000 in
theorem vX10_timbersUpTo_0 {G : Gp} {bc bs : Nat} {Q : zPost} {S : zSh} {I : zFI} {L : zFL} {v1 : Int32} (hS : zStd S)  (k : ZW G mX10_timbersUpTo fX10_timbersUpTo lX10_timbersUpTo 2 [zo G 10, .int v1, .int (0 : Int32)] [] S I L bc bs Q) : ZW G mX10_timbersUpTo fX10_timbersUpTo lX10_timbersUpTo 0 [zo G 10, .int v1, .null] [] S I L bc bs Q := by
  refine zr_iconst (v := 0) dX10_timbersUpTo_0 (by decide) ?_
  refine zr_istore_n dX10_timbersUpTo_1 rfl (Nat.le_of_ble_eq_true rfl) rfl ?_
  exact k
set_option maxHeartbeats 2000000 in
theorem vX10_timbersUpTo_2 {G : Gp} {bc bs : Nat} {Q : zPost} {S : zSh} {I : zFI} {L : zFL} {v1 : Int32} {v2 : Int32} (hS : zStd S)  (k : (((I 10 0) ≤ v2 → Q (some (.int v2)) S I L) ∧ (¬ (I 10 0) ≤ v2 → (((16 : Int32) ≤ v2 → Q (some (.int v2)) S I L) ∧ (¬ (16 : Int32) ≤ v2 → vp_in v2 16 ∧ ((v1 < (I 13 v2.toNatClampNeg) → Q (some (.int v2)) S I L) ∧ (¬ v1 < (I 13 v2.toNatClampNeg) → ZW G mX10_timbersUpTo fX10_timbersUpTo lX10_timbersUpTo 2 [zo G 10, .int v1, .int (v2 + 1)] [] S I L bc bs Q))))))) : ZW G mX10_timbersUpTo fX10_timbersUpTo lX10_timbersUpTo 2 [zo G 10, .int v1, .int v2] [] S I L bc bs Q := by
  refine zr_iload_n dX10_timbersUpTo_2 rfl rfl ?_
  refine zr_aload_n dX10_timbersUpTo_3 rfl rfl ?_
  refine zr_getIv (x := (I 10 0)) dX10_timbersUpTo_4 zf_X10_9 rfl (hS.has (a := 10) rfl rfl) rfl ?_
  refine zr_icge (tgt := 32) dX10_timbersUpTo_7 (by decide) (fun hb => ?_) (fun hb => ?_)
  · have k := k.1 hb
    refine zr_iload_n dX10_timbersUpTo_32 rfl rfl ?_
    exact zr_ireturn dX10_timbersUpTo_33 rfl rfl k
  · have k := k.2 hb
    refine zr_iload_n dX10_timbersUpTo_10 rfl rfl ?_
    refine zr_bipush (v := 16) dX10_timbersUpTo_11 (by decide) ?_
    refine zr_icge (tgt := 32) dX10_timbersUpTo_13 (by decide) (fun hb => ?_) (fun hb => ?_)
    · have k := k.1 hb
      refine zr_iload_n dX10_timbersUpTo_32 rfl rfl ?_
      exact zr_ireturn dX10_timbersUpTo_33 rfl rfl k
    · have k := k.2 hb
      refine zr_aload_n dX10_timbersUpTo_16 rfl rfl ?_
      refine zr_getR dX10_timbersUpTo_17 zf_X10_22 rfl (hS.has (a := 10) rfl rfl) (hS.ref (a := 13) rfl) ?_
      refine zr_iload_n dX10_timbersUpTo_20 rfl rfl ?_
      obtain ⟨hi1, k⟩ := k
      refine zr_ialdv (x := (I 13 v2.toNatClampNeg)) dX10_timbersUpTo_21 (hS.has (a := 13) rfl rfl) hi1 rfl ?_
      refine zr_iload_n dX10_timbersUpTo_22 rfl rfl ?_
      refine zr_icgt (tgt := 32) dX10_timbersUpTo_23 (by decide) (fun hb => ?_) (fun hb => ?_)
      · have k := k.1 hb
        refine zr_iload_n dX10_timbersUpTo_32 rfl rfl ?_
        exact zr_ireturn dX10_timbersUpTo_33 rfl rfl k
      · have k := k.2 hb
        refine zr_iinc (v := (v2 + 1)) dX10_timbersUpTo_26 rfl rfl (Nat.le_of_ble_eq_true rfl) rfl ?_
        refine zr_goto (tgt := 2) dX10_timbersUpTo_29 (by decide) ?_
        exact k
