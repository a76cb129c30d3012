theorem vX7_raise_g {G : Gp} {bc bs : Nat} {Q : zPost} {S : zSh} {I : zFI} {L : zFL} {f1 : Nat} {c4 : Nat} {v2 : Int32} (hS : zStd S) (hf1 : zFm f1) (hc4 : zCu c4) (k : ZC G mX7_take fX7_take lX7_take [zo G 60, zo G f1, .int v2] S I L 0 0 (fun w S' I1 L1 => w = none ∧ S = S' ∧ ZC G mX7_link fX7_link lX7_link [zo G 60, zo G f1, zo G 10, zo G c4] S I1 L1 0 0 (fun w S' I2 L2 => w = none ∧ S = S' ∧ ZC G mX7_makeRoom fX7_makeRoom lX7_makeRoom [zo G 60] S I2 L2 2 131072 (fun w S1 I3 L3 => w = none ∧ zStd S1 ∧ ZC G mX7_countWays fX7_countWays lX7_countWays [zo G 60] S1 I3 L3 0 0 (fun w S' I4 L4 => w = none ∧ S1 = S' ∧ vp_in (((1 : Int32) <<< ((I4 60 0) &&& 31)) - (1 : Int32)) (zwl S1) ∧ ((¬ (lg_cmp (L4 (zwy S1) (((1 : Int32) <<< ((I4 60 0) &&& 31)) - (1 : Int32)).toNatClampNeg) (0 : Int64)) = 0 → ZC G mX7_measureWorst fX7_measureWorst lX7_measureWorst [zo G 60] S1 I4 L4 0 0 (fun w S' I5 L5 => w = none ∧ S1 = S' ∧ vp_in (0 : Int32) (zwl S1) ∧ ZC G mX3_keepRaising fX3_keepRaising lX3_keepRaising [zo G f1, .int v2, .int (I5 (zwo S1) (0 : Int32).toNatClampNeg), .long (L4 (zwy S1) (((1 : Int32) <<< ((I4 60 0) &&& 31)) - (1 : Int32)).toNatClampNeg)] S1 I5 L5 0 0 (fun w S' I6 L6 => w = none ∧ S1 = S' ∧ ZC G mX7_keepSteps fX7_keepSteps lX7_keepSteps [zo G 60, zo G f1, .int v2] S1 I6 L6 0 0 (fun w S' I7 L7 => w = none ∧ S1 = S' ∧ Q none S1 I7 L7)))) ∧ ((lg_cmp (L4 (zwy S1) (((1 : Int32) <<< ((I4 60 0) &&& 31)) - (1 : Int32)).toNatClampNeg) (0 : Int64)) = 0 → ZC G mX3_keepRaising fX3_keepRaising lX3_keepRaising [zo G f1, .int v2, .int (-1 : Int32), .long (0 : Int64)] S1 I4 L4 0 0 (fun w S' I8 L8 => w = none ∧ S1 = S' ∧ Q none S1 I8 L8)))))))) : ZW G mX7_raise fX7_raise lX7_raise 0 [zo G 60, zo G f1, .int v2, zo G 10, zo G c4, .null, .null, .null] [] S I L (bc + 2) (bs + 131072) Q := by
  refine zr_aload_n dX7_raise_0 rfl rfl ?_
  refine zr_aload_n dX7_raise_1 rfl rfl ?_
  refine zr_iload_n dX7_raise_2 rfl rfl ?_
  refine zr_callV (As := [zo G f1, .int v2]) (fr' := fX7_take) (lo' := lX7_take) (bc' := 0) (bs' := 0) (bcr := bc + 2) (bsr := bs + 131072) dX7_raise_3 zs_X7_39 zi_X7_take zcl_7 (hS.has (a := 60) rfl rfl) rfl rfl (Nat.le_of_ble_eq_true rfl) (Nat.le_of_ble_eq_true rfl) (Nat.le_of_ble_eq_true rfl) (Nat.le_refl _) (Nat.le_refl _) ?_
  refine ZC.mono (fun w S' I1 L1 k => ?_) k
  obtain ⟨rfl, rfl, k⟩ := k
  show ZW G mX7_raise fX7_raise lX7_raise 6 [zo G 60, zo G f1, .int v2, zo G 10, zo G c4, .null, .null, .null] [] S I1 L1 (bc + 2) (bs + 131072) Q
  refine zr_aload_n dX7_raise_6 rfl rfl ?_
  refine zr_aload_n dX7_raise_7 rfl rfl ?_
  refine zr_aload_n dX7_raise_8 rfl rfl ?_
  refine zr_aload dX7_raise_9 rfl ?_
  refine zr_callV (As := [zo G f1, zo G 10, zo G c4]) (fr' := fX7_link) (lo' := lX7_link) (bc' := 0) (bs' := 0) (bcr := bc + 2) (bsr := bs + 131072) dX7_raise_11 zs_X7_43 zi_X7_link zcl_7 (hS.has (a := 60) rfl rfl) rfl rfl (Nat.le_of_ble_eq_true rfl) (Nat.le_of_ble_eq_true rfl) (Nat.le_of_ble_eq_true rfl) (Nat.le_refl _) (Nat.le_refl _) ?_
  refine ZC.mono (fun w S' I2 L2 k => ?_) k
  obtain ⟨rfl, rfl, k⟩ := k
  show ZW G mX7_raise fX7_raise lX7_raise 14 [zo G 60, zo G f1, .int v2, zo G 10, zo G c4, .null, .null, .null] [] S I2 L2 (bc + 2) (bs + 131072) Q
  refine zr_aload_n dX7_raise_14 rfl rfl ?_
  refine zr_callV (As := []) (fr' := fX7_makeRoom) (lo' := lX7_makeRoom) (bc' := 2) (bs' := 131072) (bcr := bc) (bsr := bs) dX7_raise_15 zs_X7_47 zi_X7_makeRoom zcl_7 (hS.has (a := 60) rfl rfl) rfl rfl (Nat.le_of_ble_eq_true rfl) (Nat.le_of_ble_eq_true rfl) (Nat.le_of_ble_eq_true rfl) (Nat.le_refl _) (Nat.le_refl _) ?_
  refine ZC.mono (fun w S1 I3 L3 k => ?_) k
  obtain ⟨rfl, hS, k⟩ := k
  show ZW G mX7_raise fX7_raise lX7_raise 18 [zo G 60, zo G f1, .int v2, zo G 10, zo G c4, .null, .null, .null] [] S1 I3 L3 bc bs Q
  refine zr_aload_n dX7_raise_18 rfl rfl ?_
  refine zr_callV (As := []) (fr' := fX7_countWays) (lo' := lX7_countWays) (bc' := 0) (bs' := 0) (bcr := bc) (bsr := bs) dX7_raise_19 zs_X7_50 zi_X7_countWays zcl_7 (hS.has (a := 60) rfl rfl) rfl rfl (Nat.le_of_ble_eq_true rfl) (Nat.le_of_ble_eq_true rfl) (Nat.le_of_ble_eq_true rfl) (Nat.le_refl _) (Nat.le_refl _) ?_
  refine ZC.mono (fun w S' I4 L4 k => ?_) k
  obtain ⟨rfl, rfl, k⟩ := k
  show ZW G mX7_raise fX7_raise lX7_raise 22 [zo G 60, zo G f1, .int v2, zo G 10, zo G c4, .null, .null, .null] [] S1 I4 L4 bc bs Q
  refine zr_iconst (v := 1) dX7_raise_22 (by decide) ?_
  refine zr_aload_n dX7_raise_23 rfl rfl ?_
  refine zr_getIv (x := (I4 60 0)) dX7_raise_24 zf_X7_9 rfl (hS.has (a := 60) rfl rfl) rfl ?_
  refine zr_ishl dX7_raise_27 ?_
  refine zr_iconst (v := 1) dX7_raise_28 (by decide) ?_
  refine zr_isub dX7_raise_29 ?_
  refine zr_istore dX7_raise_30 (Nat.le_of_ble_eq_true rfl) rfl ?_
  refine zr_aload_n dX7_raise_32 rfl rfl ?_
  refine zr_getR dX7_raise_33 zf_X7_31 rfl (hS.has (a := 60) rfl rfl) hS.gr.1 ?_
  refine zr_iload dX7_raise_36 rfl ?_
  obtain ⟨hi1, k⟩ := k
  refine zr_laldv (x := (L4 (zwy S1) (((1 : Int32) <<< ((I4 60 0) &&& 31)) - (1 : Int32)).toNatClampNeg)) dX7_raise_38 hS.gr.2.2.1 hi1 rfl ?_
  refine zr_lconst (v := 0) dX7_raise_39 (by decide) ?_
  refine zr_lcmp dX7_raise_40 ?_
  refine zr_ifne (tgt := 52) dX7_raise_41 (by decide) (fun hb => ?_) (fun hb => ?_)
  · have k := k.1 hb
    refine zr_aload_n dX7_raise_52 rfl rfl ?_
    refine zr_getR dX7_raise_53 zf_X7_31 rfl (hS.has (a := 60) rfl rfl) hS.gr.1 ?_
    refine zr_iload dX7_raise_56 rfl ?_
    refine zr_laldv (x := (L4 (zwy S1) (((1 : Int32) <<< ((I4 60 0) &&& 31)) - (1 : Int32)).toNatClampNeg)) dX7_raise_58 hS.gr.2.2.1 hi1 rfl ?_
    refine zr_lstore dX7_raise_59 (Nat.le_of_ble_eq_true rfl) rfl ?_
    refine zr_aload_n dX7_raise_61 rfl rfl ?_
    refine zr_callV (As := []) (fr' := fX7_measureWorst) (lo' := lX7_measureWorst) (bc' := 0) (bs' := 0) (bcr := bc) (bsr := bs) dX7_raise_62 zs_X7_59 zi_X7_measureWorst zcl_7 (hS.has (a := 60) rfl rfl) rfl rfl (Nat.le_of_ble_eq_true rfl) (Nat.le_of_ble_eq_true rfl) (Nat.le_of_ble_eq_true rfl) (Nat.le_refl _) (Nat.le_refl _) ?_
    refine ZC.mono (fun w S' I5 L5 k => ?_) k
    obtain ⟨rfl, rfl, k⟩ := k
    show ZW G mX7_raise fX7_raise lX7_raise 65 [zo G 60, zo G f1, .int v2, zo G 10, zo G c4, .int (((1 : Int32) <<< ((I4 60 0) &&& 31)) - (1 : Int32)), .long (L4 (zwy S1) (((1 : Int32) <<< ((I4 60 0) &&& 31)) - (1 : Int32)).toNatClampNeg), .null] [] S1 I5 L5 bc bs Q
    refine zr_aload_n dX7_raise_65 rfl rfl ?_
    refine zr_iload_n dX7_raise_66 rfl rfl ?_
    refine zr_aload_n dX7_raise_67 rfl rfl ?_
    refine zr_getR dX7_raise_68 zf_X7_35 rfl (hS.has (a := 60) rfl rfl) hS.gr.2.1 ?_
    refine zr_iconst (v := 0) dX7_raise_71 (by decide) ?_
    obtain ⟨hi2, k⟩ := k
    refine zr_baldv (x := (I5 (zwo S1) (0 : Int32).toNatClampNeg)) dX7_raise_72 hS.gr.2.2.2.1 hi2 rfl ?_
    refine zr_lload dX7_raise_73 rfl ?_
    refine zr_callV (As := [.int v2, .int (I5 (zwo S1) (0 : Int32).toNatClampNeg), .long (L4 (zwy S1) (((1 : Int32) <<< ((I4 60 0) &&& 31)) - (1 : Int32)).toNatClampNeg)]) (fr' := fX3_keepRaising) (lo' := lX3_keepRaising) (bc' := 0) (bs' := 0) (bcr := bc) (bsr := bs) dX7_raise_75 zs_X7_53 zi_X3_keepRaising zcl_3 (hS.hasF hf1 0 rfl rfl rfl) rfl rfl (Nat.le_of_ble_eq_true rfl) (Nat.le_of_ble_eq_true rfl) (Nat.le_of_ble_eq_true rfl) (Nat.le_refl _) (Nat.le_refl _) ?_
    refine ZC.mono (fun w S' I6 L6 k => ?_) k
    obtain ⟨rfl, rfl, k⟩ := k
    show ZW G mX7_raise fX7_raise lX7_raise 78 [zo G 60, zo G f1, .int v2, zo G 10, zo G c4, .int (((1 : Int32) <<< ((I4 60 0) &&& 31)) - (1 : Int32)), .long (L4 (zwy S1) (((1 : Int32) <<< ((I4 60 0) &&& 31)) - (1 : Int32)).toNatClampNeg), .null] [] S1 I6 L6 bc bs Q
    refine zr_aload_n dX7_raise_78 rfl rfl ?_
    refine zr_aload_n dX7_raise_79 rfl rfl ?_
    refine zr_iload_n dX7_raise_80 rfl rfl ?_
    refine zr_callV (As := [zo G f1, .int v2]) (fr' := fX7_keepSteps) (lo' := lX7_keepSteps) (bc' := 0) (bs' := 0) (bcr := bc) (bsr := bs) dX7_raise_81 zs_X7_62 zi_X7_keepSteps zcl_7 (hS.has (a := 60) rfl rfl) rfl rfl (Nat.le_of_ble_eq_true rfl) (Nat.le_of_ble_eq_true rfl) (Nat.le_of_ble_eq_true rfl) (Nat.le_refl _) (Nat.le_refl _) ?_
    refine ZC.mono (fun w S' I7 L7 k => ?_) k
    obtain ⟨rfl, rfl, k⟩ := k
    show ZW G mX7_raise fX7_raise lX7_raise 84 [zo G 60, zo G f1, .int v2, zo G 10, zo G c4, .int (((1 : Int32) <<< ((I4 60 0) &&& 31)) - (1 : Int32)), .long (L4 (zwy S1) (((1 : Int32) <<< ((I4 60 0) &&& 31)) - (1 : Int32)).toNatClampNeg), .null] [] S1 I7 L7 bc bs Q
    exact zr_return_ dX7_raise_84 rfl k
  · have k := k.2 hb
    refine zr_aload_n dX7_raise_44 rfl rfl ?_
    refine zr_iload_n dX7_raise_45 rfl rfl ?_
    refine zr_iconst (v := -1) dX7_raise_46 (by decide) ?_
    refine zr_lconst (v := 0) dX7_raise_47 (by decide) ?_
    refine zr_callV (As := [.int v2, .int (-1 : Int32), .long (0 : Int64)]) (fr' := fX3_keepRaising) (lo' := lX3_keepRaising) (bc' := 0) (bs' := 0) (bcr := bc) (bsr := bs) dX7_raise_48 zs_X7_53 zi_X3_keepRaising zcl_3 (hS.hasF hf1 0 rfl rfl rfl) rfl rfl (Nat.le_of_ble_eq_true rfl) (Nat.le_of_ble_eq_true rfl) (Nat.le_of_ble_eq_true rfl) (Nat.le_refl _) (Nat.le_refl _) ?_
    refine ZC.mono (fun w S' I8 L8 k => ?_) k
    obtain ⟨rfl, rfl, k⟩ := k
    show ZW G mX7_raise fX7_raise lX7_raise 51 [zo G 60, zo G f1, .int v2, zo G 10, zo G c4, .int (((1 : Int32) <<< ((I4 60 0) &&& 31)) - (1 : Int32)), .null, .null] [] S1 I8 L8 bc bs Q
    exact zr_return_ dX7_raise_51 rfl k
theorem vX11_raise_g {G : Gp} {bc bs : Nat} {Q : zPost} {S : zSh} {I : zFI} {L : zFL} {v1 : Int32} {v2 : Int32} (hS : zStd S)  (k : ((¬ v1 = (1 : Int32) → ((¬ (p_X3_isRaised I 44 v2) = 0 → Q (some (zo G 44)) S I L) ∧ ((p_X3_isRaised I 44 v2) = 0 → ((¬ v1 = (1 : Int32) → ZC G mX7_raise fX7_raise lX7_raise [zo G 60, zo G 44, .int v2, zo G 10, zo G (zrl S 0)] S I L 2 131072 (fun w S1 I1 L1 => w = none ∧ zStd S1 ∧ Q (some (zo G 44)) S1 I1 L1)) ∧ (v1 = (1 : Int32) → ZC G mX7_raise fX7_raise lX7_raise [zo G 60, zo G 44, .int v2, zo G 10, zo G (zrl S 1)] S I L 2 131072 (fun w S1 I2 L2 => w = none ∧ zStd S1 ∧ Q (some (zo G 44)) S1 I2 L2)))))) ∧ (v1 = (1 : Int32) → ((¬ (p_X3_isRaised I 52 v2) = 0 → Q (some (zo G 52)) S I L) ∧ ((p_X3_isRaised I 52 v2) = 0 → ((¬ v1 = (1 : Int32) → ZC G mX7_raise fX7_raise lX7_raise [zo G 60, zo G 52, .int v2, zo G 10, zo G (zrl S 0)] S I L 2 131072 (fun w S1 I3 L3 => w = none ∧ zStd S1 ∧ Q (some (zo G 52)) S1 I3 L3)) ∧ (v1 = (1 : Int32) → ZC G mX7_raise fX7_raise lX7_raise [zo G 60, zo G 52, .int v2, zo G 10, zo G (zrl S 1)] S I L 2 131072 (fun w S1 I4 L4 => w = none ∧ zStd S1 ∧ Q (some (zo G 52)) S1 I4 L4)))))))) : ZW G mX11_raise fX11_raise lX11_raise 0 [zo G 0, .int v1, .int v2, .null] [] S I L (bc + 2) (bs + 131072) Q := by
  refine zr_aload_n dX11_raise_0 rfl rfl ?_
  refine zr_getR dX11_raise_1 zf_X11_54 rfl (hS.has (a := 0) rfl rfl) (hS.ref (a := 43) rfl) ?_
  refine zr_iload_n dX11_raise_4 rfl rfl ?_
  refine zr_iconst (v := 1) dX11_raise_5 (by decide) ?_
  refine zr_icne (tgt := 13) dX11_raise_6 (by decide) (fun hb => ?_) (fun hb => ?_)
  · have k := k.1 hb
    refine zr_iconst (v := 0) dX11_raise_13 (by decide) ?_
    refine zr_aald (q := 44) dX11_raise_14 (hS.has (a := 43) rfl rfl) (by decide) (zvl (by decide)) (by rcases hS with ⟨-, -, hr, -⟩; exact hr 43 0 44 rfl) ?_
    refine zr_astore_n dX11_raise_15 rfl (Nat.le_of_ble_eq_true rfl) rfl ?_
    refine zr_aload_n dX11_raise_16 rfl rfl ?_
    refine zr_iload_n dX11_raise_17 rfl rfl ?_
    refine zr_callV (As := [.int v2]) (fr' := fX3_isRaised) (lo' := lX3_isRaised) (bc' := 0) (bs' := 0) (bcr := bc + 2) (bsr := bs + 131072) dX11_raise_18 zs_X11_379 zi_X3_isRaised zcl_3 (hS.has (a := 44) rfl rfl) rfl rfl (Nat.le_of_ble_eq_true rfl) (Nat.le_of_ble_eq_true rfl) (Nat.le_of_ble_eq_true rfl) (Nat.le_refl _) (Nat.le_refl _) ?_
    refine sp_X3_isRaised hS (show zFm 44 from Or.inl rfl) ?_
    show ZW G mX11_raise fX11_raise lX11_raise 21 [zo G 0, .int v1, .int v2, zo G 44] [.int (p_X3_isRaised I 44 v2)] S I L (bc + 2) (bs + 131072) Q
    refine zr_ifne (tgt := 52) dX11_raise_21 (by decide) (fun hb => ?_) (fun hb => ?_)
    · have k := k.1 hb
      refine zr_aload_n dX11_raise_52 rfl rfl ?_
      exact zr_areturn dX11_raise_53 rfl k
    · have k := k.2 hb
      refine zr_aload_n dX11_raise_24 rfl rfl ?_
      refine zr_getR dX11_raise_25 zf_X11_61 rfl (hS.has (a := 0) rfl rfl) (hS.ref (a := 60) rfl) ?_
      refine zr_aload_n dX11_raise_28 rfl rfl ?_
      refine zr_iload_n dX11_raise_29 rfl rfl ?_
      refine zr_aload_n dX11_raise_30 rfl rfl ?_
      refine zr_getR dX11_raise_31 zf_X11_33 rfl (hS.has (a := 0) rfl rfl) (hS.ref (a := 10) rfl) ?_
      refine zr_aload_n dX11_raise_34 rfl rfl ?_
      refine zr_getR dX11_raise_35 zf_X11_26 rfl (hS.has (a := 0) rfl rfl) (hS.ref (a := 7) rfl) ?_
      refine zr_iload_n dX11_raise_38 rfl rfl ?_
      refine zr_iconst (v := 1) dX11_raise_39 (by decide) ?_
      refine zr_icne (tgt := 47) dX11_raise_40 (by decide) (fun hb => ?_) (fun hb => ?_)
      · have k := k.1 hb
        refine zr_iconst (v := 0) dX11_raise_47 (by decide) ?_
        refine zr_aald dX11_raise_48 (hS.has (a := 7) rfl rfl) (by decide) (zvl (by decide)) ((hS.rl (x := 0) (by decide)).1) ?_
        refine zr_callV (As := [zo G 44, .int v2, zo G 10, zo G (zrl S 0)]) (fr' := fX7_raise) (lo' := lX7_raise) (bc' := 2) (bs' := 131072) (bcr := bc) (bsr := bs) dX11_raise_49 zs_X11_382 zi_X7_raise zcl_7 (hS.has (a := 60) rfl rfl) rfl rfl (Nat.le_of_ble_eq_true rfl) (Nat.le_of_ble_eq_true rfl) (Nat.le_of_ble_eq_true rfl) (Nat.le_refl _) (Nat.le_refl _) ?_
        refine ZC.mono (fun w S1 I1 L1 k => ?_) k
        obtain ⟨rfl, hS, k⟩ := k
        show ZW G mX11_raise fX11_raise lX11_raise 52 [zo G 0, .int v1, .int v2, zo G 44] [] S1 I1 L1 bc bs Q
        refine zr_aload_n dX11_raise_52 rfl rfl ?_
        exact zr_areturn dX11_raise_53 rfl k
      · have k := k.2 hb
        refine zr_iconst (v := 1) dX11_raise_43 (by decide) ?_
        refine zr_goto (tgt := 48) dX11_raise_44 (by decide) ?_
        refine zr_aald dX11_raise_48 (hS.has (a := 7) rfl rfl) (by decide) (zvl (by decide)) ((hS.rl (x := 1) (by decide)).1) ?_
        refine zr_callV (As := [zo G 44, .int v2, zo G 10, zo G (zrl S 1)]) (fr' := fX7_raise) (lo' := lX7_raise) (bc' := 2) (bs' := 131072) (bcr := bc) (bsr := bs) dX11_raise_49 zs_X11_382 zi_X7_raise zcl_7 (hS.has (a := 60) rfl rfl) rfl rfl (Nat.le_of_ble_eq_true rfl) (Nat.le_of_ble_eq_true rfl) (Nat.le_of_ble_eq_true rfl) (Nat.le_refl _) (Nat.le_refl _) ?_
        refine ZC.mono (fun w S1 I2 L2 k => ?_) k
        obtain ⟨rfl, hS, k⟩ := k
        show ZW G mX11_raise fX11_raise lX11_raise 52 [zo G 0, .int v1, .int v2, zo G 44] [] S1 I2 L2 bc bs Q
        refine zr_aload_n dX11_raise_52 rfl rfl ?_
        exact zr_areturn dX11_raise_53 rfl k
  · have k := k.2 hb
    refine zr_iconst (v := 1) dX11_raise_9 (by decide) ?_
    refine zr_goto (tgt := 14) dX11_raise_10 (by decide) ?_
    refine zr_aald (q := 52) dX11_raise_14 (hS.has (a := 43) rfl rfl) (by decide) (zvl (by decide)) (by rcases hS with ⟨-, -, hr, -⟩; exact hr 43 1 52 rfl) ?_
    refine zr_astore_n dX11_raise_15 rfl (Nat.le_of_ble_eq_true rfl) rfl ?_
    refine zr_aload_n dX11_raise_16 rfl rfl ?_
    refine zr_iload_n dX11_raise_17 rfl rfl ?_
    refine zr_callV (As := [.int v2]) (fr' := fX3_isRaised) (lo' := lX3_isRaised) (bc' := 0) (bs' := 0) (bcr := bc + 2) (bsr := bs + 131072) dX11_raise_18 zs_X11_379 zi_X3_isRaised zcl_3 (hS.has (a := 52) rfl rfl) rfl rfl (Nat.le_of_ble_eq_true rfl) (Nat.le_of_ble_eq_true rfl) (Nat.le_of_ble_eq_true rfl) (Nat.le_refl _) (Nat.le_refl _) ?_
    refine sp_X3_isRaised hS (show zFm 52 from Or.inr rfl) ?_
    show ZW G mX11_raise fX11_raise lX11_raise 21 [zo G 0, .int v1, .int v2, zo G 52] [.int (p_X3_isRaised I 52 v2)] S I L (bc + 2) (bs + 131072) Q
    refine zr_ifne (tgt := 52) dX11_raise_21 (by decide) (fun hb => ?_) (fun hb => ?_)
    · have k := k.1 hb
      refine zr_aload_n dX11_raise_52 rfl rfl ?_
      exact zr_areturn dX11_raise_53 rfl k
    · have k := k.2 hb
      refine zr_aload_n dX11_raise_24 rfl rfl ?_
      refine zr_getR dX11_raise_25 zf_X11_61 rfl (hS.has (a := 0) rfl rfl) (hS.ref (a := 60) rfl) ?_
      refine zr_aload_n dX11_raise_28 rfl rfl ?_
      refine zr_iload_n dX11_raise_29 rfl rfl ?_
      refine zr_aload_n dX11_raise_30 rfl rfl ?_
      refine zr_getR dX11_raise_31 zf_X11_33 rfl (hS.has (a := 0) rfl rfl) (hS.ref (a := 10) rfl) ?_
      refine zr_aload_n dX11_raise_34 rfl rfl ?_
      refine zr_getR dX11_raise_35 zf_X11_26 rfl (hS.has (a := 0) rfl rfl) (hS.ref (a := 7) rfl) ?_
      refine zr_iload_n dX11_raise_38 rfl rfl ?_
      refine zr_iconst (v := 1) dX11_raise_39 (by decide) ?_
      refine zr_icne (tgt := 47) dX11_raise_40 (by decide) (fun hb => ?_) (fun hb => ?_)
      · have k := k.1 hb
        refine zr_iconst (v := 0) dX11_raise_47 (by decide) ?_
        refine zr_aald dX11_raise_48 (hS.has (a := 7) rfl rfl) (by decide) (zvl (by decide)) ((hS.rl (x := 0) (by decide)).1) ?_
        refine zr_callV (As := [zo G 52, .int v2, zo G 10, zo G (zrl S 0)]) (fr' := fX7_raise) (lo' := lX7_raise) (bc' := 2) (bs' := 131072) (bcr := bc) (bsr := bs) dX11_raise_49 zs_X11_382 zi_X7_raise zcl_7 (hS.has (a := 60) rfl rfl) rfl rfl (Nat.le_of_ble_eq_true rfl) (Nat.le_of_ble_eq_true rfl) (Nat.le_of_ble_eq_true rfl) (Nat.le_refl _) (Nat.le_refl _) ?_
        refine ZC.mono (fun w S1 I3 L3 k => ?_) k
        obtain ⟨rfl, hS, k⟩ := k
        show ZW G mX11_raise fX11_raise lX11_raise 52 [zo G 0, .int v1, .int v2, zo G 52] [] S1 I3 L3 bc bs Q
        refine zr_aload_n dX11_raise_52 rfl rfl ?_
        exact zr_areturn dX11_raise_53 rfl k
      · have k := k.2 hb
        refine zr_iconst (v := 1) dX11_raise_43 (by decide) ?_
        refine zr_goto (tgt := 48) dX11_raise_44 (by decide) ?_
        refine zr_aald dX11_raise_48 (hS.has (a := 7) rfl rfl) (by decide) (zvl (by decide)) ((hS.rl (x := 1) (by decide)).1) ?_
        refine zr_callV (As := [zo G 52, .int v2, zo G 10, zo G (zrl S 1)]) (fr' := fX7_raise) (lo' := lX7_raise) (bc' := 2) (bs' := 131072) (bcr := bc) (bsr := bs) dX11_raise_49 zs_X11_382 zi_X7_raise zcl_7 (hS.has (a := 60) rfl rfl) rfl rfl (Nat.le_of_ble_eq_true rfl) (Nat.le_of_ble_eq_true rfl) (Nat.le_of_ble_eq_true rfl) (Nat.le_refl _) (Nat.le_refl _) ?_
        refine ZC.mono (fun w S1 I4 L4 k => ?_) k
        obtain ⟨rfl, hS, k⟩ := k
        show ZW G mX11_raise fX11_raise lX11_raise 52 [zo G 0, .int v1, .int v2, zo G 52] [] S1 I4 L4 bc bs Q
        refine zr_aload_n dX11_raise_52 rfl rfl ?_
        exact zr_areturn dX11_raise_53 rfl k
theorem vX11_frame_g {G : Gp} {bc bs : Nat} {Q : zPost} {S : zSh} {I : zFI} {L : zFL} {v1 : Int32} {v2 : Int32} {v3 : Int32} (hS : zStd S)  (k : ZC G mX11_isFrame fX11_isFrame lX11_isFrame [zo G 0, .int v1, .int v2] S I L 0 0 (fun w S' I1 L1 => ∃ r1 : Int32, w = some (.int r1) ∧ S = S' ∧ ((¬ r1 = 0 → ((v3 = 0 → (v1 = 0 ∨ v1 = 1) ∧ Q (some (.int (p_X3_membersOf I1 (zgid v1) v2))) S I1 L1) ∧ (v3 = 1 → (v1 = 0 ∨ v1 = 1) ∧ Q (some (.int (p_X3_pairsOf I1 (zgid v1) v2))) S I1 L1) ∧ (v3 = 2 → ZC G mX11_raise fX11_raise lX11_raise [zo G 0, .int v1, .int v2] S I1 L1 2 131072 (fun w S1 I2 L2 => ∃ r2 : Nat, zFm r2 ∧ w = some (zo G r2) ∧ zStd S1 ∧ Q (some (.int (p_X3_mostOf I2 r2 v2))) S1 I2 L2)) ∧ (v3 = 3 → ZC G mX11_raise fX11_raise lX11_raise [zo G 0, .int v1, .int v2] S I1 L1 2 131072 (fun w S1 I3 L3 => ∃ r3 : Nat, zFm r3 ∧ w = some (zo G r3) ∧ zStd S1 ∧ (((lg_cmp (p_X3_ordersOf L3 r3 v2) (0 : Int64)) ≤ 0 → Q (some (.int (0 : Int32))) S1 I3 L3) ∧ (¬ (lg_cmp (p_X3_ordersOf L3 r3 v2) (0 : Int64)) ≤ 0 → Q (some (.int (1 : Int32))) S1 I3 L3)))) ∧ (¬ v3 = 0 → ¬ v3 = 1 → ¬ v3 = 2 → ¬ v3 = 3 → Q (some (.int (-1 : Int32))) S I1 L1))) ∧ (r1 = 0 → Q (some (.int (-1 : Int32))) S I1 L1)))) : ZW G mX11_frame fX11_frame lX11_frame 0 [zo G 0, .int v1, .int v2, .int v3] [] S I L (bc + 2) (bs + 131072) Q := by
  refine zr_aload_n dX11_frame_0 rfl rfl ?_
  refine zr_iload_n dX11_frame_1 rfl rfl ?_
  refine zr_iload_n dX11_frame_2 rfl rfl ?_
  refine zr_callV (As := [.int v1, .int v2]) (fr' := fX11_isFrame) (lo' := lX11_isFrame) (bc' := 0) (bs' := 0) (bcr := bc + 2) (bsr := bs + 131072) dX11_frame_3 zs_X11_260 zi_X11_isFrame zcl_11 (hS.has (a := 0) rfl rfl) rfl rfl (Nat.le_of_ble_eq_true rfl) (Nat.le_of_ble_eq_true rfl) (Nat.le_of_ble_eq_true rfl) (Nat.le_refl _) (Nat.le_refl _) ?_
  refine ZC.mono (fun w S' I1 L1 k => ?_) k
  obtain ⟨r1, rfl, rfl, k⟩ := k
  show ZW G mX11_frame fX11_frame lX11_frame 6 [zo G 0, .int v1, .int v2, .int v3] [.int r1] S I1 L1 (bc + 2) (bs + 131072) Q
  refine zr_ifne (tgt := 11) dX11_frame_6 (by decide) (fun hb => ?_) (fun hb => ?_)
  · have k := k.1 hb
    refine zr_iload_n dX11_frame_11 rfl rfl ?_
    by_cases h0 : v3 = 0
    · have k := k.1 h0
      refine zr_tabIn (off := 32) (tgt := 44) dX11_frame_12 (by rw [h0]; decide) (by rw [h0]; decide) (by rw [h0]; rfl) (by decide) ?_
      refine zr_aload_n dX11_frame_44 rfl rfl ?_
      refine zr_getR dX11_frame_45 zf_X11_54 rfl (hS.has (a := 0) rfl rfl) (hS.ref (a := 43) rfl) ?_
      refine zr_iload_n dX11_frame_48 rfl rfl ?_
      obtain ⟨hx, k⟩ := k
      refine zr_aald dX11_frame_49 (hS.has (a := 43) rfl rfl) (by decide) (zin2 hx) (zgid_ref hS hx) ?_
      refine zr_iload_n dX11_frame_50 rfl rfl ?_
      refine zr_callV (As := [.int v2]) (fr' := fX3_membersOf) (lo' := lX3_membersOf) (bc' := 0) (bs' := 0) (bcr := bc + 2) (bsr := bs + 131072) dX11_frame_51 zs_X11_264 zi_X3_membersOf zcl_3 (hS.hasF (zgid_or v1) 0 rfl rfl rfl) rfl rfl (Nat.le_of_ble_eq_true rfl) (Nat.le_of_ble_eq_true rfl) (Nat.le_of_ble_eq_true rfl) (Nat.le_refl _) (Nat.le_refl _) ?_
      refine sp_X3_membersOf hS (zgid_or v1) ?_
      show ZW G mX11_frame fX11_frame lX11_frame 54 [zo G 0, .int v1, .int v2, .int v3] [.int (p_X3_membersOf I1 (zgid v1) v2)] S I1 L1 (bc + 2) (bs + 131072) Q
      exact zr_ireturn dX11_frame_54 rfl rfl k
    · by_cases h1 : v3 = 1
      · have k := k.2.1 h1
        refine zr_tabIn (off := 43) (tgt := 55) dX11_frame_12 (by rw [h1]; decide) (by rw [h1]; decide) (by rw [h1]; rfl) (by decide) ?_
        refine zr_aload_n dX11_frame_55 rfl rfl ?_
        refine zr_getR dX11_frame_56 zf_X11_54 rfl (hS.has (a := 0) rfl rfl) (hS.ref (a := 43) rfl) ?_
        refine zr_iload_n dX11_frame_59 rfl rfl ?_
        obtain ⟨hx, k⟩ := k
        refine zr_aald dX11_frame_60 (hS.has (a := 43) rfl rfl) (by decide) (zin2 hx) (zgid_ref hS hx) ?_
        refine zr_iload_n dX11_frame_61 rfl rfl ?_
        refine zr_callV (As := [.int v2]) (fr' := fX3_pairsOf) (lo' := lX3_pairsOf) (bc' := 0) (bs' := 0) (bcr := bc + 2) (bsr := bs + 131072) dX11_frame_62 zs_X11_267 zi_X3_pairsOf zcl_3 (hS.hasF (zgid_or v1) 0 rfl rfl rfl) rfl rfl (Nat.le_of_ble_eq_true rfl) (Nat.le_of_ble_eq_true rfl) (Nat.le_of_ble_eq_true rfl) (Nat.le_refl _) (Nat.le_refl _) ?_
        refine sp_X3_pairsOf hS (zgid_or v1) ?_
        show ZW G mX11_frame fX11_frame lX11_frame 65 [zo G 0, .int v1, .int v2, .int v3] [.int (p_X3_pairsOf I1 (zgid v1) v2)] S I1 L1 (bc + 2) (bs + 131072) Q
        exact zr_ireturn dX11_frame_65 rfl rfl k
      · by_cases h2 : v3 = 2
        · have k := k.2.2.1 h2
          refine zr_tabIn (off := 54) (tgt := 66) dX11_frame_12 (by rw [h2]; decide) (by rw [h2]; decide) (by rw [h2]; rfl) (by decide) ?_
          refine zr_aload_n dX11_frame_66 rfl rfl ?_
          refine zr_iload_n dX11_frame_67 rfl rfl ?_
          refine zr_iload_n dX11_frame_68 rfl rfl ?_
          refine zr_callV (As := [.int v1, .int v2]) (fr' := fX11_raise) (lo' := lX11_raise) (bc' := 2) (bs' := 131072) (bcr := bc) (bsr := bs) dX11_frame_69 zs_X11_270 zi_X11_raise zcl_11 (hS.has (a := 0) rfl rfl) rfl rfl (Nat.le_of_ble_eq_true rfl) (Nat.le_of_ble_eq_true rfl) (Nat.le_of_ble_eq_true rfl) (Nat.le_refl _) (Nat.le_refl _) ?_
          refine ZC.mono (fun w S1 I2 L2 k => ?_) k
          obtain ⟨r2, hr2, rfl, hS, k⟩ := k
          show ZW G mX11_frame fX11_frame lX11_frame 72 [zo G 0, .int v1, .int v2, .int v3] [zo G r2] S1 I2 L2 bc bs Q
          refine zr_iload_n dX11_frame_72 rfl rfl ?_
          refine zr_callV (As := [.int v2]) (fr' := fX3_mostOf) (lo' := lX3_mostOf) (bc' := 0) (bs' := 0) (bcr := bc) (bsr := bs) dX11_frame_73 zs_X11_274 zi_X3_mostOf zcl_3 (hS.hasF hr2 0 rfl rfl rfl) rfl rfl (Nat.le_of_ble_eq_true rfl) (Nat.le_of_ble_eq_true rfl) (Nat.le_of_ble_eq_true rfl) (Nat.le_refl _) (Nat.le_refl _) ?_
          refine sp_X3_mostOf hS hr2 ?_
          show ZW G mX11_frame fX11_frame lX11_frame 76 [zo G 0, .int v1, .int v2, .int v3] [.int (p_X3_mostOf I2 r2 v2)] S1 I2 L2 bc bs Q
          exact zr_ireturn dX11_frame_76 rfl rfl k
        · by_cases h3 : v3 = 3
          · have k := k.2.2.2.1 h3
            refine zr_tabIn (off := 65) (tgt := 77) dX11_frame_12 (by rw [h3]; decide) (by rw [h3]; decide) (by rw [h3]; rfl) (by decide) ?_
            refine zr_aload_n dX11_frame_77 rfl rfl ?_
            refine zr_iload_n dX11_frame_78 rfl rfl ?_
            refine zr_iload_n dX11_frame_79 rfl rfl ?_
            refine zr_callV (As := [.int v1, .int v2]) (fr' := fX11_raise) (lo' := lX11_raise) (bc' := 2) (bs' := 131072) (bcr := bc) (bsr := bs) dX11_frame_80 zs_X11_270 zi_X11_raise zcl_11 (hS.has (a := 0) rfl rfl) rfl rfl (Nat.le_of_ble_eq_true rfl) (Nat.le_of_ble_eq_true rfl) (Nat.le_of_ble_eq_true rfl) (Nat.le_refl _) (Nat.le_refl _) ?_
            refine ZC.mono (fun w S1 I3 L3 k => ?_) k
            obtain ⟨r3, hr3, rfl, hS, k⟩ := k
            show ZW G mX11_frame fX11_frame lX11_frame 83 [zo G 0, .int v1, .int v2, .int v3] [zo G r3] S1 I3 L3 bc bs Q
            refine zr_iload_n dX11_frame_83 rfl rfl ?_
            refine zr_callV (As := [.int v2]) (fr' := fX3_ordersOf) (lo' := lX3_ordersOf) (bc' := 0) (bs' := 0) (bcr := bc) (bsr := bs) dX11_frame_84 zs_X11_277 zi_X3_ordersOf zcl_3 (hS.hasF hr3 0 rfl rfl rfl) rfl rfl (Nat.le_of_ble_eq_true rfl) (Nat.le_of_ble_eq_true rfl) (Nat.le_of_ble_eq_true rfl) (Nat.le_refl _) (Nat.le_refl _) ?_
            refine sp_X3_ordersOf hS hr3 ?_
            show ZW G mX11_frame fX11_frame lX11_frame 87 [zo G 0, .int v1, .int v2, .int v3] [.long (p_X3_ordersOf L3 r3 v2)] S1 I3 L3 bc bs Q
            refine zr_lconst (v := 0) dX11_frame_87 (by decide) ?_
            refine zr_lcmp dX11_frame_88 ?_
            refine zr_ifle (tgt := 96) dX11_frame_89 (by decide) (fun hb => ?_) (fun hb => ?_)
            · have k := k.1 hb
              refine zr_iconst (v := 0) dX11_frame_96 (by decide) ?_
              exact zr_ireturn dX11_frame_97 rfl rfl k
            · have k := k.2 hb
              refine zr_iconst (v := 1) dX11_frame_92 (by decide) ?_
              refine zr_goto (tgt := 97) dX11_frame_93 (by decide) ?_
              exact zr_ireturn dX11_frame_97 rfl rfl k
          · have k := k.2.2.2.2 h0 h1 h2 h3
            refine zr_tabOut (tgt := 98) dX11_frame_12 ?_ (by decide) ?_
            · have e0 := ztab_ne h0; have e1 := ztab_ne h1; have e2 := ztab_ne h2; have e3 := ztab_ne h3; simp only [ztabv_0, ztabv_1, ztabv_2, ztabv_3] at e0 e1 e2 e3; omega
            refine zr_iconst (v := -1) dX11_frame_98 (by decide) ?_
            exact zr_ireturn dX11_frame_99 rfl rfl k
  · have k := k.2 hb
    refine zr_iconst (v := -1) dX11_frame_9 (by decide) ?_
    exact zr_ireturn dX11_frame_10 rfl rfl k
theorem vX11_orders_g {G : Gp} {bc bs : Nat} {Q : zPost} {S : zSh} {I : zFI} {L : zFL} {v1 : Int32} {v2 : Int32} (hS : zStd S)  (k : ZC G mX11_isFrame fX11_isFrame lX11_isFrame [zo G 0, .int v1, .int v2] S I L 0 0 (fun w S' I1 L1 => ∃ r1 : Int32, w = some (.int r1) ∧ S = S' ∧ ((r1 = 0 → Q (some (.long (-1 : Int64))) S I1 L1) ∧ (¬ r1 = 0 → ZC G mX11_raise fX11_raise lX11_raise [zo G 0, .int v1, .int v2] S I1 L1 2 131072 (fun w S1 I2 L2 => ∃ r2 : Nat, zFm r2 ∧ w = some (zo G r2) ∧ zStd S1 ∧ Q (some (.long (p_X3_ordersOf L2 r2 v2))) S1 I2 L2))))) : ZW G mX11_orders fX11_orders lX11_orders 0 [zo G 0, .int v1, .int v2] [] S I L (bc + 2) (bs + 131072) Q := by
  refine zr_aload_n dX11_orders_0 rfl rfl ?_
  refine zr_iload_n dX11_orders_1 rfl rfl ?_
  refine zr_iload_n dX11_orders_2 rfl rfl ?_
  refine zr_callV (As := [.int v1, .int v2]) (fr' := fX11_isFrame) (lo' := lX11_isFrame) (bc' := 0) (bs' := 0) (bcr := bc + 2) (bsr := bs + 131072) dX11_orders_3 zs_X11_260 zi_X11_isFrame zcl_11 (hS.has (a := 0) rfl rfl) rfl rfl (Nat.le_of_ble_eq_true rfl) (Nat.le_of_ble_eq_true rfl) (Nat.le_of_ble_eq_true rfl) (Nat.le_refl _) (Nat.le_refl _) ?_
  refine ZC.mono (fun w S' I1 L1 k => ?_) k
  obtain ⟨r1, rfl, rfl, k⟩ := k
  show ZW G mX11_orders fX11_orders lX11_orders 6 [zo G 0, .int v1, .int v2] [.int r1] S I1 L1 (bc + 2) (bs + 131072) Q
  refine zr_ifeq (tgt := 22) dX11_orders_6 (by decide) (fun hb => ?_) (fun hb => ?_)
  · have k := k.1 hb
    refine zr_ldc2_w dX11_orders_22 zk_X11_229 ?_
    exact zr_lreturn dX11_orders_25 rfl k
  · have k := k.2 hb
    refine zr_aload_n dX11_orders_9 rfl rfl ?_
    refine zr_iload_n dX11_orders_10 rfl rfl ?_
    refine zr_iload_n dX11_orders_11 rfl rfl ?_
    refine zr_callV (As := [.int v1, .int v2]) (fr' := fX11_raise) (lo' := lX11_raise) (bc' := 2) (bs' := 131072) (bcr := bc) (bsr := bs) dX11_orders_12 zs_X11_270 zi_X11_raise zcl_11 (hS.has (a := 0) rfl rfl) rfl rfl (Nat.le_of_ble_eq_true rfl) (Nat.le_of_ble_eq_true rfl) (Nat.le_of_ble_eq_true rfl) (Nat.le_refl _) (Nat.le_refl _) ?_
    refine ZC.mono (fun w S1 I2 L2 k => ?_) k
    obtain ⟨r2, hr2, rfl, hS, k⟩ := k
    show ZW G mX11_orders fX11_orders lX11_orders 15 [zo G 0, .int v1, .int v2] [zo G r2] S1 I2 L2 bc bs Q
    refine zr_iload_n dX11_orders_15 rfl rfl ?_
    refine zr_callV (As := [.int v2]) (fr' := fX3_ordersOf) (lo' := lX3_ordersOf) (bc' := 0) (bs' := 0) (bcr := bc) (bsr := bs) dX11_orders_16 zs_X11_277 zi_X3_ordersOf zcl_3 (hS.hasF hr2 0 rfl rfl rfl) rfl rfl (Nat.le_of_ble_eq_true rfl) (Nat.le_of_ble_eq_true rfl) (Nat.le_of_ble_eq_true rfl) (Nat.le_refl _) (Nat.le_refl _) ?_
    refine sp_X3_ordersOf hS hr2 ?_
    show ZW G mX11_orders fX11_orders lX11_orders 19 [zo G 0, .int v1, .int v2] [.long (p_X3_ordersOf L2 r2 v2)] S1 I2 L2 bc bs Q
    refine zr_goto (tgt := 25) dX11_orders_19 (by decide) ?_
    exact zr_lreturn dX11_orders_25 rfl k
theorem vX11_raised_g {G : Gp} {bc bs : Nat} {Q : zPost} {S : zSh} {I : zFI} {L : zFL} {v1 : Int32} {v2 : Int32} {v3 : Int32} (hS : zStd S)  (k : ZC G mX11_isFrame fX11_isFrame lX11_isFrame [zo G 0, .int v1, .int v2] S I L 0 0 (fun w S' I1 L1 => ∃ r1 : Int32, w = some (.int r1) ∧ S = S' ∧ ((r1 = 0 → Q (some (.int (-1 : Int32))) S I1 L1) ∧ (¬ r1 = 0 → ZC G mX11_raise fX11_raise lX11_raise [zo G 0, .int v1, .int v2] S I1 L1 2 131072 (fun w S1 I2 L2 => ∃ r2 : Nat, zFm r2 ∧ w = some (zo G r2) ∧ zStd S1 ∧ Q (some (.int (p_X3_stepOf I2 r2 v2 v3))) S1 I2 L2))))) : ZW G mX11_raised fX11_raised lX11_raised 0 [zo G 0, .int v1, .int v2, .int v3] [] S I L (bc + 2) (bs + 131072) Q := by
  refine zr_aload_n dX11_raised_0 rfl rfl ?_
  refine zr_iload_n dX11_raised_1 rfl rfl ?_
  refine zr_iload_n dX11_raised_2 rfl rfl ?_
  refine zr_callV (As := [.int v1, .int v2]) (fr' := fX11_isFrame) (lo' := lX11_isFrame) (bc' := 0) (bs' := 0) (bcr := bc + 2) (bsr := bs + 131072) dX11_raised_3 zs_X11_260 zi_X11_isFrame zcl_11 (hS.has (a := 0) rfl rfl) rfl rfl (Nat.le_of_ble_eq_true rfl) (Nat.le_of_ble_eq_true rfl) (Nat.le_of_ble_eq_true rfl) (Nat.le_refl _) (Nat.le_refl _) ?_
  refine ZC.mono (fun w S' I1 L1 k => ?_) k
  obtain ⟨r1, rfl, rfl, k⟩ := k
  show ZW G mX11_raised fX11_raised lX11_raised 6 [zo G 0, .int v1, .int v2, .int v3] [.int r1] S I1 L1 (bc + 2) (bs + 131072) Q
  refine zr_ifeq (tgt := 23) dX11_raised_6 (by decide) (fun hb => ?_) (fun hb => ?_)
  · have k := k.1 hb
    refine zr_iconst (v := -1) dX11_raised_23 (by decide) ?_
    exact zr_ireturn dX11_raised_24 rfl rfl k
  · have k := k.2 hb
    refine zr_aload_n dX11_raised_9 rfl rfl ?_
    refine zr_iload_n dX11_raised_10 rfl rfl ?_
    refine zr_iload_n dX11_raised_11 rfl rfl ?_
    refine zr_callV (As := [.int v1, .int v2]) (fr' := fX11_raise) (lo' := lX11_raise) (bc' := 2) (bs' := 131072) (bcr := bc) (bsr := bs) dX11_raised_12 zs_X11_270 zi_X11_raise zcl_11 (hS.has (a := 0) rfl rfl) rfl rfl (Nat.le_of_ble_eq_true rfl) (Nat.le_of_ble_eq_true rfl) (Nat.le_of_ble_eq_true rfl) (Nat.le_refl _) (Nat.le_refl _) ?_
    refine ZC.mono (fun w S1 I2 L2 k => ?_) k
    obtain ⟨r2, hr2, rfl, hS, k⟩ := k
    show ZW G mX11_raised fX11_raised lX11_raised 15 [zo G 0, .int v1, .int v2, .int v3] [zo G r2] S1 I2 L2 bc bs Q
    refine zr_iload_n dX11_raised_15 rfl rfl ?_
    refine zr_iload_n dX11_raised_16 rfl rfl ?_
    refine zr_callV (As := [.int v2, .int v3]) (fr' := fX3_stepOf) (lo' := lX3_stepOf) (bc' := 0) (bs' := 0) (bcr := bc) (bsr := bs) dX11_raised_17 zs_X11_281 zi_X3_stepOf zcl_3 (hS.hasF hr2 0 rfl rfl rfl) rfl rfl (Nat.le_of_ble_eq_true rfl) (Nat.le_of_ble_eq_true rfl) (Nat.le_of_ble_eq_true rfl) (Nat.le_refl _) (Nat.le_refl _) ?_
    refine sp_X3_stepOf hS hr2 ?_
    show ZW G mX11_raised fX11_raised lX11_raised 20 [zo G 0, .int v1, .int v2, .int v3] [.int (p_X3_stepOf I2 r2 v2 v3)] S1 I2 L2 bc bs Q
    refine zr_goto (tgt := 24) dX11_raised_20 (by decide) ?_
    exact zr_ireturn dX11_raised_24 rfl rfl k
