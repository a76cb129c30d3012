/-! a new custom -/
/-- the draft and rule v change places -/
def zSw (S : zSh) (v : Int32) : zSh := (zN S, zK S, u2 (u2 (zR S) 7 v.toNatClampNeg (some (zdr S))) 0 13 (some (zrl S v)))
theorem vX11_custom_s {G : Gp} {Q : zPost} {S : zSh} {I : zFI} {L : zFL} {v1 : Int32} (hS : zStd S) (k : (p_X11_isCustom v1 = 0 → Q (some (.int (-1))) S (u2 I 1 1 0) L) ∧ (¬ p_X11_isCustom v1 = 0 → (v1 = 0 ∨ v1 = 1) ∧ ZC G mX2_parse fX2_parse lX2_parse [zo G 3, zo G 1, zo G (zdr S)] S I L 0 0 (fun w S' I1 L1 => ∃ r1 : Int32, w = some (.int r1) ∧ S = S' ∧ ((r1 = -1 → Q (some (.int (-1))) S (u2 I1 1 1 0) L1) ∧ (¬ r1 = -1 → Q (some (.int r1)) (zSw S v1) (u2 (u2 I1 1 1 0) 0 16 1) L1))))) : ZW G mX11_custom fX11_custom lX11_custom 0 [zo G 0, .int v1, .null, .null] [] S I L 0 0 Q := by
  refine zr_aload_n dX11_custom_0 rfl rfl ?_
  refine zr_iload_n dX11_custom_1 rfl rfl ?_
  refine zr_callV (As := [.int v1]) (fr' := fX11_isCustom) (lo' := lX11_isCustom) (bc' := 0) (bs' := 0) (bcr := 0) (bsr := 0) dX11_custom_2 zs_X11_147 zi_X11_isCustom zcl_11 (hS.has (a := 0) rfl rfl) rfl rfl (Nat.le_of_ble_eq_true rfl) (Nat.le_of_ble_eq_true rfl) (Nat.le_of_ble_eq_true rfl) (Nat.le_refl _) (Nat.le_refl _) ?_
  refine sp_X11_isCustom hS ?_
  show ZW G mX11_custom fX11_custom lX11_custom 5 [zo G 0, .int v1, .null, .null] [.int (p_X11_isCustom v1)] S I L 0 0 Q
  refine zr_ifne (tgt := 17) dX11_custom_5 (by decide) (fun hb => ?_) (fun hb => ?_)
  · obtain ⟨hx1, k⟩ := k.2 hb
    refine zr_aload_n dX11_custom_17 rfl rfl ?_
    refine zr_getR dX11_custom_18 zf_X11_19 rfl (hS.has (a := 0) rfl rfl) (hS.ref (a := 3) rfl) ?_
    refine zr_aload_n dX11_custom_21 rfl rfl ?_
    refine zr_getR dX11_custom_22 zf_X11_12 rfl (hS.has (a := 0) rfl rfl) (hS.ref (a := 1) rfl) ?_
    refine zr_aload_n dX11_custom_25 rfl rfl ?_
    refine zr_getR dX11_custom_26 zf_X11_94 rfl (hS.has (a := 0) rfl rfl) hS.dr.1 ?_
    refine zr_callV (As := [zo G 1, zo G (zdr S)]) (fr' := fX2_parse) (lo' := lX2_parse) (bc' := 0) (bs' := 0) (bcr := 0) (bsr := 0) dX11_custom_29 zs_X11_150 zi_X2_parse zcl_2 (hS.has (a := 3) rfl rfl) rfl rfl (Nat.le_of_ble_eq_true rfl) (Nat.le_of_ble_eq_true rfl) (Nat.le_of_ble_eq_true rfl) (Nat.le_refl _) (Nat.le_refl _) ?_
    refine ZC.mono (fun w S' I1 L1 k => ?_) k
    obtain ⟨r1, rfl, rfl, k⟩ := k
    show ZW G mX11_custom fX11_custom lX11_custom 32 [zo G 0, .int v1, .null, .null] [.int r1] S I1 L1 0 0 Q
    refine zr_istore_n dX11_custom_32 rfl (Nat.le_of_ble_eq_true rfl) rfl ?_
    show ZW G mX11_custom fX11_custom lX11_custom 33 [zo G 0, .int v1, .int r1, .null] [] S I1 L1 0 0 Q
    refine zr_aload_n dX11_custom_33 rfl rfl ?_
    refine zr_getR dX11_custom_34 zf_X11_12 rfl (hS.has (a := 0) rfl rfl) (hS.ref (a := 1) rfl) ?_
    refine zr_callV (As := []) (fr' := fX9_clear) (lo' := lX9_clear) (bc' := 0) (bs' := 0) (bcr := 0) (bsr := 0) dX11_custom_37 zs_X11_144 zi_X9_clear zcl_9 (hS.has (a := 1) rfl rfl) rfl rfl (Nat.le_of_ble_eq_true rfl) (Nat.le_of_ble_eq_true rfl) (Nat.le_of_ble_eq_true rfl) (Nat.le_refl _) (Nat.le_refl _) ?_
    refine c_clear hS ?_
    show ZW G mX11_custom fX11_custom lX11_custom 40 [zo G 0, .int v1, .int r1, .null] [] S (u2 I1 1 1 0) L1 0 0 Q
    refine zr_iload_n dX11_custom_40 rfl rfl ?_
    refine zr_iconst (v := -1) dX11_custom_41 (by decide) ?_
    refine zr_icne (tgt := 47) dX11_custom_42 (by decide) (fun hr => ?_) (fun hr => ?_)
    · have k := k.2 hr
      refine zr_aload_n dX11_custom_47 rfl rfl ?_
      refine zr_getR dX11_custom_48 zf_X11_26 rfl (hS.has (a := 0) rfl rfl) (hS.ref (a := 7) rfl) ?_
      refine zr_iload_n dX11_custom_51 rfl rfl ?_
      refine zr_aald dX11_custom_52 (hS.has (a := 7) rfl rfl) (by decide) (zin2 hx1) (hS.rl hx1).1 ?_
      refine zr_astore_n dX11_custom_53 rfl (Nat.le_of_ble_eq_true rfl) rfl ?_
      show ZW G mX11_custom fX11_custom lX11_custom 54 [zo G 0, .int v1, .int r1, zo G (zrl S v1)] [] S (u2 I1 1 1 0) L1 0 0 Q
      refine zr_aload_n dX11_custom_54 rfl rfl ?_
      refine zr_getR dX11_custom_55 zf_X11_26 rfl (hS.has (a := 0) rfl rfl) (hS.ref (a := 7) rfl) ?_
      refine zr_iload_n dX11_custom_58 rfl rfl ?_
      refine zr_aload_n dX11_custom_59 rfl rfl ?_
      refine zr_getR dX11_custom_60 zf_X11_94 rfl (hS.has (a := 0) rfl rfl) hS.dr.1 ?_
      refine zr_aast dX11_custom_63 (hS.has (a := 7) rfl rfl) (by decide) zcl_1 rfl (hS.hasC hS.dr.2) (zin2 hx1) ?_
      refine zr_aload_n dX11_custom_64 rfl rfl ?_
      refine zr_aload_n dX11_custom_65 rfl rfl ?_
      refine zr_putR dX11_custom_66 zf_X11_94 (Or.inl rfl) rfl (show zHas S 0 (0, 11) from hS.has (a := 0) rfl rfl) rfl rfl ?_
      refine zr_aload_n dX11_custom_69 rfl rfl ?_
      refine zr_iconst (v := 1) dX11_custom_70 (by decide) ?_
      refine zr_putI dX11_custom_71 zf_X11_104 rfl (show zHas S 0 (0, 11) from hS.has (a := 0) rfl rfl) rfl rfl ?_
      refine zr_iload_n dX11_custom_74 rfl rfl ?_
      exact zr_ireturn dX11_custom_75 rfl rfl k
    · have k := k.1 hr
      refine zr_iconst (v := -1) dX11_custom_45 (by decide) ?_
      exact zr_ireturn dX11_custom_46 rfl rfl k
  · have k := k.1 hb
    refine zr_aload_n dX11_custom_8 rfl rfl ?_
    refine zr_getR dX11_custom_9 zf_X11_12 rfl (hS.has (a := 0) rfl rfl) (hS.ref (a := 1) rfl) ?_
    refine zr_callV (As := []) (fr' := fX9_clear) (lo' := lX9_clear) (bc' := 0) (bs' := 0) (bcr := 0) (bsr := 0) dX11_custom_12 zs_X11_144 zi_X9_clear zcl_9 (hS.has (a := 1) rfl rfl) rfl rfl (Nat.le_of_ble_eq_true rfl) (Nat.le_of_ble_eq_true rfl) (Nat.le_of_ble_eq_true rfl) (Nat.le_refl _) (Nat.le_refl _) ?_
    refine c_clear hS ?_
    show ZW G mX11_custom fX11_custom lX11_custom 15 [zo G 0, .int v1, .null, .null] [] S (u2 I 1 1 0) L 0 0 Q
    refine zr_iconst (v := -1) dX11_custom_15 (by decide) ?_
    exact zr_ireturn dX11_custom_16 rfl rfl k
