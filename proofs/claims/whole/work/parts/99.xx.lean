/-! the two constructors -/
def evR_0 : List (Nat × Nat × Nat) := []
def evI_0 : List (Nat × Nat × Int32 × Nat) := []
def evR_1 : List (Nat × Nat × Nat) := (1, 0, 2) :: evR_0
def evI_1 : List (Nat × Nat × Int32 × Nat) := (1, 1, 0, 0) :: evI_0
set_option maxHeartbeats 16000000 in
theorem kc_1 {G : Gp} {Q : zPost} {L : zFL} (q : ∀ L' : zFL, Q none (zcs 3 evR_1) (zev evI_1) L') : ZC G mX9_init fX9_init lX9_init [zo G 1] (zcs 2 evR_0) (zev evI_0) L 1 800 Q := by
  refine ZC.of' (vs := [zo G 1]) ?_ rfl (Nat.le_of_ble_eq_true rfl) rfl
  refine zr_aload_n dX9_init_0 rfl rfl ?_
  refine zr_objInit dX9_init_1 zob_X9 zobI zobC (Nat.le_of_ble_eq_true rfl) (Nat.le_of_ble_eq_true rfl) (Nat.le_of_ble_eq_true rfl) ?_
  refine zr_aload_n dX9_init_4 rfl rfl ?_
  refine zr_sipush (v := 800) dX9_init_5 (by decide) ?_
  refine zq_newI (n := 2) (a := 2) (n' := 3) (N := 800) (bc' := 0) (bs' := 0) dX9_init_8 (by decide) (by decide) rfl rfl rfl (Nat.le_of_ble_eq_true rfl) (Nat.le_of_ble_eq_true rfl) (Nat.le_of_ble_eq_true rfl) ?_
  refine zq_putR (ρ' := evR_1) dX9_init_10 zf_X9_11 (Or.inr ⟨rfl, _, _, _, rfl, rfl⟩) rfl rfl rfl rfl rfl rfl ?_
  refine zr_aload_n dX9_init_13 rfl rfl ?_
  refine zr_iconst (v := 0) dX9_init_14 (by decide) ?_
  refine zq_putI (ι' := evI_1) dX9_init_15 zf_X9_15 rfl rfl rfl rfl rfl rfl ?_
  exact zr_return_ dX9_init_18 rfl (q _)
def evR_2 : List (Nat × Nat × Nat) := (0, 0, 1) :: evR_1
def evR_3 : List (Nat × Nat × Nat) := (3, 0, 4) :: evR_2
def evR_4 : List (Nat × Nat × Nat) := (3, 1, 5) :: evR_3
def evR_5 : List (Nat × Nat × Nat) := (3, 2, 6) :: evR_4
def evI_2 : List (Nat × Nat × Int32 × Nat) := (3, 3, 0, 0) :: evI_1
def evI_3 : List (Nat × Nat × Int32 × Nat) := (3, 4, 0, 0) :: evI_2
def evI_4 : List (Nat × Nat × Int32 × Nat) := (3, 5, 0, 0) :: evI_3
def evI_5 : List (Nat × Nat × Int32 × Nat) := (3, 6, (-1 : Int32), 0) :: evI_4
set_option maxHeartbeats 16000000 in
theorem kc_2 {G : Gp} {Q : zPost} {L : zFL} (q : ∀ L' : zFL, Q none (zcs 7 evR_5) (zev evI_5) L') : ZC G mX2_init fX2_init lX2_init [zo G 3] (zcs 4 evR_2) (zev evI_1) L 3 603 Q := by
  refine ZC.of' (vs := [zo G 3]) ?_ rfl (Nat.le_of_ble_eq_true rfl) rfl
  refine zr_aload_n dX2_init_0 rfl rfl ?_
  refine zr_objInit dX2_init_1 zob_X2 zobI zobC (Nat.le_of_ble_eq_true rfl) (Nat.le_of_ble_eq_true rfl) (Nat.le_of_ble_eq_true rfl) ?_
  refine zr_aload_n dX2_init_4 rfl rfl ?_
  refine zr_sipush (v := 201) dX2_init_5 (by decide) ?_
  refine zq_newI (n := 4) (a := 4) (n' := 5) (N := 201) (bc' := 2) (bs' := 402) dX2_init_8 (by decide) (by decide) rfl rfl rfl (Nat.le_of_ble_eq_true rfl) (Nat.le_of_ble_eq_true rfl) (Nat.le_of_ble_eq_true rfl) ?_
  refine zq_putR (ρ' := evR_3) dX2_init_10 zf_X2_11 (Or.inr ⟨rfl, _, _, _, rfl, rfl⟩) rfl rfl rfl rfl rfl rfl ?_
  refine zr_aload_n dX2_init_13 rfl rfl ?_
  refine zr_sipush (v := 201) dX2_init_14 (by decide) ?_
  refine zq_newI (n := 5) (a := 5) (n' := 6) (N := 201) (bc' := 1) (bs' := 201) dX2_init_17 (by decide) (by decide) rfl rfl rfl (Nat.le_of_ble_eq_true rfl) (Nat.le_of_ble_eq_true rfl) (Nat.le_of_ble_eq_true rfl) ?_
  refine zq_putR (ρ' := evR_4) dX2_init_19 zf_X2_15 (Or.inr ⟨rfl, _, _, _, rfl, rfl⟩) rfl rfl rfl rfl rfl rfl ?_
  refine zr_aload_n dX2_init_22 rfl rfl ?_
  refine zr_sipush (v := 201) dX2_init_23 (by decide) ?_
  refine zq_newI (n := 6) (a := 6) (n' := 7) (N := 201) (bc' := 0) (bs' := 0) dX2_init_26 (by decide) (by decide) rfl rfl rfl (Nat.le_of_ble_eq_true rfl) (Nat.le_of_ble_eq_true rfl) (Nat.le_of_ble_eq_true rfl) ?_
  refine zq_putR (ρ' := evR_5) dX2_init_28 zf_X2_18 (Or.inr ⟨rfl, _, _, _, rfl, rfl⟩) rfl rfl rfl rfl rfl rfl ?_
  refine zr_aload_n dX2_init_31 rfl rfl ?_
  refine zr_iconst (v := 0) dX2_init_32 (by decide) ?_
  refine zq_putI (ι' := evI_2) dX2_init_33 zf_X2_21 rfl rfl rfl rfl rfl rfl ?_
  refine zr_aload_n dX2_init_36 rfl rfl ?_
  refine zr_iconst (v := 0) dX2_init_37 (by decide) ?_
  refine zq_putI (ι' := evI_3) dX2_init_38 zf_X2_25 rfl rfl rfl rfl rfl rfl ?_
  refine zr_aload_n dX2_init_41 rfl rfl ?_
  refine zr_iconst (v := 0) dX2_init_42 (by decide) ?_
  refine zq_putI (ι' := evI_4) dX2_init_43 zf_X2_28 rfl rfl rfl rfl rfl rfl ?_
  refine zr_aload_n dX2_init_46 rfl rfl ?_
  refine zr_iconst (v := (-1 : Int32)) dX2_init_47 (by decide) ?_
  refine zq_putI (ι' := evI_5) dX2_init_48 zf_X2_31 rfl rfl rfl rfl rfl rfl ?_
  exact zr_return_ dX2_init_51 rfl (q _)
def evR_6 : List (Nat × Nat × Nat) := (0, 1, 3) :: evR_5
def evI_6 : List (Nat × Nat × Int32 × Nat) := (8, 0, 3, 0) :: evI_5
def evI_7 : List (Nat × Nat × Int32 × Nat) := (8, 1, 0, 0) :: evI_6
def evI_8 : List (Nat × Nat × Int32 × Nat) := (8, 2, 1, 0) :: evI_7
def evI_9 : List (Nat × Nat × Int32 × Nat) := (8, 3, 2, 0) :: evI_8
def evI_10 : List (Nat × Nat × Int32 × Nat) := (8, 4, 60, 0) :: evI_9
def evI_11 : List (Nat × Nat × Int32 × Nat) := (8, 5, 1, 0) :: evI_10
def evI_12 : List (Nat × Nat × Int32 × Nat) := (8, 6, 10, 0) :: evI_11
def evI_13 : List (Nat × Nat × Int32 × Nat) := (8, 7, 30, 0) :: evI_12
def evI_14 : List (Nat × Nat × Int32 × Nat) := (8, 8, 2, 0) :: evI_13
def evI_15 : List (Nat × Nat × Int32 × Nat) := (8, 9, 0, 0) :: evI_14
def evI_16 : List (Nat × Nat × Int32 × Nat) := (8, 10, 0, 0) :: evI_15
set_option maxHeartbeats 16000000 in
theorem kc_3 {G : Gp} {Q : zPost} {L : zFL} (q : ∀ L' : zFL, Q none (zcs 9 evR_6) (zev evI_16) L') : ZC G mX1_reset fX1_reset lX1_reset [zo G 8] (zcs 9 evR_6) (zev evI_5) L 0 0 Q := by
  refine ZC.of' (vs := [zo G 8]) ?_ rfl (Nat.le_of_ble_eq_true rfl) rfl
  refine zr_aload_n dX1_reset_0 rfl rfl ?_
  refine zr_iconst (v := 3) dX1_reset_1 (by decide) ?_
  refine zq_putI (ι' := evI_6) dX1_reset_2 zf_X1_14 rfl rfl rfl rfl rfl rfl ?_
  refine zr_aload_n dX1_reset_5 rfl rfl ?_
  refine zr_iconst (v := 0) dX1_reset_6 (by decide) ?_
  refine zq_putI (ι' := evI_7) dX1_reset_7 zf_X1_18 rfl rfl rfl rfl rfl rfl ?_
  refine zr_aload_n dX1_reset_10 rfl rfl ?_
  refine zr_iconst (v := 1) dX1_reset_11 (by decide) ?_
  refine zq_putI (ι' := evI_8) dX1_reset_12 zf_X1_22 rfl rfl rfl rfl rfl rfl ?_
  refine zr_aload_n dX1_reset_15 rfl rfl ?_
  refine zr_iconst (v := 2) dX1_reset_16 (by decide) ?_
  refine zq_putI (ι' := evI_9) dX1_reset_17 zf_X1_25 rfl rfl rfl rfl rfl rfl ?_
  refine zr_aload_n dX1_reset_20 rfl rfl ?_
  refine zr_bipush (v := 60) dX1_reset_21 (by decide) ?_
  refine zq_putI (ι' := evI_10) dX1_reset_23 zf_X1_28 rfl rfl rfl rfl rfl rfl ?_
  refine zr_aload_n dX1_reset_26 rfl rfl ?_
  refine zr_iconst (v := 1) dX1_reset_27 (by decide) ?_
  refine zq_putI (ι' := evI_11) dX1_reset_28 zf_X1_31 rfl rfl rfl rfl rfl rfl ?_
  refine zr_aload_n dX1_reset_31 rfl rfl ?_
  refine zr_bipush (v := 10) dX1_reset_32 (by decide) ?_
  refine zq_putI (ι' := evI_12) dX1_reset_34 zf_X1_34 rfl rfl rfl rfl rfl rfl ?_
  refine zr_aload_n dX1_reset_37 rfl rfl ?_
  refine zr_bipush (v := 30) dX1_reset_38 (by decide) ?_
  refine zq_putI (ι' := evI_13) dX1_reset_40 zf_X1_37 rfl rfl rfl rfl rfl rfl ?_
  refine zr_aload_n dX1_reset_43 rfl rfl ?_
  refine zr_iconst (v := 2) dX1_reset_44 (by decide) ?_
  refine zq_putI (ι' := evI_14) dX1_reset_45 zf_X1_40 rfl rfl rfl rfl rfl rfl ?_
  refine zr_aload_n dX1_reset_48 rfl rfl ?_
  refine zr_iconst (v := 0) dX1_reset_49 (by decide) ?_
  refine zq_putI (ι' := evI_15) dX1_reset_50 zf_X1_43 rfl rfl rfl rfl rfl rfl ?_
  refine zr_aload_n dX1_reset_53 rfl rfl ?_
  refine zr_iconst (v := 0) dX1_reset_54 (by decide) ?_
  refine zq_putI (ι' := evI_16) dX1_reset_55 zf_X1_46 rfl rfl rfl rfl rfl rfl ?_
  exact zr_return_ dX1_reset_58 rfl (q _)
set_option maxHeartbeats 16000000 in
theorem kc_4 {G : Gp} {Q : zPost} {L : zFL} (q : ∀ L' : zFL, Q none (zcs 9 evR_6) (zev evI_16) L') : ZC G mX1_init fX1_init lX1_init [zo G 8] (zcs 9 evR_6) (zev evI_5) L 0 0 Q := by
  refine ZC.of' (vs := [zo G 8]) ?_ rfl (Nat.le_of_ble_eq_true rfl) rfl
  refine zr_aload_n dX1_init_0 rfl rfl ?_
  refine zr_objInit dX1_init_1 zob_X1 zobI zobC (Nat.le_of_ble_eq_true rfl) (Nat.le_of_ble_eq_true rfl) (Nat.le_of_ble_eq_true rfl) ?_
  refine zr_aload_n dX1_init_4 rfl rfl ?_
  refine zr_callV (As := []) (rest := []) (fr' := fX1_reset) (lo' := lX1_reset) (bc' := 0) (bs' := 0) (bcr := 0) (bsr := 0) dX1_init_5 zs_X1_9 zi_X1_reset zcl_1 (zq_has rfl rfl) rfl rfl (Nat.le_of_ble_eq_true rfl) (Nat.le_of_ble_eq_true rfl) (Nat.le_of_ble_eq_true rfl) (Nat.le_of_ble_eq_true rfl) (Nat.le_of_ble_eq_true rfl) ?_
  refine kc_3 (fun L1 => ?_)
  show ZW G mX1_init fX1_init lX1_init 8 [zo G 8] [] (zcs 9 evR_6) (zev evI_16) L1 0 0 Q
  exact zr_return_ dX1_init_8 rfl (q _)
def evR_7 : List (Nat × Nat × Nat) := (7, 0, 8) :: evR_6
def evI_17 : List (Nat × Nat × Int32 × Nat) := (9, 0, 3, 0) :: evI_16
def evI_18 : List (Nat × Nat × Int32 × Nat) := (9, 1, 0, 0) :: evI_17
def evI_19 : List (Nat × Nat × Int32 × Nat) := (9, 2, 1, 0) :: evI_18
def evI_20 : List (Nat × Nat × Int32 × Nat) := (9, 3, 2, 0) :: evI_19
def evI_21 : List (Nat × Nat × Int32 × Nat) := (9, 4, 60, 0) :: evI_20
def evI_22 : List (Nat × Nat × Int32 × Nat) := (9, 5, 1, 0) :: evI_21
def evI_23 : List (Nat × Nat × Int32 × Nat) := (9, 6, 10, 0) :: evI_22
def evI_24 : List (Nat × Nat × Int32 × Nat) := (9, 7, 30, 0) :: evI_23
def evI_25 : List (Nat × Nat × Int32 × Nat) := (9, 8, 2, 0) :: evI_24
def evI_26 : List (Nat × Nat × Int32 × Nat) := (9, 9, 0, 0) :: evI_25
def evI_27 : List (Nat × Nat × Int32 × Nat) := (9, 10, 0, 0) :: evI_26
set_option maxHeartbeats 16000000 in
theorem kc_5 {G : Gp} {Q : zPost} {L : zFL} (q : ∀ L' : zFL, Q none (zcs 10 evR_7) (zev evI_27) L') : ZC G mX1_reset fX1_reset lX1_reset [zo G 9] (zcs 10 evR_7) (zev evI_16) L 0 0 Q := by
  refine ZC.of' (vs := [zo G 9]) ?_ rfl (Nat.le_of_ble_eq_true rfl) rfl
  refine zr_aload_n dX1_reset_0 rfl rfl ?_
  refine zr_iconst (v := 3) dX1_reset_1 (by decide) ?_
  refine zq_putI (ι' := evI_17) dX1_reset_2 zf_X1_14 rfl rfl rfl rfl rfl rfl ?_
  refine zr_aload_n dX1_reset_5 rfl rfl ?_
  refine zr_iconst (v := 0) dX1_reset_6 (by decide) ?_
  refine zq_putI (ι' := evI_18) dX1_reset_7 zf_X1_18 rfl rfl rfl rfl rfl rfl ?_
  refine zr_aload_n dX1_reset_10 rfl rfl ?_
  refine zr_iconst (v := 1) dX1_reset_11 (by decide) ?_
  refine zq_putI (ι' := evI_19) dX1_reset_12 zf_X1_22 rfl rfl rfl rfl rfl rfl ?_
  refine zr_aload_n dX1_reset_15 rfl rfl ?_
  refine zr_iconst (v := 2) dX1_reset_16 (by decide) ?_
  refine zq_putI (ι' := evI_20) dX1_reset_17 zf_X1_25 rfl rfl rfl rfl rfl rfl ?_
  refine zr_aload_n dX1_reset_20 rfl rfl ?_
  refine zr_bipush (v := 60) dX1_reset_21 (by decide) ?_
  refine zq_putI (ι' := evI_21) dX1_reset_23 zf_X1_28 rfl rfl rfl rfl rfl rfl ?_
  refine zr_aload_n dX1_reset_26 rfl rfl ?_
  refine zr_iconst (v := 1) dX1_reset_27 (by decide) ?_
  refine zq_putI (ι' := evI_22) dX1_reset_28 zf_X1_31 rfl rfl rfl rfl rfl rfl ?_
  refine zr_aload_n dX1_reset_31 rfl rfl ?_
  refine zr_bipush (v := 10) dX1_reset_32 (by decide) ?_
  refine zq_putI (ι' := evI_23) dX1_reset_34 zf_X1_34 rfl rfl rfl rfl rfl rfl ?_
  refine zr_aload_n dX1_reset_37 rfl rfl ?_
  refine zr_bipush (v := 30) dX1_reset_38 (by decide) ?_
  refine zq_putI (ι' := evI_24) dX1_reset_40 zf_X1_37 rfl rfl rfl rfl rfl rfl ?_
  refine zr_aload_n dX1_reset_43 rfl rfl ?_
  refine zr_iconst (v := 2) dX1_reset_44 (by decide) ?_
  refine zq_putI (ι' := evI_25) dX1_reset_45 zf_X1_40 rfl rfl rfl rfl rfl rfl ?_
  refine zr_aload_n dX1_reset_48 rfl rfl ?_
  refine zr_iconst (v := 0) dX1_reset_49 (by decide) ?_
  refine zq_putI (ι' := evI_26) dX1_reset_50 zf_X1_43 rfl rfl rfl rfl rfl rfl ?_
  refine zr_aload_n dX1_reset_53 rfl rfl ?_
  refine zr_iconst (v := 0) dX1_reset_54 (by decide) ?_
  refine zq_putI (ι' := evI_27) dX1_reset_55 zf_X1_46 rfl rfl rfl rfl rfl rfl ?_
  exact zr_return_ dX1_reset_58 rfl (q _)
set_option maxHeartbeats 16000000 in
theorem kc_6 {G : Gp} {Q : zPost} {L : zFL} (q : ∀ L' : zFL, Q none (zcs 10 evR_7) (zev evI_27) L') : ZC G mX1_init fX1_init lX1_init [zo G 9] (zcs 10 evR_7) (zev evI_16) L 0 0 Q := by
  refine ZC.of' (vs := [zo G 9]) ?_ rfl (Nat.le_of_ble_eq_true rfl) rfl
  refine zr_aload_n dX1_init_0 rfl rfl ?_
  refine zr_objInit dX1_init_1 zob_X1 zobI zobC (Nat.le_of_ble_eq_true rfl) (Nat.le_of_ble_eq_true rfl) (Nat.le_of_ble_eq_true rfl) ?_
  refine zr_aload_n dX1_init_4 rfl rfl ?_
  refine zr_callV (As := []) (rest := []) (fr' := fX1_reset) (lo' := lX1_reset) (bc' := 0) (bs' := 0) (bcr := 0) (bsr := 0) dX1_init_5 zs_X1_9 zi_X1_reset zcl_1 (zq_has rfl rfl) rfl rfl (Nat.le_of_ble_eq_true rfl) (Nat.le_of_ble_eq_true rfl) (Nat.le_of_ble_eq_true rfl) (Nat.le_of_ble_eq_true rfl) (Nat.le_of_ble_eq_true rfl) ?_
  refine kc_5 (fun L1 => ?_)
  show ZW G mX1_init fX1_init lX1_init 8 [zo G 9] [] (zcs 10 evR_7) (zev evI_27) L1 0 0 Q
  exact zr_return_ dX1_init_8 rfl (q _)
def evR_8 : List (Nat × Nat × Nat) := (7, 1, 9) :: evR_7
def evR_9 : List (Nat × Nat × Nat) := (0, 2, 7) :: evR_8
def evI_28 : List (Nat × Nat × Int32 × Nat) := (10, 0, 0, 0) :: evI_27
def evR_10 : List (Nat × Nat × Nat) := (10, 1, 11) :: evR_9
def evR_11 : List (Nat × Nat × Nat) := (10, 2, 12) :: evR_10
def evR_12 : List (Nat × Nat × Nat) := (10, 3, 13) :: evR_11
def evI_29 : List (Nat × Nat × Int32 × Nat) := (10, 4, 0, 0) :: evI_28
def evR_13 : List (Nat × Nat × Nat) := (10, 5, 14) :: evR_12
def evR_14 : List (Nat × Nat × Nat) := (10, 6, 15) :: evR_13
def evR_15 : List (Nat × Nat × Nat) := (10, 7, 16) :: evR_14
def evR_16 : List (Nat × Nat × Nat) := (10, 8, 17) :: evR_15
def evR_17 : List (Nat × Nat × Nat) := (10, 9, 18) :: evR_16
set_option maxHeartbeats 16000000 in
theorem kc_7 {G : Gp} {Q : zPost} {L : zFL} (q : ∀ L' : zFL, Q none (zcs 19 evR_17) (zev evI_29) L') : ZC G mX10_init fX10_init lX10_init [zo G 10] (zcs 11 evR_9) (zev evI_27) L 8 288 Q := by
  refine ZC.of' (vs := [zo G 10]) ?_ rfl (Nat.le_of_ble_eq_true rfl) rfl
  refine zr_aload_n dX10_init_0 rfl rfl ?_
  refine zr_objInit dX10_init_1 zob_X10 zobI zobC (Nat.le_of_ble_eq_true rfl) (Nat.le_of_ble_eq_true rfl) (Nat.le_of_ble_eq_true rfl) ?_
  refine zr_aload_n dX10_init_4 rfl rfl ?_
  refine zr_iconst (v := 0) dX10_init_5 (by decide) ?_
  refine zq_putI (ι' := evI_28) dX10_init_6 zf_X10_9 rfl rfl rfl rfl rfl rfl ?_
  refine zr_aload_n dX10_init_9 rfl rfl ?_
  refine zr_bipush (v := 16) dX10_init_10 (by decide) ?_
  refine zq_newI (n := 11) (a := 11) (n' := 12) (N := 16) (bc' := 7) (bs' := 272) dX10_init_12 (by decide) (by decide) rfl rfl rfl (Nat.le_of_ble_eq_true rfl) (Nat.le_of_ble_eq_true rfl) (Nat.le_of_ble_eq_true rfl) ?_
  refine zq_putR (ρ' := evR_10) dX10_init_14 zf_X10_15 (Or.inr ⟨rfl, _, _, _, rfl, rfl⟩) rfl rfl rfl rfl rfl rfl ?_
  refine zr_aload_n dX10_init_17 rfl rfl ?_
  refine zr_bipush (v := 16) dX10_init_18 (by decide) ?_
  refine zq_newI (n := 12) (a := 12) (n' := 13) (N := 16) (bc' := 6) (bs' := 256) dX10_init_20 (by decide) (by decide) rfl rfl rfl (Nat.le_of_ble_eq_true rfl) (Nat.le_of_ble_eq_true rfl) (Nat.le_of_ble_eq_true rfl) ?_
  refine zq_putR (ρ' := evR_11) dX10_init_22 zf_X10_19 (Or.inr ⟨rfl, _, _, _, rfl, rfl⟩) rfl rfl rfl rfl rfl rfl ?_
  refine zr_aload_n dX10_init_25 rfl rfl ?_
  refine zr_bipush (v := 16) dX10_init_26 (by decide) ?_
  refine zq_newI (n := 13) (a := 13) (n' := 14) (N := 16) (bc' := 5) (bs' := 240) dX10_init_28 (by decide) (by decide) rfl rfl rfl (Nat.le_of_ble_eq_true rfl) (Nat.le_of_ble_eq_true rfl) (Nat.le_of_ble_eq_true rfl) ?_
  refine zq_putR (ρ' := evR_12) dX10_init_30 zf_X10_22 (Or.inr ⟨rfl, _, _, _, rfl, rfl⟩) rfl rfl rfl rfl rfl rfl ?_
  refine zr_aload_n dX10_init_33 rfl rfl ?_
  refine zr_iconst (v := 0) dX10_init_34 (by decide) ?_
  refine zq_putI (ι' := evI_29) dX10_init_35 zf_X10_25 rfl rfl rfl rfl rfl rfl ?_
  refine zr_aload_n dX10_init_38 rfl rfl ?_
  refine zr_bipush (v := 48) dX10_init_39 (by decide) ?_
  refine zq_newI (n := 14) (a := 14) (n' := 15) (N := 48) (bc' := 4) (bs' := 192) dX10_init_41 (by decide) (by decide) rfl rfl rfl (Nat.le_of_ble_eq_true rfl) (Nat.le_of_ble_eq_true rfl) (Nat.le_of_ble_eq_true rfl) ?_
  refine zq_putR (ρ' := evR_13) dX10_init_43 zf_X10_28 (Or.inr ⟨rfl, _, _, _, rfl, rfl⟩) rfl rfl rfl rfl rfl rfl ?_
  refine zr_aload_n dX10_init_46 rfl rfl ?_
  refine zr_bipush (v := 48) dX10_init_47 (by decide) ?_
  refine zq_newI (n := 15) (a := 15) (n' := 16) (N := 48) (bc' := 3) (bs' := 144) dX10_init_49 (by decide) (by decide) rfl rfl rfl (Nat.le_of_ble_eq_true rfl) (Nat.le_of_ble_eq_true rfl) (Nat.le_of_ble_eq_true rfl) ?_
  refine zq_putR (ρ' := evR_14) dX10_init_51 zf_X10_31 (Or.inr ⟨rfl, _, _, _, rfl, rfl⟩) rfl rfl rfl rfl rfl rfl ?_
  refine zr_aload_n dX10_init_54 rfl rfl ?_
  refine zr_bipush (v := 48) dX10_init_55 (by decide) ?_
  refine zq_newI (n := 16) (a := 16) (n' := 17) (N := 48) (bc' := 2) (bs' := 96) dX10_init_57 (by decide) (by decide) rfl rfl rfl (Nat.le_of_ble_eq_true rfl) (Nat.le_of_ble_eq_true rfl) (Nat.le_of_ble_eq_true rfl) ?_
  refine zq_putR (ρ' := evR_15) dX10_init_59 zf_X10_34 (Or.inr ⟨rfl, _, _, _, rfl, rfl⟩) rfl rfl rfl rfl rfl rfl ?_
  refine zr_aload_n dX10_init_62 rfl rfl ?_
  refine zr_bipush (v := 48) dX10_init_63 (by decide) ?_
  refine zq_newI (n := 17) (a := 17) (n' := 18) (N := 48) (bc' := 1) (bs' := 48) dX10_init_65 (by decide) (by decide) rfl rfl rfl (Nat.le_of_ble_eq_true rfl) (Nat.le_of_ble_eq_true rfl) (Nat.le_of_ble_eq_true rfl) ?_
  refine zq_putR (ρ' := evR_16) dX10_init_67 zf_X10_37 (Or.inr ⟨rfl, _, _, _, rfl, rfl⟩) rfl rfl rfl rfl rfl rfl ?_
  refine zr_aload_n dX10_init_70 rfl rfl ?_
  refine zr_bipush (v := 48) dX10_init_71 (by decide) ?_
  refine zq_newI (n := 18) (a := 18) (n' := 19) (N := 48) (bc' := 0) (bs' := 0) dX10_init_73 (by decide) (by decide) rfl rfl rfl (Nat.le_of_ble_eq_true rfl) (Nat.le_of_ble_eq_true rfl) (Nat.le_of_ble_eq_true rfl) ?_
  refine zq_putR (ρ' := evR_17) dX10_init_75 zf_X10_40 (Or.inr ⟨rfl, _, _, _, rfl, rfl⟩) rfl rfl rfl rfl rfl rfl ?_
  exact zr_return_ dX10_init_78 rfl (q _)
def evR_18 : List (Nat × Nat × Nat) := (0, 3, 10) :: evR_17
def evI_30 : List (Nat × Nat × Int32 × Nat) := (19, 0, 0, 0) :: evI_29
def evR_19 : List (Nat × Nat × Nat) := (19, 1, 20) :: evR_18
def evR_20 : List (Nat × Nat × Nat) := (19, 2, 21) :: evR_19
def evR_21 : List (Nat × Nat × Nat) := (19, 3, 22) :: evR_20
def evR_22 : List (Nat × Nat × Nat) := (19, 4, 23) :: evR_21
def evR_23 : List (Nat × Nat × Nat) := (19, 5, 24) :: evR_22
def evR_24 : List (Nat × Nat × Nat) := (19, 6, 25) :: evR_23
def evI_31 : List (Nat × Nat × Int32 × Nat) := (25, 0, (-1 : Int32), 48) :: evI_30
set_option maxHeartbeats 16000000 in
theorem kc_8 {G : Gp} {Q : zPost} {L : zFL} (q : ∀ L' : zFL, Q none (zcs 26 evR_24) (zev evI_31) L') : ZC G mX6_init fX6_init lX6_init [zo G 19] (zcs 20 evR_18) (zev evI_29) L 6 2048 Q := by
  refine ZC.of' (vs := [zo G 19]) ?_ rfl (Nat.le_of_ble_eq_true rfl) rfl
  refine zr_aload_n dX6_init_0 rfl rfl ?_
  refine zr_objInit dX6_init_1 zob_X6 zobI zobC (Nat.le_of_ble_eq_true rfl) (Nat.le_of_ble_eq_true rfl) (Nat.le_of_ble_eq_true rfl) ?_
  refine zr_aload_n dX6_init_4 rfl rfl ?_
  refine zr_iconst (v := 0) dX6_init_5 (by decide) ?_
  refine zq_putI (ι' := evI_30) dX6_init_6 zf_X6_9 rfl rfl rfl rfl rfl rfl ?_
  refine zr_aload_n dX6_init_9 rfl rfl ?_
  refine zr_sipush (v := 200) dX6_init_10 (by decide) ?_
  refine zq_newI (n := 20) (a := 20) (n' := 21) (N := 200) (bc' := 5) (bs' := 1848) dX6_init_13 (by decide) (by decide) rfl rfl rfl (Nat.le_of_ble_eq_true rfl) (Nat.le_of_ble_eq_true rfl) (Nat.le_of_ble_eq_true rfl) ?_
  refine zq_putR (ρ' := evR_19) dX6_init_15 zf_X6_15 (Or.inr ⟨rfl, _, _, _, rfl, rfl⟩) rfl rfl rfl rfl rfl rfl ?_
  refine zr_aload_n dX6_init_18 rfl rfl ?_
  refine zr_sipush (v := 200) dX6_init_19 (by decide) ?_
  refine zq_newI (n := 21) (a := 21) (n' := 22) (N := 200) (bc' := 4) (bs' := 1648) dX6_init_22 (by decide) (by decide) rfl rfl rfl (Nat.le_of_ble_eq_true rfl) (Nat.le_of_ble_eq_true rfl) (Nat.le_of_ble_eq_true rfl) ?_
  refine zq_putR (ρ' := evR_20) dX6_init_24 zf_X6_19 (Or.inr ⟨rfl, _, _, _, rfl, rfl⟩) rfl rfl rfl rfl rfl rfl ?_
  refine zr_aload_n dX6_init_27 rfl rfl ?_
  refine zr_sipush (v := 200) dX6_init_28 (by decide) ?_
  refine zq_newI (n := 22) (a := 22) (n' := 23) (N := 200) (bc' := 3) (bs' := 1448) dX6_init_31 (by decide) (by decide) rfl rfl rfl (Nat.le_of_ble_eq_true rfl) (Nat.le_of_ble_eq_true rfl) (Nat.le_of_ble_eq_true rfl) ?_
  refine zq_putR (ρ' := evR_21) dX6_init_33 zf_X6_22 (Or.inr ⟨rfl, _, _, _, rfl, rfl⟩) rfl rfl rfl rfl rfl rfl ?_
  refine zr_aload_n dX6_init_36 rfl rfl ?_
  refine zr_sipush (v := 200) dX6_init_37 (by decide) ?_
  refine zq_newI (n := 23) (a := 23) (n' := 24) (N := 200) (bc' := 2) (bs' := 1248) dX6_init_40 (by decide) (by decide) rfl rfl rfl (Nat.le_of_ble_eq_true rfl) (Nat.le_of_ble_eq_true rfl) (Nat.le_of_ble_eq_true rfl) ?_
  refine zq_putR (ρ' := evR_22) dX6_init_42 zf_X6_25 (Or.inr ⟨rfl, _, _, _, rfl, rfl⟩) rfl rfl rfl rfl rfl rfl ?_
  refine zr_aload_n dX6_init_45 rfl rfl ?_
  refine zr_sipush (v := 1200) dX6_init_46 (by decide) ?_
  refine zq_newI (n := 24) (a := 24) (n' := 25) (N := 1200) (bc' := 1) (bs' := 48) dX6_init_49 (by decide) (by decide) rfl rfl rfl (Nat.le_of_ble_eq_true rfl) (Nat.le_of_ble_eq_true rfl) (Nat.le_of_ble_eq_true rfl) ?_
  refine zq_putR (ρ' := evR_23) dX6_init_51 zf_X6_28 (Or.inr ⟨rfl, _, _, _, rfl, rfl⟩) rfl rfl rfl rfl rfl rfl ?_
  refine zr_aload_n dX6_init_54 rfl rfl ?_
  refine zr_bipush (v := 48) dX6_init_55 (by decide) ?_
  refine zq_newI (n := 25) (a := 25) (n' := 26) (N := 48) (bc' := 0) (bs' := 0) dX6_init_57 (by decide) (by decide) rfl rfl rfl (Nat.le_of_ble_eq_true rfl) (Nat.le_of_ble_eq_true rfl) (Nat.le_of_ble_eq_true rfl) ?_
  refine zq_putR (ρ' := evR_24) dX6_init_59 zf_X6_31 (Or.inr ⟨rfl, _, _, _, rfl, rfl⟩) rfl rfl rfl rfl rfl rfl ?_
  refine zr_aload_n dX6_init_62 rfl rfl ?_
  refine zr_getR (a := 25) dX6_init_63 zf_X6_31 rfl (zq_has rfl rfl) (by decide +kernel) ?_
  refine zr_iconst (v := (-1 : Int32)) dX6_init_66 (by decide) ?_
  refine zr_callS (As := [zo G 25, .int (-1 : Int32)]) (rest := []) (fr' := fJ7_fill_53178) (lo' := lJ7_fill_53178) (bc' := 0) (bs' := 0) (bcr := 0) (bsr := 0) dX6_init_67 zs_X6_34 zst_J7_fill_53178 rfl rfl (Nat.le_of_ble_eq_true rfl) (Nat.le_of_ble_eq_true rfl) (Nat.le_of_ble_eq_true rfl) (Nat.le_of_ble_eq_true rfl) (Nat.le_of_ble_eq_true rfl) ?_
  refine c_fill0 (n := 48) (zq_has rfl rfl) (Nat.le_of_ble_eq_true rfl) ?_
  show ZW G mX6_init fX6_init lX6_init 70 [zo G 19] [] (zcs 26 evR_24) (zev evI_31) L 0 0 Q
  exact zr_return_ dX6_init_70 rfl (q _)
def evR_25 : List (Nat × Nat × Nat) := (0, 4, 19) :: evR_24
def evR_26 : List (Nat × Nat × Nat) := (27, 0, 28) :: evR_25
def evR_27 : List (Nat × Nat × Nat) := (27, 1, 29) :: evR_26
def evR_28 : List (Nat × Nat × Nat) := (27, 2, 30) :: evR_27
def evR_29 : List (Nat × Nat × Nat) := (27, 3, 31) :: evR_28
def evI_32 : List (Nat × Nat × Int32 × Nat) := (27, 4, 0, 0) :: evI_31
def evR_30 : List (Nat × Nat × Nat) := (27, 9, 32) :: evR_29
def evR_31 : List (Nat × Nat × Nat) := (27, 10, 33) :: evR_30
def evR_32 : List (Nat × Nat × Nat) := (27, 11, 34) :: evR_31
def evI_33 : List (Nat × Nat × Int32 × Nat) := (27, 12, 0, 0) :: evI_32
def evI_34 : List (Nat × Nat × Int32 × Nat) := (27, 13, 0, 0) :: evI_33
def evI_35 : List (Nat × Nat × Int32 × Nat) := (32, 0, (-1 : Int32), 48) :: evI_34
set_option maxHeartbeats 16000000 in
theorem kc_9 {G : Gp} {Q : zPost} {L : zFL} (q : ∀ L' : zFL, Q none (zcs 35 evR_32) (zev evI_35) L') : ZC G mX4_init fX4_init lX4_init [zo G 27] (zcs 28 evR_25) (zev evI_31) L 7 1924 Q := by
  refine ZC.of' (vs := [zo G 27]) ?_ rfl (Nat.le_of_ble_eq_true rfl) rfl
  refine zr_aload_n dX4_init_0 rfl rfl ?_
  refine zr_objInit dX4_init_1 zob_X4 zobI zobC (Nat.le_of_ble_eq_true rfl) (Nat.le_of_ble_eq_true rfl) (Nat.le_of_ble_eq_true rfl) ?_
  refine zr_aload_n dX4_init_4 rfl rfl ?_
  refine zr_bipush (v := 48) dX4_init_5 (by decide) ?_
  refine zq_newJ (n := 28) (a := 28) (n' := 29) (N := 48) (bc' := 6) (bs' := 1876) dX4_init_7 (by decide) (by decide) rfl rfl rfl (Nat.le_of_ble_eq_true rfl) (Nat.le_of_ble_eq_true rfl) (Nat.le_of_ble_eq_true rfl) ?_
  refine zq_putR (ρ' := evR_26) dX4_init_9 zf_X4_9 (Or.inr ⟨rfl, _, _, _, rfl, rfl⟩) rfl rfl rfl rfl rfl rfl ?_
  refine zr_aload_n dX4_init_12 rfl rfl ?_
  refine zr_sipush (v := 576) dX4_init_13 (by decide) ?_
  refine zq_newI (n := 29) (a := 29) (n' := 30) (N := 576) (bc' := 5) (bs' := 1300) dX4_init_16 (by decide) (by decide) rfl rfl rfl (Nat.le_of_ble_eq_true rfl) (Nat.le_of_ble_eq_true rfl) (Nat.le_of_ble_eq_true rfl) ?_
  refine zq_putR (ρ' := evR_27) dX4_init_18 zf_X4_15 (Or.inr ⟨rfl, _, _, _, rfl, rfl⟩) rfl rfl rfl rfl rfl rfl ?_
  refine zr_aload_n dX4_init_21 rfl rfl ?_
  refine zr_sipush (v := 576) dX4_init_22 (by decide) ?_
  refine zq_newI (n := 30) (a := 30) (n' := 31) (N := 576) (bc' := 4) (bs' := 724) dX4_init_25 (by decide) (by decide) rfl rfl rfl (Nat.le_of_ble_eq_true rfl) (Nat.le_of_ble_eq_true rfl) (Nat.le_of_ble_eq_true rfl) ?_
  refine zq_putR (ρ' := evR_28) dX4_init_27 zf_X4_19 (Or.inr ⟨rfl, _, _, _, rfl, rfl⟩) rfl rfl rfl rfl rfl rfl ?_
  refine zr_aload_n dX4_init_30 rfl rfl ?_
  refine zr_sipush (v := 576) dX4_init_31 (by decide) ?_
  refine zq_newI (n := 31) (a := 31) (n' := 32) (N := 576) (bc' := 3) (bs' := 148) dX4_init_34 (by decide) (by decide) rfl rfl rfl (Nat.le_of_ble_eq_true rfl) (Nat.le_of_ble_eq_true rfl) (Nat.le_of_ble_eq_true rfl) ?_
  refine zq_putR (ρ' := evR_29) dX4_init_36 zf_X4_22 (Or.inr ⟨rfl, _, _, _, rfl, rfl⟩) rfl rfl rfl rfl rfl rfl ?_
  refine zr_aload_n dX4_init_39 rfl rfl ?_
  refine zr_iconst (v := 0) dX4_init_40 (by decide) ?_
  refine zq_putI (ι' := evI_32) dX4_init_41 zf_X4_25 rfl rfl rfl rfl rfl rfl ?_
  refine zr_aload_n dX4_init_44 rfl rfl ?_
  refine zr_lconst (v := 0) dX4_init_45 (by decide) ?_
  refine zr_putJ dX4_init_46 zf_X4_29 rfl (zq_has rfl rfl) rfl rfl ?_
  refine zr_aload_n dX4_init_49 rfl rfl ?_
  refine zr_lconst (v := 0) dX4_init_50 (by decide) ?_
  refine zr_putJ dX4_init_51 zf_X4_33 rfl (zq_has rfl rfl) rfl rfl ?_
  refine zr_aload_n dX4_init_54 rfl rfl ?_
  refine zr_lconst (v := 0) dX4_init_55 (by decide) ?_
  refine zr_putJ dX4_init_56 zf_X4_36 rfl (zq_has rfl rfl) rfl rfl ?_
  refine zr_aload_n dX4_init_59 rfl rfl ?_
  refine zr_lconst (v := 0) dX4_init_60 (by decide) ?_
  refine zr_putJ dX4_init_61 zf_X4_39 rfl (zq_has rfl rfl) rfl rfl ?_
  refine zr_aload_n dX4_init_64 rfl rfl ?_
  refine zr_bipush (v := 48) dX4_init_65 (by decide) ?_
  refine zq_newI (n := 32) (a := 32) (n' := 33) (N := 48) (bc' := 2) (bs' := 100) dX4_init_67 (by decide) (by decide) rfl rfl rfl (Nat.le_of_ble_eq_true rfl) (Nat.le_of_ble_eq_true rfl) (Nat.le_of_ble_eq_true rfl) ?_
  refine zq_putR (ρ' := evR_30) dX4_init_69 zf_X4_42 (Or.inr ⟨rfl, _, _, _, rfl, rfl⟩) rfl rfl rfl rfl rfl rfl ?_
  refine zr_aload_n dX4_init_72 rfl rfl ?_
  refine zr_bipush (v := 50) dX4_init_73 (by decide) ?_
  refine zq_newI (n := 33) (a := 33) (n' := 34) (N := 50) (bc' := 1) (bs' := 50) dX4_init_75 (by decide) (by decide) rfl rfl rfl (Nat.le_of_ble_eq_true rfl) (Nat.le_of_ble_eq_true rfl) (Nat.le_of_ble_eq_true rfl) ?_
  refine zq_putR (ρ' := evR_31) dX4_init_77 zf_X4_45 (Or.inr ⟨rfl, _, _, _, rfl, rfl⟩) rfl rfl rfl rfl rfl rfl ?_
  refine zr_aload_n dX4_init_80 rfl rfl ?_
  refine zr_bipush (v := 50) dX4_init_81 (by decide) ?_
  refine zq_newI (n := 34) (a := 34) (n' := 35) (N := 50) (bc' := 0) (bs' := 0) dX4_init_83 (by decide) (by decide) rfl rfl rfl (Nat.le_of_ble_eq_true rfl) (Nat.le_of_ble_eq_true rfl) (Nat.le_of_ble_eq_true rfl) ?_
  refine zq_putR (ρ' := evR_32) dX4_init_85 zf_X4_48 (Or.inr ⟨rfl, _, _, _, rfl, rfl⟩) rfl rfl rfl rfl rfl rfl ?_
  refine zr_aload_n dX4_init_88 rfl rfl ?_
  refine zr_iconst (v := 0) dX4_init_89 (by decide) ?_
  refine zq_putI (ι' := evI_33) dX4_init_90 zf_X4_51 rfl rfl rfl rfl rfl rfl ?_
  refine zr_aload_n dX4_init_93 rfl rfl ?_
  refine zr_iconst (v := 0) dX4_init_94 (by decide) ?_
  refine zq_putI (ι' := evI_34) dX4_init_95 zf_X4_54 rfl rfl rfl rfl rfl rfl ?_
  refine zr_aload_n dX4_init_98 rfl rfl ?_
  refine zr_getR (a := 32) dX4_init_99 zf_X4_42 rfl (zq_has rfl rfl) (by decide +kernel) ?_
  refine zr_iconst (v := (-1 : Int32)) dX4_init_102 (by decide) ?_
  refine zr_callS (As := [zo G 32, .int (-1 : Int32)]) (rest := []) (fr' := fJ7_fill_53178) (lo' := lJ7_fill_53178) (bc' := 0) (bs' := 0) (bcr := 0) (bsr := 0) dX4_init_103 zs_X4_57 zst_J7_fill_53178 rfl rfl (Nat.le_of_ble_eq_true rfl) (Nat.le_of_ble_eq_true rfl) (Nat.le_of_ble_eq_true rfl) (Nat.le_of_ble_eq_true rfl) (Nat.le_of_ble_eq_true rfl) ?_
  refine c_fill0 (n := 48) (zq_has rfl rfl) (Nat.le_of_ble_eq_true rfl) ?_
  show ZW G mX4_init fX4_init lX4_init 106 [zo G 27] [] (zcs 35 evR_32) (zev evI_35) (u2 (u2 (u2 (u2 L 27 5 0) 27 6 0) 27 7 0) 27 8 0) 0 0 Q
  exact zr_return_ dX4_init_106 rfl (q _)
def evR_33 : List (Nat × Nat × Nat) := (26, 0, 27) :: evR_32
def evR_34 : List (Nat × Nat × Nat) := (35, 0, 36) :: evR_33
def evR_35 : List (Nat × Nat × Nat) := (35, 1, 37) :: evR_34
def evR_36 : List (Nat × Nat × Nat) := (35, 2, 38) :: evR_35
def evR_37 : List (Nat × Nat × Nat) := (35, 3, 39) :: evR_36
def evI_36 : List (Nat × Nat × Int32 × Nat) := (35, 4, 0, 0) :: evI_35
def evR_38 : List (Nat × Nat × Nat) := (35, 9, 40) :: evR_37
def evR_39 : List (Nat × Nat × Nat) := (35, 10, 41) :: evR_38
def evR_40 : List (Nat × Nat × Nat) := (35, 11, 42) :: evR_39
def evI_37 : List (Nat × Nat × Int32 × Nat) := (35, 12, 0, 0) :: evI_36
def evI_38 : List (Nat × Nat × Int32 × Nat) := (35, 13, 0, 0) :: evI_37
def evI_39 : List (Nat × Nat × Int32 × Nat) := (40, 0, (-1 : Int32), 48) :: evI_38
set_option maxHeartbeats 16000000 in
theorem kc_10 {G : Gp} {Q : zPost} {L : zFL} (q : ∀ L' : zFL, Q none (zcs 43 evR_40) (zev evI_39) L') : ZC G mX4_init fX4_init lX4_init [zo G 35] (zcs 36 evR_33) (zev evI_35) L 7 1924 Q := by
  refine ZC.of' (vs := [zo G 35]) ?_ rfl (Nat.le_of_ble_eq_true rfl) rfl
  refine zr_aload_n dX4_init_0 rfl rfl ?_
  refine zr_objInit dX4_init_1 zob_X4 zobI zobC (Nat.le_of_ble_eq_true rfl) (Nat.le_of_ble_eq_true rfl) (Nat.le_of_ble_eq_true rfl) ?_
  refine zr_aload_n dX4_init_4 rfl rfl ?_
  refine zr_bipush (v := 48) dX4_init_5 (by decide) ?_
  refine zq_newJ (n := 36) (a := 36) (n' := 37) (N := 48) (bc' := 6) (bs' := 1876) dX4_init_7 (by decide) (by decide) rfl rfl rfl (Nat.le_of_ble_eq_true rfl) (Nat.le_of_ble_eq_true rfl) (Nat.le_of_ble_eq_true rfl) ?_
  refine zq_putR (ρ' := evR_34) dX4_init_9 zf_X4_9 (Or.inr ⟨rfl, _, _, _, rfl, rfl⟩) rfl rfl rfl rfl rfl rfl ?_
  refine zr_aload_n dX4_init_12 rfl rfl ?_
  refine zr_sipush (v := 576) dX4_init_13 (by decide) ?_
  refine zq_newI (n := 37) (a := 37) (n' := 38) (N := 576) (bc' := 5) (bs' := 1300) dX4_init_16 (by decide) (by decide) rfl rfl rfl (Nat.le_of_ble_eq_true rfl) (Nat.le_of_ble_eq_true rfl) (Nat.le_of_ble_eq_true rfl) ?_
  refine zq_putR (ρ' := evR_35) dX4_init_18 zf_X4_15 (Or.inr ⟨rfl, _, _, _, rfl, rfl⟩) rfl rfl rfl rfl rfl rfl ?_
  refine zr_aload_n dX4_init_21 rfl rfl ?_
  refine zr_sipush (v := 576) dX4_init_22 (by decide) ?_
  refine zq_newI (n := 38) (a := 38) (n' := 39) (N := 576) (bc' := 4) (bs' := 724) dX4_init_25 (by decide) (by decide) rfl rfl rfl (Nat.le_of_ble_eq_true rfl) (Nat.le_of_ble_eq_true rfl) (Nat.le_of_ble_eq_true rfl) ?_
  refine zq_putR (ρ' := evR_36) dX4_init_27 zf_X4_19 (Or.inr ⟨rfl, _, _, _, rfl, rfl⟩) rfl rfl rfl rfl rfl rfl ?_
  refine zr_aload_n dX4_init_30 rfl rfl ?_
  refine zr_sipush (v := 576) dX4_init_31 (by decide) ?_
  refine zq_newI (n := 39) (a := 39) (n' := 40) (N := 576) (bc' := 3) (bs' := 148) dX4_init_34 (by decide) (by decide) rfl rfl rfl (Nat.le_of_ble_eq_true rfl) (Nat.le_of_ble_eq_true rfl) (Nat.le_of_ble_eq_true rfl) ?_
  refine zq_putR (ρ' := evR_37) dX4_init_36 zf_X4_22 (Or.inr ⟨rfl, _, _, _, rfl, rfl⟩) rfl rfl rfl rfl rfl rfl ?_
  refine zr_aload_n dX4_init_39 rfl rfl ?_
  refine zr_iconst (v := 0) dX4_init_40 (by decide) ?_
  refine zq_putI (ι' := evI_36) dX4_init_41 zf_X4_25 rfl rfl rfl rfl rfl rfl ?_
  refine zr_aload_n dX4_init_44 rfl rfl ?_
  refine zr_lconst (v := 0) dX4_init_45 (by decide) ?_
  refine zr_putJ dX4_init_46 zf_X4_29 rfl (zq_has rfl rfl) rfl rfl ?_
  refine zr_aload_n dX4_init_49 rfl rfl ?_
  refine zr_lconst (v := 0) dX4_init_50 (by decide) ?_
  refine zr_putJ dX4_init_51 zf_X4_33 rfl (zq_has rfl rfl) rfl rfl ?_
  refine zr_aload_n dX4_init_54 rfl rfl ?_
  refine zr_lconst (v := 0) dX4_init_55 (by decide) ?_
  refine zr_putJ dX4_init_56 zf_X4_36 rfl (zq_has rfl rfl) rfl rfl ?_
  refine zr_aload_n dX4_init_59 rfl rfl ?_
  refine zr_lconst (v := 0) dX4_init_60 (by decide) ?_
  refine zr_putJ dX4_init_61 zf_X4_39 rfl (zq_has rfl rfl) rfl rfl ?_
  refine zr_aload_n dX4_init_64 rfl rfl ?_
  refine zr_bipush (v := 48) dX4_init_65 (by decide) ?_
  refine zq_newI (n := 40) (a := 40) (n' := 41) (N := 48) (bc' := 2) (bs' := 100) dX4_init_67 (by decide) (by decide) rfl rfl rfl (Nat.le_of_ble_eq_true rfl) (Nat.le_of_ble_eq_true rfl) (Nat.le_of_ble_eq_true rfl) ?_
  refine zq_putR (ρ' := evR_38) dX4_init_69 zf_X4_42 (Or.inr ⟨rfl, _, _, _, rfl, rfl⟩) rfl rfl rfl rfl rfl rfl ?_
  refine zr_aload_n dX4_init_72 rfl rfl ?_
  refine zr_bipush (v := 50) dX4_init_73 (by decide) ?_
  refine zq_newI (n := 41) (a := 41) (n' := 42) (N := 50) (bc' := 1) (bs' := 50) dX4_init_75 (by decide) (by decide) rfl rfl rfl (Nat.le_of_ble_eq_true rfl) (Nat.le_of_ble_eq_true rfl) (Nat.le_of_ble_eq_true rfl) ?_
  refine zq_putR (ρ' := evR_39) dX4_init_77 zf_X4_45 (Or.inr ⟨rfl, _, _, _, rfl, rfl⟩) rfl rfl rfl rfl rfl rfl ?_
  refine zr_aload_n dX4_init_80 rfl rfl ?_
  refine zr_bipush (v := 50) dX4_init_81 (by decide) ?_
  refine zq_newI (n := 42) (a := 42) (n' := 43) (N := 50) (bc' := 0) (bs' := 0) dX4_init_83 (by decide) (by decide) rfl rfl rfl (Nat.le_of_ble_eq_true rfl) (Nat.le_of_ble_eq_true rfl) (Nat.le_of_ble_eq_true rfl) ?_
  refine zq_putR (ρ' := evR_40) dX4_init_85 zf_X4_48 (Or.inr ⟨rfl, _, _, _, rfl, rfl⟩) rfl rfl rfl rfl rfl rfl ?_
  refine zr_aload_n dX4_init_88 rfl rfl ?_
  refine zr_iconst (v := 0) dX4_init_89 (by decide) ?_
  refine zq_putI (ι' := evI_37) dX4_init_90 zf_X4_51 rfl rfl rfl rfl rfl rfl ?_
  refine zr_aload_n dX4_init_93 rfl rfl ?_
  refine zr_iconst (v := 0) dX4_init_94 (by decide) ?_
  refine zq_putI (ι' := evI_38) dX4_init_95 zf_X4_54 rfl rfl rfl rfl rfl rfl ?_
  refine zr_aload_n dX4_init_98 rfl rfl ?_
  refine zr_getR (a := 40) dX4_init_99 zf_X4_42 rfl (zq_has rfl rfl) (by decide +kernel) ?_
  refine zr_iconst (v := (-1 : Int32)) dX4_init_102 (by decide) ?_
  refine zr_callS (As := [zo G 40, .int (-1 : Int32)]) (rest := []) (fr' := fJ7_fill_53178) (lo' := lJ7_fill_53178) (bc' := 0) (bs' := 0) (bcr := 0) (bsr := 0) dX4_init_103 zs_X4_57 zst_J7_fill_53178 rfl rfl (Nat.le_of_ble_eq_true rfl) (Nat.le_of_ble_eq_true rfl) (Nat.le_of_ble_eq_true rfl) (Nat.le_of_ble_eq_true rfl) (Nat.le_of_ble_eq_true rfl) ?_
  refine c_fill0 (n := 48) (zq_has rfl rfl) (Nat.le_of_ble_eq_true rfl) ?_
  show ZW G mX4_init fX4_init lX4_init 106 [zo G 35] [] (zcs 43 evR_40) (zev evI_39) (u2 (u2 (u2 (u2 L 35 5 0) 35 6 0) 35 7 0) 35 8 0) 0 0 Q
  exact zr_return_ dX4_init_106 rfl (q _)
def evR_41 : List (Nat × Nat × Nat) := (26, 1, 35) :: evR_40
def evR_42 : List (Nat × Nat × Nat) := (0, 5, 26) :: evR_41
def evI_40 : List (Nat × Nat × Int32 × Nat) := (44, 0, 0, 0) :: evI_39
def evR_43 : List (Nat × Nat × Nat) := (44, 1, 45) :: evR_42
def evR_44 : List (Nat × Nat × Nat) := (44, 2, 46) :: evR_43
def evR_45 : List (Nat × Nat × Nat) := (44, 3, 47) :: evR_44
def evR_46 : List (Nat × Nat × Nat) := (44, 4, 48) :: evR_45
def evI_41 : List (Nat × Nat × Int32 × Nat) := (44, 5, 0, 0) :: evI_40
def evR_47 : List (Nat × Nat × Nat) := (44, 6, 49) :: evR_46
def evR_48 : List (Nat × Nat × Nat) := (44, 7, 50) :: evR_47
def evR_49 : List (Nat × Nat × Nat) := (44, 8, 51) :: evR_48
def evI_42 : List (Nat × Nat × Int32 × Nat) := (46, 0, (-1 : Int32), 16) :: evI_41
set_option maxHeartbeats 16000000 in
theorem kc_11 {G : Gp} {Q : zPost} {L : zFL} (q : ∀ L' : zFL, Q none (zcs 52 evR_49) (zev evI_42) L') : ZC G mX3_init fX3_init lX3_init [zo G 44] (zcs 45 evR_42) (zev evI_39) L 7 192 Q := by
  refine ZC.of' (vs := [zo G 44]) ?_ rfl (Nat.le_of_ble_eq_true rfl) rfl
  refine zr_aload_n dX3_init_0 rfl rfl ?_
  refine zr_objInit dX3_init_1 zob_X3 zobI zobC (Nat.le_of_ble_eq_true rfl) (Nat.le_of_ble_eq_true rfl) (Nat.le_of_ble_eq_true rfl) ?_
  refine zr_aload_n dX3_init_4 rfl rfl ?_
  refine zr_iconst (v := 0) dX3_init_5 (by decide) ?_
  refine zq_putI (ι' := evI_40) dX3_init_6 zf_X3_9 rfl rfl rfl rfl rfl rfl ?_
  refine zr_aload_n dX3_init_9 rfl rfl ?_
  refine zr_bipush (v := 16) dX3_init_10 (by decide) ?_
  refine zq_newI (n := 45) (a := 45) (n' := 46) (N := 16) (bc' := 6) (bs' := 176) dX3_init_12 (by decide) (by decide) rfl rfl rfl (Nat.le_of_ble_eq_true rfl) (Nat.le_of_ble_eq_true rfl) (Nat.le_of_ble_eq_true rfl) ?_
  refine zq_putR (ρ' := evR_43) dX3_init_14 zf_X3_15 (Or.inr ⟨rfl, _, _, _, rfl, rfl⟩) rfl rfl rfl rfl rfl rfl ?_
  refine zr_aload_n dX3_init_17 rfl rfl ?_
  refine zr_bipush (v := 16) dX3_init_18 (by decide) ?_
  refine zq_newI (n := 46) (a := 46) (n' := 47) (N := 16) (bc' := 5) (bs' := 160) dX3_init_20 (by decide) (by decide) rfl rfl rfl (Nat.le_of_ble_eq_true rfl) (Nat.le_of_ble_eq_true rfl) (Nat.le_of_ble_eq_true rfl) ?_
  refine zq_putR (ρ' := evR_44) dX3_init_22 zf_X3_19 (Or.inr ⟨rfl, _, _, _, rfl, rfl⟩) rfl rfl rfl rfl rfl rfl ?_
  refine zr_aload_n dX3_init_25 rfl rfl ?_
  refine zr_bipush (v := 8) dX3_init_26 (by decide) ?_
  refine zq_newI (n := 47) (a := 47) (n' := 48) (N := 8) (bc' := 4) (bs' := 152) dX3_init_28 (by decide) (by decide) rfl rfl rfl (Nat.le_of_ble_eq_true rfl) (Nat.le_of_ble_eq_true rfl) (Nat.le_of_ble_eq_true rfl) ?_
  refine zq_putR (ρ' := evR_45) dX3_init_30 zf_X3_22 (Or.inr ⟨rfl, _, _, _, rfl, rfl⟩) rfl rfl rfl rfl rfl rfl ?_
  refine zr_aload_n dX3_init_33 rfl rfl ?_
  refine zr_bipush (v := 8) dX3_init_34 (by decide) ?_
  refine zq_newI (n := 48) (a := 48) (n' := 49) (N := 8) (bc' := 3) (bs' := 144) dX3_init_36 (by decide) (by decide) rfl rfl rfl (Nat.le_of_ble_eq_true rfl) (Nat.le_of_ble_eq_true rfl) (Nat.le_of_ble_eq_true rfl) ?_
  refine zq_putR (ρ' := evR_46) dX3_init_38 zf_X3_25 (Or.inr ⟨rfl, _, _, _, rfl, rfl⟩) rfl rfl rfl rfl rfl rfl ?_
  refine zr_aload_n dX3_init_41 rfl rfl ?_
  refine zr_iconst (v := 0) dX3_init_42 (by decide) ?_
  refine zq_putI (ι' := evI_41) dX3_init_43 zf_X3_28 rfl rfl rfl rfl rfl rfl ?_
  refine zr_aload_n dX3_init_46 rfl rfl ?_
  refine zr_bipush (v := 8) dX3_init_47 (by decide) ?_
  refine zq_newI (n := 49) (a := 49) (n' := 50) (N := 8) (bc' := 2) (bs' := 136) dX3_init_49 (by decide) (by decide) rfl rfl rfl (Nat.le_of_ble_eq_true rfl) (Nat.le_of_ble_eq_true rfl) (Nat.le_of_ble_eq_true rfl) ?_
  refine zq_putR (ρ' := evR_47) dX3_init_51 zf_X3_31 (Or.inr ⟨rfl, _, _, _, rfl, rfl⟩) rfl rfl rfl rfl rfl rfl ?_
  refine zr_aload_n dX3_init_54 rfl rfl ?_
  refine zr_bipush (v := 8) dX3_init_55 (by decide) ?_
  refine zq_newJ (n := 50) (a := 50) (n' := 51) (N := 8) (bc' := 1) (bs' := 128) dX3_init_57 (by decide) (by decide) rfl rfl rfl (Nat.le_of_ble_eq_true rfl) (Nat.le_of_ble_eq_true rfl) (Nat.le_of_ble_eq_true rfl) ?_
  refine zq_putR (ρ' := evR_48) dX3_init_59 zf_X3_34 (Or.inr ⟨rfl, _, _, _, rfl, rfl⟩) rfl rfl rfl rfl rfl rfl ?_
  refine zr_aload_n dX3_init_62 rfl rfl ?_
  refine zr_sipush (v := 128) dX3_init_63 (by decide) ?_
  refine zq_newI (n := 51) (a := 51) (n' := 52) (N := 128) (bc' := 0) (bs' := 0) dX3_init_66 (by decide) (by decide) rfl rfl rfl (Nat.le_of_ble_eq_true rfl) (Nat.le_of_ble_eq_true rfl) (Nat.le_of_ble_eq_true rfl) ?_
  refine zq_putR (ρ' := evR_49) dX3_init_68 zf_X3_38 (Or.inr ⟨rfl, _, _, _, rfl, rfl⟩) rfl rfl rfl rfl rfl rfl ?_
  refine zr_aload_n dX3_init_71 rfl rfl ?_
  refine zr_getR (a := 46) dX3_init_72 zf_X3_19 rfl (zq_has rfl rfl) (by decide +kernel) ?_
  refine zr_iconst (v := (-1 : Int32)) dX3_init_75 (by decide) ?_
  refine zr_callS (As := [zo G 46, .int (-1 : Int32)]) (rest := []) (fr' := fJ7_fill_53178) (lo' := lJ7_fill_53178) (bc' := 0) (bs' := 0) (bcr := 0) (bsr := 0) dX3_init_76 zs_X3_41 zst_J7_fill_53178 rfl rfl (Nat.le_of_ble_eq_true rfl) (Nat.le_of_ble_eq_true rfl) (Nat.le_of_ble_eq_true rfl) (Nat.le_of_ble_eq_true rfl) (Nat.le_of_ble_eq_true rfl) ?_
  refine c_fill0 (n := 16) (zq_has rfl rfl) (Nat.le_of_ble_eq_true rfl) ?_
  show ZW G mX3_init fX3_init lX3_init 79 [zo G 44] [] (zcs 52 evR_49) (zev evI_42) L 0 0 Q
  exact zr_return_ dX3_init_79 rfl (q _)
def evR_50 : List (Nat × Nat × Nat) := (43, 0, 44) :: evR_49
def evI_43 : List (Nat × Nat × Int32 × Nat) := (52, 0, 0, 0) :: evI_42
def evR_51 : List (Nat × Nat × Nat) := (52, 1, 53) :: evR_50
def evR_52 : List (Nat × Nat × Nat) := (52, 2, 54) :: evR_51
def evR_53 : List (Nat × Nat × Nat) := (52, 3, 55) :: evR_52
def evR_54 : List (Nat × Nat × Nat) := (52, 4, 56) :: evR_53
def evI_44 : List (Nat × Nat × Int32 × Nat) := (52, 5, 0, 0) :: evI_43
def evR_55 : List (Nat × Nat × Nat) := (52, 6, 57) :: evR_54
def evR_56 : List (Nat × Nat × Nat) := (52, 7, 58) :: evR_55
def evR_57 : List (Nat × Nat × Nat) := (52, 8, 59) :: evR_56
def evI_45 : List (Nat × Nat × Int32 × Nat) := (54, 0, (-1 : Int32), 16) :: evI_44
set_option maxHeartbeats 16000000 in
theorem kc_12 {G : Gp} {Q : zPost} {L : zFL} (q : ∀ L' : zFL, Q none (zcs 60 evR_57) (zev evI_45) L') : ZC G mX3_init fX3_init lX3_init [zo G 52] (zcs 53 evR_50) (zev evI_42) L 7 192 Q := by
  refine ZC.of' (vs := [zo G 52]) ?_ rfl (Nat.le_of_ble_eq_true rfl) rfl
  refine zr_aload_n dX3_init_0 rfl rfl ?_
  refine zr_objInit dX3_init_1 zob_X3 zobI zobC (Nat.le_of_ble_eq_true rfl) (Nat.le_of_ble_eq_true rfl) (Nat.le_of_ble_eq_true rfl) ?_
  refine zr_aload_n dX3_init_4 rfl rfl ?_
  refine zr_iconst (v := 0) dX3_init_5 (by decide) ?_
  refine zq_putI (ι' := evI_43) dX3_init_6 zf_X3_9 rfl rfl rfl rfl rfl rfl ?_
  refine zr_aload_n dX3_init_9 rfl rfl ?_
  refine zr_bipush (v := 16) dX3_init_10 (by decide) ?_
  refine zq_newI (n := 53) (a := 53) (n' := 54) (N := 16) (bc' := 6) (bs' := 176) dX3_init_12 (by decide) (by decide) rfl rfl rfl (Nat.le_of_ble_eq_true rfl) (Nat.le_of_ble_eq_true rfl) (Nat.le_of_ble_eq_true rfl) ?_
  refine zq_putR (ρ' := evR_51) dX3_init_14 zf_X3_15 (Or.inr ⟨rfl, _, _, _, rfl, rfl⟩) rfl rfl rfl rfl rfl rfl ?_
  refine zr_aload_n dX3_init_17 rfl rfl ?_
  refine zr_bipush (v := 16) dX3_init_18 (by decide) ?_
  refine zq_newI (n := 54) (a := 54) (n' := 55) (N := 16) (bc' := 5) (bs' := 160) dX3_init_20 (by decide) (by decide) rfl rfl rfl (Nat.le_of_ble_eq_true rfl) (Nat.le_of_ble_eq_true rfl) (Nat.le_of_ble_eq_true rfl) ?_
  refine zq_putR (ρ' := evR_52) dX3_init_22 zf_X3_19 (Or.inr ⟨rfl, _, _, _, rfl, rfl⟩) rfl rfl rfl rfl rfl rfl ?_
  refine zr_aload_n dX3_init_25 rfl rfl ?_
  refine zr_bipush (v := 8) dX3_init_26 (by decide) ?_
  refine zq_newI (n := 55) (a := 55) (n' := 56) (N := 8) (bc' := 4) (bs' := 152) dX3_init_28 (by decide) (by decide) rfl rfl rfl (Nat.le_of_ble_eq_true rfl) (Nat.le_of_ble_eq_true rfl) (Nat.le_of_ble_eq_true rfl) ?_
  refine zq_putR (ρ' := evR_53) dX3_init_30 zf_X3_22 (Or.inr ⟨rfl, _, _, _, rfl, rfl⟩) rfl rfl rfl rfl rfl rfl ?_
  refine zr_aload_n dX3_init_33 rfl rfl ?_
  refine zr_bipush (v := 8) dX3_init_34 (by decide) ?_
  refine zq_newI (n := 56) (a := 56) (n' := 57) (N := 8) (bc' := 3) (bs' := 144) dX3_init_36 (by decide) (by decide) rfl rfl rfl (Nat.le_of_ble_eq_true rfl) (Nat.le_of_ble_eq_true rfl) (Nat.le_of_ble_eq_true rfl) ?_
  refine zq_putR (ρ' := evR_54) dX3_init_38 zf_X3_25 (Or.inr ⟨rfl, _, _, _, rfl, rfl⟩) rfl rfl rfl rfl rfl rfl ?_
  refine zr_aload_n dX3_init_41 rfl rfl ?_
  refine zr_iconst (v := 0) dX3_init_42 (by decide) ?_
  refine zq_putI (ι' := evI_44) dX3_init_43 zf_X3_28 rfl rfl rfl rfl rfl rfl ?_
  refine zr_aload_n dX3_init_46 rfl rfl ?_
  refine zr_bipush (v := 8) dX3_init_47 (by decide) ?_
  refine zq_newI (n := 57) (a := 57) (n' := 58) (N := 8) (bc' := 2) (bs' := 136) dX3_init_49 (by decide) (by decide) rfl rfl rfl (Nat.le_of_ble_eq_true rfl) (Nat.le_of_ble_eq_true rfl) (Nat.le_of_ble_eq_true rfl) ?_
  refine zq_putR (ρ' := evR_55) dX3_init_51 zf_X3_31 (Or.inr ⟨rfl, _, _, _, rfl, rfl⟩) rfl rfl rfl rfl rfl rfl ?_
  refine zr_aload_n dX3_init_54 rfl rfl ?_
  refine zr_bipush (v := 8) dX3_init_55 (by decide) ?_
  refine zq_newJ (n := 58) (a := 58) (n' := 59) (N := 8) (bc' := 1) (bs' := 128) dX3_init_57 (by decide) (by decide) rfl rfl rfl (Nat.le_of_ble_eq_true rfl) (Nat.le_of_ble_eq_true rfl) (Nat.le_of_ble_eq_true rfl) ?_
  refine zq_putR (ρ' := evR_56) dX3_init_59 zf_X3_34 (Or.inr ⟨rfl, _, _, _, rfl, rfl⟩) rfl rfl rfl rfl rfl rfl ?_
  refine zr_aload_n dX3_init_62 rfl rfl ?_
  refine zr_sipush (v := 128) dX3_init_63 (by decide) ?_
  refine zq_newI (n := 59) (a := 59) (n' := 60) (N := 128) (bc' := 0) (bs' := 0) dX3_init_66 (by decide) (by decide) rfl rfl rfl (Nat.le_of_ble_eq_true rfl) (Nat.le_of_ble_eq_true rfl) (Nat.le_of_ble_eq_true rfl) ?_
  refine zq_putR (ρ' := evR_57) dX3_init_68 zf_X3_38 (Or.inr ⟨rfl, _, _, _, rfl, rfl⟩) rfl rfl rfl rfl rfl rfl ?_
  refine zr_aload_n dX3_init_71 rfl rfl ?_
  refine zr_getR (a := 54) dX3_init_72 zf_X3_19 rfl (zq_has rfl rfl) (by decide +kernel) ?_
  refine zr_iconst (v := (-1 : Int32)) dX3_init_75 (by decide) ?_
  refine zr_callS (As := [zo G 54, .int (-1 : Int32)]) (rest := []) (fr' := fJ7_fill_53178) (lo' := lJ7_fill_53178) (bc' := 0) (bs' := 0) (bcr := 0) (bsr := 0) dX3_init_76 zs_X3_41 zst_J7_fill_53178 rfl rfl (Nat.le_of_ble_eq_true rfl) (Nat.le_of_ble_eq_true rfl) (Nat.le_of_ble_eq_true rfl) (Nat.le_of_ble_eq_true rfl) (Nat.le_of_ble_eq_true rfl) ?_
  refine c_fill0 (n := 16) (zq_has rfl rfl) (Nat.le_of_ble_eq_true rfl) ?_
  show ZW G mX3_init fX3_init lX3_init 79 [zo G 52] [] (zcs 60 evR_57) (zev evI_45) L 0 0 Q
  exact zr_return_ dX3_init_79 rfl (q _)
def evR_58 : List (Nat × Nat × Nat) := (43, 1, 52) :: evR_57
def evR_59 : List (Nat × Nat × Nat) := (0, 6, 43) :: evR_58
def evI_46 : List (Nat × Nat × Int32 × Nat) := (60, 0, 0, 0) :: evI_45
def evR_60 : List (Nat × Nat × Nat) := (60, 1, 61) :: evR_59
def evR_61 : List (Nat × Nat × Nat) := (60, 2, 62) :: evR_60
def evR_62 : List (Nat × Nat × Nat) := (60, 3, 63) :: evR_61
def evR_63 : List (Nat × Nat × Nat) := (60, 4, 139) :: evR_62
def evR_64 : List (Nat × Nat × Nat) := (60, 5, 64) :: evR_63
def evR_65 : List (Nat × Nat × Nat) := (60, 6, 65) :: evR_64
def evR_66 : List (Nat × Nat × Nat) := (60, 7, 66) :: evR_65
set_option maxHeartbeats 16000000 in
theorem kc_13 {G : Gp} {Q : zPost} {L : zFL} (q : ∀ L' : zFL, Q none (zcs 68 evR_66) (zev evI_46) L') : ZC G mX7_init fX7_init lX7_init [zo G 60] (zcs 61 evR_59) (zev evI_45) L 7 82 Q := by
  refine ZC.of' (vs := [zo G 60]) ?_ rfl (Nat.le_of_ble_eq_true rfl) rfl
  refine zr_aload_n dX7_init_0 rfl rfl ?_
  refine zr_objInit dX7_init_1 zob_X7 zobI zobC (Nat.le_of_ble_eq_true rfl) (Nat.le_of_ble_eq_true rfl) (Nat.le_of_ble_eq_true rfl) ?_
  refine zr_aload_n dX7_init_4 rfl rfl ?_
  refine zr_iconst (v := 0) dX7_init_5 (by decide) ?_
  refine zq_putI (ι' := evI_46) dX7_init_6 zf_X7_9 rfl rfl rfl rfl rfl rfl ?_
  refine zr_aload_n dX7_init_9 rfl rfl ?_
  refine zr_bipush (v := 16) dX7_init_10 (by decide) ?_
  refine zq_newI (n := 61) (a := 61) (n' := 62) (N := 16) (bc' := 6) (bs' := 66) dX7_init_12 (by decide) (by decide) rfl rfl rfl (Nat.le_of_ble_eq_true rfl) (Nat.le_of_ble_eq_true rfl) (Nat.le_of_ble_eq_true rfl) ?_
  refine zq_putR (ρ' := evR_60) dX7_init_14 zf_X7_15 (Or.inr ⟨rfl, _, _, _, rfl, rfl⟩) rfl rfl rfl rfl rfl rfl ?_
  refine zr_aload_n dX7_init_17 rfl rfl ?_
  refine zr_bipush (v := 16) dX7_init_18 (by decide) ?_
  refine zq_newI (n := 62) (a := 62) (n' := 63) (N := 16) (bc' := 5) (bs' := 50) dX7_init_20 (by decide) (by decide) rfl rfl rfl (Nat.le_of_ble_eq_true rfl) (Nat.le_of_ble_eq_true rfl) (Nat.le_of_ble_eq_true rfl) ?_
  refine zq_putR (ρ' := evR_61) dX7_init_22 zf_X7_19 (Or.inr ⟨rfl, _, _, _, rfl, rfl⟩) rfl rfl rfl rfl rfl rfl ?_
  refine zr_aload_n dX7_init_25 rfl rfl ?_
  refine zr_bipush (v := 16) dX7_init_26 (by decide) ?_
  refine zq_newI (n := 63) (a := 63) (n' := 64) (N := 16) (bc' := 4) (bs' := 34) dX7_init_28 (by decide) (by decide) rfl rfl rfl (Nat.le_of_ble_eq_true rfl) (Nat.le_of_ble_eq_true rfl) (Nat.le_of_ble_eq_true rfl) ?_
  refine zq_putR (ρ' := evR_62) dX7_init_30 zf_X7_22 (Or.inr ⟨rfl, _, _, _, rfl, rfl⟩) rfl rfl rfl rfl rfl rfl ?_
  refine zr_aload_n dX7_init_33 rfl rfl ?_
  refine zr_bipush (v := 16) dX7_init_34 (by decide) ?_
  refine zq_newI (n := 64) (a := 139) (n' := 65) (N := 16) (bc' := 3) (bs' := 18) dX7_init_36 (by decide) (by decide) rfl rfl rfl (Nat.le_of_ble_eq_true rfl) (Nat.le_of_ble_eq_true rfl) (Nat.le_of_ble_eq_true rfl) ?_
  refine zq_putR (ρ' := evR_63) dX7_init_38 zf_X7_25 (Or.inr ⟨rfl, _, _, _, rfl, rfl⟩) rfl rfl rfl rfl rfl rfl ?_
  refine zr_aload_n dX7_init_41 rfl rfl ?_
  refine zr_bipush (v := 16) dX7_init_42 (by decide) ?_
  refine zq_newI (n := 65) (a := 64) (n' := 66) (N := 16) (bc' := 2) (bs' := 2) dX7_init_44 (by decide) (by decide) rfl rfl rfl (Nat.le_of_ble_eq_true rfl) (Nat.le_of_ble_eq_true rfl) (Nat.le_of_ble_eq_true rfl) ?_
  refine zq_putR (ρ' := evR_64) dX7_init_46 zf_X7_28 (Or.inr ⟨rfl, _, _, _, rfl, rfl⟩) rfl rfl rfl rfl rfl rfl ?_
  refine zr_aload_n dX7_init_49 rfl rfl ?_
  refine zr_iconst (v := 1) dX7_init_50 (by decide) ?_
  refine zq_newJ (n := 66) (a := 65) (n' := 67) (N := 1) (bc' := 1) (bs' := 1) dX7_init_51 (by decide) (by decide) rfl rfl rfl (Nat.le_of_ble_eq_true rfl) (Nat.le_of_ble_eq_true rfl) (Nat.le_of_ble_eq_true rfl) ?_
  refine zq_putR (ρ' := evR_65) dX7_init_53 zf_X7_31 (Or.inl rfl) rfl rfl rfl rfl rfl rfl ?_
  refine zr_aload_n dX7_init_56 rfl rfl ?_
  refine zr_iconst (v := 1) dX7_init_57 (by decide) ?_
  refine zq_newB (n := 67) (a := 66) (n' := 68) (N := 1) (bc' := 0) (bs' := 0) dX7_init_58 (by decide) (by decide) rfl rfl rfl (Nat.le_of_ble_eq_true rfl) (Nat.le_of_ble_eq_true rfl) (Nat.le_of_ble_eq_true rfl) ?_
  refine zq_putR (ρ' := evR_66) dX7_init_60 zf_X7_35 (Or.inl rfl) rfl rfl rfl rfl rfl rfl ?_
  exact zr_return_ dX7_init_63 rfl (q _)
def evR_67 : List (Nat × Nat × Nat) := (0, 7, 60) :: evR_66
def evR_68 : List (Nat × Nat × Nat) := (67, 0, 68) :: evR_67
def evR_69 : List (Nat × Nat × Nat) := (67, 1, 69) :: evR_68
def evR_70 : List (Nat × Nat × Nat) := (67, 2, 70) :: evR_69
def evR_71 : List (Nat × Nat × Nat) := (67, 3, 71) :: evR_70
def evR_72 : List (Nat × Nat × Nat) := (67, 4, 72) :: evR_71
def evR_73 : List (Nat × Nat × Nat) := (67, 5, 73) :: evR_72
def evI_47 : List (Nat × Nat × Int32 × Nat) := (68, 0, (-1 : Int32), 200) :: evI_46
set_option maxHeartbeats 16000000 in
theorem kc_14 {G : Gp} {Q : zPost} {L : zFL} (q : ∀ L' : zFL, Q none (zcs 75 evR_73) (zev evI_47) L') : ZC G mX8_init fX8_init lX8_init [zo G 67] (zcs 69 evR_67) (zev evI_46) L 6 1016 Q := by
  refine ZC.of' (vs := [zo G 67]) ?_ rfl (Nat.le_of_ble_eq_true rfl) rfl
  refine zr_aload_n dX8_init_0 rfl rfl ?_
  refine zr_objInit dX8_init_1 zob_X8 zobI zobC (Nat.le_of_ble_eq_true rfl) (Nat.le_of_ble_eq_true rfl) (Nat.le_of_ble_eq_true rfl) ?_
  refine zr_aload_n dX8_init_4 rfl rfl ?_
  refine zr_sipush (v := 200) dX8_init_5 (by decide) ?_
  refine zq_newI (n := 69) (a := 68) (n' := 70) (N := 200) (bc' := 5) (bs' := 816) dX8_init_8 (by decide) (by decide) rfl rfl rfl (Nat.le_of_ble_eq_true rfl) (Nat.le_of_ble_eq_true rfl) (Nat.le_of_ble_eq_true rfl) ?_
  refine zq_putR (ρ' := evR_68) dX8_init_10 zf_X8_11 (Or.inr ⟨rfl, _, _, _, rfl, rfl⟩) rfl rfl rfl rfl rfl rfl ?_
  refine zr_aload_n dX8_init_13 rfl rfl ?_
  refine zr_bipush (v := 16) dX8_init_14 (by decide) ?_
  refine zq_newI (n := 70) (a := 69) (n' := 71) (N := 16) (bc' := 4) (bs' := 800) dX8_init_16 (by decide) (by decide) rfl rfl rfl (Nat.le_of_ble_eq_true rfl) (Nat.le_of_ble_eq_true rfl) (Nat.le_of_ble_eq_true rfl) ?_
  refine zq_putR (ρ' := evR_69) dX8_init_18 zf_X8_15 (Or.inr ⟨rfl, _, _, _, rfl, rfl⟩) rfl rfl rfl rfl rfl rfl ?_
  refine zr_aload_n dX8_init_21 rfl rfl ?_
  refine zr_sipush (v := 384) dX8_init_22 (by decide) ?_
  refine zq_newI (n := 71) (a := 70) (n' := 72) (N := 384) (bc' := 3) (bs' := 416) dX8_init_25 (by decide) (by decide) rfl rfl rfl (Nat.le_of_ble_eq_true rfl) (Nat.le_of_ble_eq_true rfl) (Nat.le_of_ble_eq_true rfl) ?_
  refine zq_putR (ρ' := evR_70) dX8_init_27 zf_X8_18 (Or.inr ⟨rfl, _, _, _, rfl, rfl⟩) rfl rfl rfl rfl rfl rfl ?_
  refine zr_aload_n dX8_init_30 rfl rfl ?_
  refine zr_sipush (v := 384) dX8_init_31 (by decide) ?_
  refine zq_newI (n := 72) (a := 71) (n' := 73) (N := 384) (bc' := 2) (bs' := 32) dX8_init_34 (by decide) (by decide) rfl rfl rfl (Nat.le_of_ble_eq_true rfl) (Nat.le_of_ble_eq_true rfl) (Nat.le_of_ble_eq_true rfl) ?_
  refine zq_putR (ρ' := evR_71) dX8_init_36 zf_X8_21 (Or.inr ⟨rfl, _, _, _, rfl, rfl⟩) rfl rfl rfl rfl rfl rfl ?_
  refine zr_aload_n dX8_init_39 rfl rfl ?_
  refine zr_bipush (v := 16) dX8_init_40 (by decide) ?_
  refine zq_newI (n := 73) (a := 72) (n' := 74) (N := 16) (bc' := 1) (bs' := 16) dX8_init_42 (by decide) (by decide) rfl rfl rfl (Nat.le_of_ble_eq_true rfl) (Nat.le_of_ble_eq_true rfl) (Nat.le_of_ble_eq_true rfl) ?_
  refine zq_putR (ρ' := evR_72) dX8_init_44 zf_X8_24 (Or.inr ⟨rfl, _, _, _, rfl, rfl⟩) rfl rfl rfl rfl rfl rfl ?_
  refine zr_aload_n dX8_init_47 rfl rfl ?_
  refine zr_bipush (v := 16) dX8_init_48 (by decide) ?_
  refine zq_newZ (n := 74) (a := 73) (n' := 75) (N := 16) (bc' := 0) (bs' := 0) dX8_init_50 (by decide) (by decide) rfl rfl rfl (Nat.le_of_ble_eq_true rfl) (Nat.le_of_ble_eq_true rfl) (Nat.le_of_ble_eq_true rfl) ?_
  refine zq_putR (ρ' := evR_73) dX8_init_52 zf_X8_27 (Or.inr ⟨rfl, _, _, _, rfl, rfl⟩) rfl rfl rfl rfl rfl rfl ?_
  refine zr_aload_n dX8_init_55 rfl rfl ?_
  refine zr_getR (a := 68) dX8_init_56 zf_X8_11 rfl (zq_has rfl rfl) (by decide +kernel) ?_
  refine zr_iconst (v := (-1 : Int32)) dX8_init_59 (by decide) ?_
  refine zr_callS (As := [zo G 68, .int (-1 : Int32)]) (rest := []) (fr' := fJ7_fill_53178) (lo' := lJ7_fill_53178) (bc' := 0) (bs' := 0) (bcr := 0) (bsr := 0) dX8_init_60 zs_X8_31 zst_J7_fill_53178 rfl rfl (Nat.le_of_ble_eq_true rfl) (Nat.le_of_ble_eq_true rfl) (Nat.le_of_ble_eq_true rfl) (Nat.le_of_ble_eq_true rfl) (Nat.le_of_ble_eq_true rfl) ?_
  refine c_fill0 (n := 200) (zq_has rfl rfl) (Nat.le_of_ble_eq_true rfl) ?_
  show ZW G mX8_init fX8_init lX8_init 63 [zo G 67] [] (zcs 75 evR_73) (zev evI_47) L 0 0 Q
  exact zr_return_ dX8_init_63 rfl (q _)
def evR_74 : List (Nat × Nat × Nat) := (0, 8, 67) :: evR_73
def evI_48 : List (Nat × Nat × Int32 × Nat) := (74, 0, 0, 0) :: evI_47
def evR_75 : List (Nat × Nat × Nat) := (74, 1, 75) :: evR_74
def evR_76 : List (Nat × Nat × Nat) := (74, 2, 76) :: evR_75
def evI_49 : List (Nat × Nat × Int32 × Nat) := (74, 3, (-1 : Int32), 0) :: evI_48
def evI_50 : List (Nat × Nat × Int32 × Nat) := (74, 4, (-1 : Int32), 0) :: evI_49
def evI_51 : List (Nat × Nat × Int32 × Nat) := (74, 5, 0, 0) :: evI_50
set_option maxHeartbeats 16000000 in
theorem kc_15 {G : Gp} {Q : zPost} {L : zFL} (q : ∀ L' : zFL, Q none (zcs 78 evR_76) (zev evI_51) L') : ZC G mX0_init fX0_init lX0_init [zo G 74] (zcs 76 evR_74) (zev evI_47) L 2 32 Q := by
  refine ZC.of' (vs := [zo G 74]) ?_ rfl (Nat.le_of_ble_eq_true rfl) rfl
  refine zr_aload_n dX0_init_0 rfl rfl ?_
  refine zr_objInit dX0_init_1 zob_X0 zobI zobC (Nat.le_of_ble_eq_true rfl) (Nat.le_of_ble_eq_true rfl) (Nat.le_of_ble_eq_true rfl) ?_
  refine zr_aload_n dX0_init_4 rfl rfl ?_
  refine zr_iconst (v := 0) dX0_init_5 (by decide) ?_
  refine zq_putI (ι' := evI_48) dX0_init_6 zf_X0_9 rfl rfl rfl rfl rfl rfl ?_
  refine zr_aload_n dX0_init_9 rfl rfl ?_
  refine zr_bipush (v := 16) dX0_init_10 (by decide) ?_
  refine zq_newI (n := 76) (a := 75) (n' := 77) (N := 16) (bc' := 1) (bs' := 16) dX0_init_12 (by decide) (by decide) rfl rfl rfl (Nat.le_of_ble_eq_true rfl) (Nat.le_of_ble_eq_true rfl) (Nat.le_of_ble_eq_true rfl) ?_
  refine zq_putR (ρ' := evR_75) dX0_init_14 zf_X0_15 (Or.inr ⟨rfl, _, _, _, rfl, rfl⟩) rfl rfl rfl rfl rfl rfl ?_
  refine zr_aload_n dX0_init_17 rfl rfl ?_
  refine zr_bipush (v := 16) dX0_init_18 (by decide) ?_
  refine zq_newI (n := 77) (a := 76) (n' := 78) (N := 16) (bc' := 0) (bs' := 0) dX0_init_20 (by decide) (by decide) rfl rfl rfl (Nat.le_of_ble_eq_true rfl) (Nat.le_of_ble_eq_true rfl) (Nat.le_of_ble_eq_true rfl) ?_
  refine zq_putR (ρ' := evR_76) dX0_init_22 zf_X0_19 (Or.inr ⟨rfl, _, _, _, rfl, rfl⟩) rfl rfl rfl rfl rfl rfl ?_
  refine zr_aload_n dX0_init_25 rfl rfl ?_
  refine zr_iconst (v := (-1 : Int32)) dX0_init_26 (by decide) ?_
  refine zq_putI (ι' := evI_49) dX0_init_27 zf_X0_22 rfl rfl rfl rfl rfl rfl ?_
  refine zr_aload_n dX0_init_30 rfl rfl ?_
  refine zr_iconst (v := (-1 : Int32)) dX0_init_31 (by decide) ?_
  refine zq_putI (ι' := evI_50) dX0_init_32 zf_X0_25 rfl rfl rfl rfl rfl rfl ?_
  refine zr_aload_n dX0_init_35 rfl rfl ?_
  refine zr_iconst (v := 0) dX0_init_36 (by decide) ?_
  refine zq_putI (ι' := evI_51) dX0_init_37 zf_X0_28 rfl rfl rfl rfl rfl rfl ?_
  exact zr_return_ dX0_init_40 rfl (q _)
def evR_77 : List (Nat × Nat × Nat) := (0, 9, 74) :: evR_76
def evI_52 : List (Nat × Nat × Int32 × Nat) := (77, 0, 0, 0) :: evI_51
def evR_78 : List (Nat × Nat × Nat) := (77, 1, 78) :: evR_77
def evR_79 : List (Nat × Nat × Nat) := (77, 2, 79) :: evR_78
def evR_80 : List (Nat × Nat × Nat) := (77, 3, 80) :: evR_79
def evR_81 : List (Nat × Nat × Nat) := (77, 4, 81) :: evR_80
set_option maxHeartbeats 16000000 in
theorem kc_16 {G : Gp} {Q : zPost} {L : zFL} (q : ∀ L' : zFL, Q none (zcs 83 evR_81) (zev evI_52) L') : ZC G mX5_init fX5_init lX5_init [zo G 77] (zcs 79 evR_77) (zev evI_51) L 4 240 Q := by
  refine ZC.of' (vs := [zo G 77]) ?_ rfl (Nat.le_of_ble_eq_true rfl) rfl
  refine zr_aload_n dX5_init_0 rfl rfl ?_
  refine zr_objInit dX5_init_1 zob_X5 zobI zobC (Nat.le_of_ble_eq_true rfl) (Nat.le_of_ble_eq_true rfl) (Nat.le_of_ble_eq_true rfl) ?_
  refine zr_aload_n dX5_init_4 rfl rfl ?_
  refine zr_iconst (v := 0) dX5_init_5 (by decide) ?_
  refine zq_putI (ι' := evI_52) dX5_init_6 zf_X5_9 rfl rfl rfl rfl rfl rfl ?_
  refine zr_aload_n dX5_init_9 rfl rfl ?_
  refine zr_bipush (v := 60) dX5_init_10 (by decide) ?_
  refine zq_newI (n := 79) (a := 78) (n' := 80) (N := 60) (bc' := 3) (bs' := 180) dX5_init_12 (by decide) (by decide) rfl rfl rfl (Nat.le_of_ble_eq_true rfl) (Nat.le_of_ble_eq_true rfl) (Nat.le_of_ble_eq_true rfl) ?_
  refine zq_putR (ρ' := evR_78) dX5_init_14 zf_X5_15 (Or.inr ⟨rfl, _, _, _, rfl, rfl⟩) rfl rfl rfl rfl rfl rfl ?_
  refine zr_aload_n dX5_init_17 rfl rfl ?_
  refine zr_bipush (v := 60) dX5_init_18 (by decide) ?_
  refine zq_newI (n := 80) (a := 79) (n' := 81) (N := 60) (bc' := 2) (bs' := 120) dX5_init_20 (by decide) (by decide) rfl rfl rfl (Nat.le_of_ble_eq_true rfl) (Nat.le_of_ble_eq_true rfl) (Nat.le_of_ble_eq_true rfl) ?_
  refine zq_putR (ρ' := evR_79) dX5_init_22 zf_X5_19 (Or.inr ⟨rfl, _, _, _, rfl, rfl⟩) rfl rfl rfl rfl rfl rfl ?_
  refine zr_aload_n dX5_init_25 rfl rfl ?_
  refine zr_bipush (v := 60) dX5_init_26 (by decide) ?_
  refine zq_newI (n := 81) (a := 80) (n' := 82) (N := 60) (bc' := 1) (bs' := 60) dX5_init_28 (by decide) (by decide) rfl rfl rfl (Nat.le_of_ble_eq_true rfl) (Nat.le_of_ble_eq_true rfl) (Nat.le_of_ble_eq_true rfl) ?_
  refine zq_putR (ρ' := evR_80) dX5_init_30 zf_X5_22 (Or.inr ⟨rfl, _, _, _, rfl, rfl⟩) rfl rfl rfl rfl rfl rfl ?_
  refine zr_aload_n dX5_init_33 rfl rfl ?_
  refine zr_bipush (v := 60) dX5_init_34 (by decide) ?_
  refine zq_newI (n := 82) (a := 81) (n' := 83) (N := 60) (bc' := 0) (bs' := 0) dX5_init_36 (by decide) (by decide) rfl rfl rfl (Nat.le_of_ble_eq_true rfl) (Nat.le_of_ble_eq_true rfl) (Nat.le_of_ble_eq_true rfl) ?_
  refine zq_putR (ρ' := evR_81) dX5_init_38 zf_X5_25 (Or.inr ⟨rfl, _, _, _, rfl, rfl⟩) rfl rfl rfl rfl rfl rfl ?_
  exact zr_return_ dX5_init_41 rfl (q _)
def evR_82 : List (Nat × Nat × Nat) := (0, 10, 77) :: evR_81
def evR_83 : List (Nat × Nat × Nat) := (0, 11, 82) :: evR_82
def evI_53 : List (Nat × Nat × Int32 × Nat) := (0, 12, 0, 0) :: evI_52
def evI_54 : List (Nat × Nat × Int32 × Nat) := (83, 0, 3, 0) :: evI_53
def evI_55 : List (Nat × Nat × Int32 × Nat) := (83, 1, 0, 0) :: evI_54
def evI_56 : List (Nat × Nat × Int32 × Nat) := (83, 2, 1, 0) :: evI_55
def evI_57 : List (Nat × Nat × Int32 × Nat) := (83, 3, 2, 0) :: evI_56
def evI_58 : List (Nat × Nat × Int32 × Nat) := (83, 4, 60, 0) :: evI_57
def evI_59 : List (Nat × Nat × Int32 × Nat) := (83, 5, 1, 0) :: evI_58
def evI_60 : List (Nat × Nat × Int32 × Nat) := (83, 6, 10, 0) :: evI_59
def evI_61 : List (Nat × Nat × Int32 × Nat) := (83, 7, 30, 0) :: evI_60
def evI_62 : List (Nat × Nat × Int32 × Nat) := (83, 8, 2, 0) :: evI_61
def evI_63 : List (Nat × Nat × Int32 × Nat) := (83, 9, 0, 0) :: evI_62
def evI_64 : List (Nat × Nat × Int32 × Nat) := (83, 10, 0, 0) :: evI_63
set_option maxHeartbeats 16000000 in
theorem kc_17 {G : Gp} {Q : zPost} {L : zFL} (q : ∀ L' : zFL, Q none (zcs 85 evR_83) (zev evI_64) L') : ZC G mX1_reset fX1_reset lX1_reset [zo G 83] (zcs 85 evR_83) (zev evI_53) L 0 0 Q := by
  refine ZC.of' (vs := [zo G 83]) ?_ rfl (Nat.le_of_ble_eq_true rfl) rfl
  refine zr_aload_n dX1_reset_0 rfl rfl ?_
  refine zr_iconst (v := 3) dX1_reset_1 (by decide) ?_
  refine zq_putI (ι' := evI_54) dX1_reset_2 zf_X1_14 rfl rfl rfl rfl rfl rfl ?_
  refine zr_aload_n dX1_reset_5 rfl rfl ?_
  refine zr_iconst (v := 0) dX1_reset_6 (by decide) ?_
  refine zq_putI (ι' := evI_55) dX1_reset_7 zf_X1_18 rfl rfl rfl rfl rfl rfl ?_
  refine zr_aload_n dX1_reset_10 rfl rfl ?_
  refine zr_iconst (v := 1) dX1_reset_11 (by decide) ?_
  refine zq_putI (ι' := evI_56) dX1_reset_12 zf_X1_22 rfl rfl rfl rfl rfl rfl ?_
  refine zr_aload_n dX1_reset_15 rfl rfl ?_
  refine zr_iconst (v := 2) dX1_reset_16 (by decide) ?_
  refine zq_putI (ι' := evI_57) dX1_reset_17 zf_X1_25 rfl rfl rfl rfl rfl rfl ?_
  refine zr_aload_n dX1_reset_20 rfl rfl ?_
  refine zr_bipush (v := 60) dX1_reset_21 (by decide) ?_
  refine zq_putI (ι' := evI_58) dX1_reset_23 zf_X1_28 rfl rfl rfl rfl rfl rfl ?_
  refine zr_aload_n dX1_reset_26 rfl rfl ?_
  refine zr_iconst (v := 1) dX1_reset_27 (by decide) ?_
  refine zq_putI (ι' := evI_59) dX1_reset_28 zf_X1_31 rfl rfl rfl rfl rfl rfl ?_
  refine zr_aload_n dX1_reset_31 rfl rfl ?_
  refine zr_bipush (v := 10) dX1_reset_32 (by decide) ?_
  refine zq_putI (ι' := evI_60) dX1_reset_34 zf_X1_34 rfl rfl rfl rfl rfl rfl ?_
  refine zr_aload_n dX1_reset_37 rfl rfl ?_
  refine zr_bipush (v := 30) dX1_reset_38 (by decide) ?_
  refine zq_putI (ι' := evI_61) dX1_reset_40 zf_X1_37 rfl rfl rfl rfl rfl rfl ?_
  refine zr_aload_n dX1_reset_43 rfl rfl ?_
  refine zr_iconst (v := 2) dX1_reset_44 (by decide) ?_
  refine zq_putI (ι' := evI_62) dX1_reset_45 zf_X1_40 rfl rfl rfl rfl rfl rfl ?_
  refine zr_aload_n dX1_reset_48 rfl rfl ?_
  refine zr_iconst (v := 0) dX1_reset_49 (by decide) ?_
  refine zq_putI (ι' := evI_63) dX1_reset_50 zf_X1_43 rfl rfl rfl rfl rfl rfl ?_
  refine zr_aload_n dX1_reset_53 rfl rfl ?_
  refine zr_iconst (v := 0) dX1_reset_54 (by decide) ?_
  refine zq_putI (ι' := evI_64) dX1_reset_55 zf_X1_46 rfl rfl rfl rfl rfl rfl ?_
  exact zr_return_ dX1_reset_58 rfl (q _)
set_option maxHeartbeats 16000000 in
theorem kc_18 {G : Gp} {Q : zPost} {L : zFL} (q : ∀ L' : zFL, Q none (zcs 85 evR_83) (zev evI_64) L') : ZC G mX1_init fX1_init lX1_init [zo G 83] (zcs 85 evR_83) (zev evI_53) L 0 0 Q := by
  refine ZC.of' (vs := [zo G 83]) ?_ rfl (Nat.le_of_ble_eq_true rfl) rfl
  refine zr_aload_n dX1_init_0 rfl rfl ?_
  refine zr_objInit dX1_init_1 zob_X1 zobI zobC (Nat.le_of_ble_eq_true rfl) (Nat.le_of_ble_eq_true rfl) (Nat.le_of_ble_eq_true rfl) ?_
  refine zr_aload_n dX1_init_4 rfl rfl ?_
  refine zr_callV (As := []) (rest := []) (fr' := fX1_reset) (lo' := lX1_reset) (bc' := 0) (bs' := 0) (bcr := 0) (bsr := 0) dX1_init_5 zs_X1_9 zi_X1_reset zcl_1 (zq_has rfl rfl) rfl rfl (Nat.le_of_ble_eq_true rfl) (Nat.le_of_ble_eq_true rfl) (Nat.le_of_ble_eq_true rfl) (Nat.le_of_ble_eq_true rfl) (Nat.le_of_ble_eq_true rfl) ?_
  refine kc_17 (fun L1 => ?_)
  show ZW G mX1_init fX1_init lX1_init 8 [zo G 83] [] (zcs 85 evR_83) (zev evI_64) L1 0 0 Q
  exact zr_return_ dX1_init_8 rfl (q _)
def evR_84 : List (Nat × Nat × Nat) := (0, 13, 83) :: evR_83
def evI_65 : List (Nat × Nat × Int32 × Nat) := (0, 14, 0, 0) :: evI_64
def evI_66 : List (Nat × Nat × Int32 × Nat) := (0, 15, (-1 : Int32), 0) :: evI_65
def evI_67 : List (Nat × Nat × Int32 × Nat) := (0, 16, 1, 0) :: evI_66
set_option maxHeartbeats 16000000 in
theorem kc_19 {G : Gp} {Q : zPost} {L : zFL} (q : ∀ L' : zFL, Q none (zcs 85 evR_84) (zev evI_67) L') : ZC G mX11_init fX11_init lX11_init [zo G 0] (zcs 1 evR_0) (zev evI_0) L 84 9688 Q := by
  refine ZC.of' (vs := [zo G 0]) ?_ rfl (Nat.le_of_ble_eq_true rfl) rfl
  refine zr_aload_n dX11_init_0 rfl rfl ?_
  refine zr_objInit dX11_init_1 zob_X11 zobI zobC (Nat.le_of_ble_eq_true rfl) (Nat.le_of_ble_eq_true rfl) (Nat.le_of_ble_eq_true rfl) ?_
  refine zr_aload_n dX11_init_4 rfl rfl ?_
  refine zq_new (n := 1) (a := 1) (n' := 2) (bc' := 83) (bs' := 9686) dX11_init_5 zcl_9 zcn_X11_9 zit_X9 zini_X9 (fun j hj => (show ∀ j : Fin 2, defaultValue (zTy 9 j.1) = zfv 0 (fun _ => 0) (fun _ => 0) (fun _ => none) 9 j.1 by decide +kernel) ⟨j, hj⟩) rfl rfl rfl (Nat.le_of_ble_eq_true rfl) (Nat.le_of_ble_eq_true rfl) ?_
  refine zr_dup dX11_init_8 rfl ?_
  refine zr_callIN (As := []) (rest := [zo G 1, zo G 0]) (fr' := fX9_init) (lo' := lX9_init) (bc' := 1) (bs' := 800) (bcr := 82) (bsr := 8886) dX11_init_9 zsn_X11_11 ⟨rfl, rfl⟩ zim_X9_init rfl rfl (Nat.le_of_ble_eq_true rfl) (Nat.le_of_ble_eq_true rfl) (Nat.le_of_ble_eq_true rfl) (Nat.le_of_ble_eq_true rfl) (Nat.le_of_ble_eq_true rfl) ?_
  refine kc_1 (fun L1 => ?_)
  show ZW G mX11_init fX11_init lX11_init 12 [zo G 0] [zo G 1, zo G 0] (zcs 3 evR_1) (zev evI_1) L1 82 8886 Q
  refine zq_putR (ρ' := evR_2) dX11_init_12 zf_X11_12 (Or.inr ⟨rfl, _, _, _, rfl, rfl⟩) rfl rfl rfl rfl rfl rfl ?_
  refine zr_aload_n dX11_init_15 rfl rfl ?_
  refine zq_new (n := 3) (a := 3) (n' := 4) (bc' := 81) (bs' := 8879) dX11_init_16 zcl_2 zcn_X11_16 zit_X2 zini_X2 (fun j hj => (show ∀ j : Fin 7, defaultValue (zTy 2 j.1) = zfv 0 (fun _ => 0) (fun _ => 0) (fun _ => none) 2 j.1 by decide +kernel) ⟨j, hj⟩) rfl rfl rfl (Nat.le_of_ble_eq_true rfl) (Nat.le_of_ble_eq_true rfl) ?_
  refine zr_dup dX11_init_19 rfl ?_
  refine zr_callIN (As := []) (rest := [zo G 3, zo G 0]) (fr' := fX2_init) (lo' := lX2_init) (bc' := 3) (bs' := 603) (bcr := 78) (bsr := 8276) dX11_init_20 zsn_X11_18 ⟨rfl, rfl⟩ zim_X2_init rfl rfl (Nat.le_of_ble_eq_true rfl) (Nat.le_of_ble_eq_true rfl) (Nat.le_of_ble_eq_true rfl) (Nat.le_of_ble_eq_true rfl) (Nat.le_of_ble_eq_true rfl) ?_
  refine kc_2 (fun L2 => ?_)
  show ZW G mX11_init fX11_init lX11_init 23 [zo G 0] [zo G 3, zo G 0] (zcs 7 evR_5) (zev evI_5) L2 78 8276 Q
  refine zq_putR (ρ' := evR_6) dX11_init_23 zf_X11_19 (Or.inr ⟨rfl, _, _, _, rfl, rfl⟩) rfl rfl rfl rfl rfl rfl ?_
  refine zr_aload_n dX11_init_26 rfl rfl ?_
  refine zr_iconst (v := 2) dX11_init_27 (by decide) ?_
  refine zq_newA (n := 7) (a := 7) (n' := 8) (t := 5) (N := 2) (bc' := 77) (bs' := 8274) dX11_init_28 (by decide) rfl zcn_X11_23 (by decide) (by decide) rfl rfl rfl (Nat.le_of_ble_eq_true rfl) (Nat.le_of_ble_eq_true rfl) (Nat.le_of_ble_eq_true rfl) ?_
  refine zr_dup dX11_init_31 rfl ?_
  refine zr_iconst (v := 0) dX11_init_32 (by decide) ?_
  refine zq_new (n := 8) (a := 8) (n' := 9) (bc' := 76) (bs' := 8263) dX11_init_33 zcl_1 zcn_X11_23 zit_X1 zini_X1 (fun j hj => (show ∀ j : Fin 11, defaultValue (zTy 1 j.1) = zfv 0 (fun _ => 0) (fun _ => 0) (fun _ => none) 1 j.1 by decide +kernel) ⟨j, hj⟩) rfl rfl rfl (Nat.le_of_ble_eq_true rfl) (Nat.le_of_ble_eq_true rfl) ?_
  refine zr_dup dX11_init_36 rfl ?_
  refine zr_callI (As := []) (rest := [zo G 8, .int 0, zo G 7, zo G 7, zo G 0]) (fr' := fX1_init) (lo' := lX1_init) (bc' := 0) (bs' := 0) (bcr := 76) (bsr := 8263) dX11_init_37 zs_X11_25 ⟨rfl, rfl⟩ zim_X1_init rfl rfl (Nat.le_of_ble_eq_true rfl) (Nat.le_of_ble_eq_true rfl) (Nat.le_of_ble_eq_true rfl) (Nat.le_of_ble_eq_true rfl) (Nat.le_of_ble_eq_true rfl) ?_
  refine kc_4 (fun L3 => ?_)
  show ZW G mX11_init fX11_init lX11_init 40 [zo G 0] [zo G 8, .int 0, zo G 7, zo G 7, zo G 0] (zcs 9 evR_6) (zev evI_16) L3 76 8263 Q
  refine zq_aast (t := 5) (k := 0) (ρ' := evR_7) dX11_init_40 rfl rfl (by decide) zcl_1 rfl rfl rfl (zvl (by decide)) (by decide) rfl ?_
  refine zr_dup dX11_init_41 rfl ?_
  refine zr_iconst (v := 1) dX11_init_42 (by decide) ?_
  refine zq_new (n := 9) (a := 9) (n' := 10) (bc' := 75) (bs' := 8252) dX11_init_43 zcl_1 zcn_X11_23 zit_X1 zini_X1 (fun j hj => (show ∀ j : Fin 11, defaultValue (zTy 1 j.1) = zfv 0 (fun _ => 0) (fun _ => 0) (fun _ => none) 1 j.1 by decide +kernel) ⟨j, hj⟩) rfl rfl rfl (Nat.le_of_ble_eq_true rfl) (Nat.le_of_ble_eq_true rfl) ?_
  refine zr_dup dX11_init_46 rfl ?_
  refine zr_callI (As := []) (rest := [zo G 9, .int 1, zo G 7, zo G 7, zo G 0]) (fr' := fX1_init) (lo' := lX1_init) (bc' := 0) (bs' := 0) (bcr := 75) (bsr := 8252) dX11_init_47 zs_X11_25 ⟨rfl, rfl⟩ zim_X1_init rfl rfl (Nat.le_of_ble_eq_true rfl) (Nat.le_of_ble_eq_true rfl) (Nat.le_of_ble_eq_true rfl) (Nat.le_of_ble_eq_true rfl) (Nat.le_of_ble_eq_true rfl) ?_
  refine kc_6 (fun L4 => ?_)
  show ZW G mX11_init fX11_init lX11_init 50 [zo G 0] [zo G 9, .int 1, zo G 7, zo G 7, zo G 0] (zcs 10 evR_7) (zev evI_27) L4 75 8252 Q
  refine zq_aast (t := 5) (k := 1) (ρ' := evR_8) dX11_init_50 rfl rfl (by decide) zcl_1 rfl rfl rfl (zvl (by decide)) (by decide) rfl ?_
  refine zq_putR (ρ' := evR_9) dX11_init_51 zf_X11_26 (Or.inr ⟨rfl, _, _, _, rfl, rfl⟩) rfl rfl rfl rfl rfl rfl ?_
  refine zr_aload_n dX11_init_54 rfl rfl ?_
  refine zq_new (n := 10) (a := 10) (n' := 11) (bc' := 74) (bs' := 8242) dX11_init_55 zcl_10 zcn_X11_30 zit_X10 zini_X10 (fun j hj => (show ∀ j : Fin 10, defaultValue (zTy 10 j.1) = zfv 0 (fun _ => 0) (fun _ => 0) (fun _ => none) 10 j.1 by decide +kernel) ⟨j, hj⟩) rfl rfl rfl (Nat.le_of_ble_eq_true rfl) (Nat.le_of_ble_eq_true rfl) ?_
  refine zr_dup dX11_init_58 rfl ?_
  refine zr_callIN (As := []) (rest := [zo G 10, zo G 0]) (fr' := fX10_init) (lo' := lX10_init) (bc' := 8) (bs' := 288) (bcr := 66) (bsr := 7954) dX11_init_59 zsn_X11_32 ⟨rfl, rfl⟩ zim_X10_init rfl rfl (Nat.le_of_ble_eq_true rfl) (Nat.le_of_ble_eq_true rfl) (Nat.le_of_ble_eq_true rfl) (Nat.le_of_ble_eq_true rfl) (Nat.le_of_ble_eq_true rfl) ?_
  refine kc_7 (fun L5 => ?_)
  show ZW G mX11_init fX11_init lX11_init 62 [zo G 0] [zo G 10, zo G 0] (zcs 19 evR_17) (zev evI_29) L5 66 7954 Q
  refine zq_putR (ρ' := evR_18) dX11_init_62 zf_X11_33 (Or.inr ⟨rfl, _, _, _, rfl, rfl⟩) rfl rfl rfl rfl rfl rfl ?_
  refine zr_aload_n dX11_init_65 rfl rfl ?_
  refine zq_new (n := 19) (a := 19) (n' := 20) (bc' := 65) (bs' := 7947) dX11_init_66 zcl_6 zcn_X11_37 zit_X6 zini_X6 (fun j hj => (show ∀ j : Fin 7, defaultValue (zTy 6 j.1) = zfv 0 (fun _ => 0) (fun _ => 0) (fun _ => none) 6 j.1 by decide +kernel) ⟨j, hj⟩) rfl rfl rfl (Nat.le_of_ble_eq_true rfl) (Nat.le_of_ble_eq_true rfl) ?_
  refine zr_dup dX11_init_69 rfl ?_
  refine zr_callI (As := []) (rest := [zo G 19, zo G 0]) (fr' := fX6_init) (lo' := lX6_init) (bc' := 6) (bs' := 2048) (bcr := 59) (bsr := 5899) dX11_init_70 zs_X11_39 ⟨rfl, rfl⟩ zim_X6_init rfl rfl (Nat.le_of_ble_eq_true rfl) (Nat.le_of_ble_eq_true rfl) (Nat.le_of_ble_eq_true rfl) (Nat.le_of_ble_eq_true rfl) (Nat.le_of_ble_eq_true rfl) ?_
  refine kc_8 (fun L6 => ?_)
  show ZW G mX11_init fX11_init lX11_init 73 [zo G 0] [zo G 19, zo G 0] (zcs 26 evR_24) (zev evI_31) L6 59 5899 Q
  refine zq_putR (ρ' := evR_25) dX11_init_73 zf_X11_40 (Or.inr ⟨rfl, _, _, _, rfl, rfl⟩) rfl rfl rfl rfl rfl rfl ?_
  refine zr_aload_n dX11_init_76 rfl rfl ?_
  refine zr_iconst (v := 2) dX11_init_77 (by decide) ?_
  refine zq_newA (n := 26) (a := 26) (n' := 27) (t := 6) (N := 2) (bc' := 58) (bs' := 5897) dX11_init_78 (by decide) rfl zcn_X11_44 (by decide) (by decide) rfl rfl rfl (Nat.le_of_ble_eq_true rfl) (Nat.le_of_ble_eq_true rfl) (Nat.le_of_ble_eq_true rfl) ?_
  refine zr_dup dX11_init_81 rfl ?_
  refine zr_iconst (v := 0) dX11_init_82 (by decide) ?_
  refine zq_new (n := 27) (a := 27) (n' := 28) (bc' := 57) (bs' := 5883) dX11_init_83 zcl_4 zcn_X11_44 zit_X4 zini_X4 (fun j hj => (show ∀ j : Fin 14, defaultValue (zTy 4 j.1) = zfv 0 (fun _ => 0) (fun _ => 0) (fun _ => none) 4 j.1 by decide +kernel) ⟨j, hj⟩) rfl rfl rfl (Nat.le_of_ble_eq_true rfl) (Nat.le_of_ble_eq_true rfl) ?_
  refine zr_dup dX11_init_86 rfl ?_
  refine zr_callI (As := []) (rest := [zo G 27, .int 0, zo G 26, zo G 26, zo G 0]) (fr' := fX4_init) (lo' := lX4_init) (bc' := 7) (bs' := 1924) (bcr := 50) (bsr := 3959) dX11_init_87 zs_X11_46 ⟨rfl, rfl⟩ zim_X4_init rfl rfl (Nat.le_of_ble_eq_true rfl) (Nat.le_of_ble_eq_true rfl) (Nat.le_of_ble_eq_true rfl) (Nat.le_of_ble_eq_true rfl) (Nat.le_of_ble_eq_true rfl) ?_
  refine kc_9 (fun L7 => ?_)
  show ZW G mX11_init fX11_init lX11_init 90 [zo G 0] [zo G 27, .int 0, zo G 26, zo G 26, zo G 0] (zcs 35 evR_32) (zev evI_35) L7 50 3959 Q
  refine zq_aast (t := 6) (k := 0) (ρ' := evR_33) dX11_init_90 rfl rfl (by decide) zcl_4 rfl rfl rfl (zvl (by decide)) (by decide) rfl ?_
  refine zr_dup dX11_init_91 rfl ?_
  refine zr_iconst (v := 1) dX11_init_92 (by decide) ?_
  refine zq_new (n := 35) (a := 35) (n' := 36) (bc' := 49) (bs' := 3945) dX11_init_93 zcl_4 zcn_X11_44 zit_X4 zini_X4 (fun j hj => (show ∀ j : Fin 14, defaultValue (zTy 4 j.1) = zfv 0 (fun _ => 0) (fun _ => 0) (fun _ => none) 4 j.1 by decide +kernel) ⟨j, hj⟩) rfl rfl rfl (Nat.le_of_ble_eq_true rfl) (Nat.le_of_ble_eq_true rfl) ?_
  refine zr_dup dX11_init_96 rfl ?_
  refine zr_callI (As := []) (rest := [zo G 35, .int 1, zo G 26, zo G 26, zo G 0]) (fr' := fX4_init) (lo' := lX4_init) (bc' := 7) (bs' := 1924) (bcr := 42) (bsr := 2021) dX11_init_97 zs_X11_46 ⟨rfl, rfl⟩ zim_X4_init rfl rfl (Nat.le_of_ble_eq_true rfl) (Nat.le_of_ble_eq_true rfl) (Nat.le_of_ble_eq_true rfl) (Nat.le_of_ble_eq_true rfl) (Nat.le_of_ble_eq_true rfl) ?_
  refine kc_10 (fun L8 => ?_)
  show ZW G mX11_init fX11_init lX11_init 100 [zo G 0] [zo G 35, .int 1, zo G 26, zo G 26, zo G 0] (zcs 43 evR_40) (zev evI_39) L8 42 2021 Q
  refine zq_aast (t := 6) (k := 1) (ρ' := evR_41) dX11_init_100 rfl rfl (by decide) zcl_4 rfl rfl rfl (zvl (by decide)) (by decide) rfl ?_
  refine zq_putR (ρ' := evR_42) dX11_init_101 zf_X11_47 (Or.inr ⟨rfl, _, _, _, rfl, rfl⟩) rfl rfl rfl rfl rfl rfl ?_
  refine zr_aload_n dX11_init_104 rfl rfl ?_
  refine zr_iconst (v := 2) dX11_init_105 (by decide) ?_
  refine zq_newA (n := 43) (a := 43) (n' := 44) (t := 7) (N := 2) (bc' := 41) (bs' := 2019) dX11_init_106 (by decide) rfl zcn_X11_51 (by decide) (by decide) rfl rfl rfl (Nat.le_of_ble_eq_true rfl) (Nat.le_of_ble_eq_true rfl) (Nat.le_of_ble_eq_true rfl) ?_
  refine zr_dup dX11_init_109 rfl ?_
  refine zr_iconst (v := 0) dX11_init_110 (by decide) ?_
  refine zq_new (n := 44) (a := 44) (n' := 45) (bc' := 40) (bs' := 2010) dX11_init_111 zcl_3 zcn_X11_51 zit_X3 zini_X3 (fun j hj => (show ∀ j : Fin 9, defaultValue (zTy 3 j.1) = zfv 0 (fun _ => 0) (fun _ => 0) (fun _ => none) 3 j.1 by decide +kernel) ⟨j, hj⟩) rfl rfl rfl (Nat.le_of_ble_eq_true rfl) (Nat.le_of_ble_eq_true rfl) ?_
  refine zr_dup dX11_init_114 rfl ?_
  refine zr_callI (As := []) (rest := [zo G 44, .int 0, zo G 43, zo G 43, zo G 0]) (fr' := fX3_init) (lo' := lX3_init) (bc' := 7) (bs' := 192) (bcr := 33) (bsr := 1818) dX11_init_115 zs_X11_53 ⟨rfl, rfl⟩ zim_X3_init rfl rfl (Nat.le_of_ble_eq_true rfl) (Nat.le_of_ble_eq_true rfl) (Nat.le_of_ble_eq_true rfl) (Nat.le_of_ble_eq_true rfl) (Nat.le_of_ble_eq_true rfl) ?_
  refine kc_11 (fun L9 => ?_)
  show ZW G mX11_init fX11_init lX11_init 118 [zo G 0] [zo G 44, .int 0, zo G 43, zo G 43, zo G 0] (zcs 52 evR_49) (zev evI_42) L9 33 1818 Q
  refine zq_aast (t := 7) (k := 0) (ρ' := evR_50) dX11_init_118 rfl rfl (by decide) zcl_3 rfl rfl rfl (zvl (by decide)) (by decide) rfl ?_
  refine zr_dup dX11_init_119 rfl ?_
  refine zr_iconst (v := 1) dX11_init_120 (by decide) ?_
  refine zq_new (n := 52) (a := 52) (n' := 53) (bc' := 32) (bs' := 1809) dX11_init_121 zcl_3 zcn_X11_51 zit_X3 zini_X3 (fun j hj => (show ∀ j : Fin 9, defaultValue (zTy 3 j.1) = zfv 0 (fun _ => 0) (fun _ => 0) (fun _ => none) 3 j.1 by decide +kernel) ⟨j, hj⟩) rfl rfl rfl (Nat.le_of_ble_eq_true rfl) (Nat.le_of_ble_eq_true rfl) ?_
  refine zr_dup dX11_init_124 rfl ?_
  refine zr_callI (As := []) (rest := [zo G 52, .int 1, zo G 43, zo G 43, zo G 0]) (fr' := fX3_init) (lo' := lX3_init) (bc' := 7) (bs' := 192) (bcr := 25) (bsr := 1617) dX11_init_125 zs_X11_53 ⟨rfl, rfl⟩ zim_X3_init rfl rfl (Nat.le_of_ble_eq_true rfl) (Nat.le_of_ble_eq_true rfl) (Nat.le_of_ble_eq_true rfl) (Nat.le_of_ble_eq_true rfl) (Nat.le_of_ble_eq_true rfl) ?_
  refine kc_12 (fun L10 => ?_)
  show ZW G mX11_init fX11_init lX11_init 128 [zo G 0] [zo G 52, .int 1, zo G 43, zo G 43, zo G 0] (zcs 60 evR_57) (zev evI_45) L10 25 1617 Q
  refine zq_aast (t := 7) (k := 1) (ρ' := evR_58) dX11_init_128 rfl rfl (by decide) zcl_3 rfl rfl rfl (zvl (by decide)) (by decide) rfl ?_
  refine zq_putR (ρ' := evR_59) dX11_init_129 zf_X11_54 (Or.inr ⟨rfl, _, _, _, rfl, rfl⟩) rfl rfl rfl rfl rfl rfl ?_
  refine zr_aload_n dX11_init_132 rfl rfl ?_
  refine zq_new (n := 60) (a := 60) (n' := 61) (bc' := 24) (bs' := 1609) dX11_init_133 zcl_7 zcn_X11_58 zit_X7 zini_X7 (fun j hj => (show ∀ j : Fin 8, defaultValue (zTy 7 j.1) = zfv 0 (fun _ => 0) (fun _ => 0) (fun _ => none) 7 j.1 by decide +kernel) ⟨j, hj⟩) rfl rfl rfl (Nat.le_of_ble_eq_true rfl) (Nat.le_of_ble_eq_true rfl) ?_
  refine zr_dup dX11_init_136 rfl ?_
  refine zr_callIN (As := []) (rest := [zo G 60, zo G 0]) (fr' := fX7_init) (lo' := lX7_init) (bc' := 7) (bs' := 82) (bcr := 17) (bsr := 1527) dX11_init_137 zsn_X11_60 ⟨rfl, rfl⟩ zim_X7_init rfl rfl (Nat.le_of_ble_eq_true rfl) (Nat.le_of_ble_eq_true rfl) (Nat.le_of_ble_eq_true rfl) (Nat.le_of_ble_eq_true rfl) (Nat.le_of_ble_eq_true rfl) ?_
  refine kc_13 (fun L11 => ?_)
  show ZW G mX11_init fX11_init lX11_init 140 [zo G 0] [zo G 60, zo G 0] (zcs 68 evR_66) (zev evI_46) L11 17 1527 Q
  refine zq_putR (ρ' := evR_67) dX11_init_140 zf_X11_61 (Or.inr ⟨rfl, _, _, _, rfl, rfl⟩) rfl rfl rfl rfl rfl rfl ?_
  refine zr_aload_n dX11_init_143 rfl rfl ?_
  refine zq_new (n := 68) (a := 67) (n' := 69) (bc' := 16) (bs' := 1515) dX11_init_144 zcl_8 zcn_X11_65 zit_X8 zini_X8 (fun j hj => (show ∀ j : Fin 12, defaultValue (zTy 8 j.1) = zfv 0 (fun _ => 0) (fun _ => 0) (fun _ => none) 8 j.1 by decide +kernel) ⟨j, hj⟩) rfl rfl rfl (Nat.le_of_ble_eq_true rfl) (Nat.le_of_ble_eq_true rfl) ?_
  refine zr_dup dX11_init_147 rfl ?_
  refine zr_callI (As := []) (rest := [zo G 67, zo G 0]) (fr' := fX8_init) (lo' := lX8_init) (bc' := 6) (bs' := 1016) (bcr := 10) (bsr := 499) dX11_init_148 zs_X11_67 ⟨rfl, rfl⟩ zim_X8_init rfl rfl (Nat.le_of_ble_eq_true rfl) (Nat.le_of_ble_eq_true rfl) (Nat.le_of_ble_eq_true rfl) (Nat.le_of_ble_eq_true rfl) (Nat.le_of_ble_eq_true rfl) ?_
  refine kc_14 (fun L12 => ?_)
  show ZW G mX11_init fX11_init lX11_init 151 [zo G 0] [zo G 67, zo G 0] (zcs 75 evR_73) (zev evI_47) L12 10 499 Q
  refine zq_putR (ρ' := evR_74) dX11_init_151 zf_X11_68 (Or.inr ⟨rfl, _, _, _, rfl, rfl⟩) rfl rfl rfl rfl rfl rfl ?_
  refine zr_aload_n dX11_init_154 rfl rfl ?_
  refine zq_new (n := 75) (a := 74) (n' := 76) (bc' := 9) (bs' := 493) dX11_init_155 zcl_0 zcn_X11_72 zit_X0 zini_X0 (fun j hj => (show ∀ j : Fin 6, defaultValue (zTy 0 j.1) = zfv 0 (fun _ => 0) (fun _ => 0) (fun _ => none) 0 j.1 by decide +kernel) ⟨j, hj⟩) rfl rfl rfl (Nat.le_of_ble_eq_true rfl) (Nat.le_of_ble_eq_true rfl) ?_
  refine zr_dup dX11_init_158 rfl ?_
  refine zr_callIN (As := []) (rest := [zo G 74, zo G 0]) (fr' := fX0_init) (lo' := lX0_init) (bc' := 2) (bs' := 32) (bcr := 7) (bsr := 461) dX11_init_159 zsn_X11_74 ⟨rfl, rfl⟩ zim_X0_init rfl rfl (Nat.le_of_ble_eq_true rfl) (Nat.le_of_ble_eq_true rfl) (Nat.le_of_ble_eq_true rfl) (Nat.le_of_ble_eq_true rfl) (Nat.le_of_ble_eq_true rfl) ?_
  refine kc_15 (fun L13 => ?_)
  show ZW G mX11_init fX11_init lX11_init 162 [zo G 0] [zo G 74, zo G 0] (zcs 78 evR_76) (zev evI_51) L13 7 461 Q
  refine zq_putR (ρ' := evR_77) dX11_init_162 zf_X11_75 (Or.inr ⟨rfl, _, _, _, rfl, rfl⟩) rfl rfl rfl rfl rfl rfl ?_
  refine zr_aload_n dX11_init_165 rfl rfl ?_
  refine zq_new (n := 78) (a := 77) (n' := 79) (bc' := 6) (bs' := 451) dX11_init_166 zcl_5 zcn_X11_79 zit_X5 zini_X5 (fun j hj => (show ∀ j : Fin 10, defaultValue (zTy 5 j.1) = zfv 0 (fun _ => 0) (fun _ => 0) (fun _ => none) 5 j.1 by decide +kernel) ⟨j, hj⟩) rfl rfl rfl (Nat.le_of_ble_eq_true rfl) (Nat.le_of_ble_eq_true rfl) ?_
  refine zr_dup dX11_init_169 rfl ?_
  refine zr_callIN (As := []) (rest := [zo G 77, zo G 0]) (fr' := fX5_init) (lo' := lX5_init) (bc' := 4) (bs' := 240) (bcr := 2) (bsr := 211) dX11_init_170 zsn_X11_81 ⟨rfl, rfl⟩ zim_X5_init rfl rfl (Nat.le_of_ble_eq_true rfl) (Nat.le_of_ble_eq_true rfl) (Nat.le_of_ble_eq_true rfl) (Nat.le_of_ble_eq_true rfl) (Nat.le_of_ble_eq_true rfl) ?_
  refine kc_16 (fun L14 => ?_)
  show ZW G mX11_init fX11_init lX11_init 173 [zo G 0] [zo G 77, zo G 0] (zcs 83 evR_81) (zev evI_52) L14 2 211 Q
  refine zq_putR (ρ' := evR_82) dX11_init_173 zf_X11_82 (Or.inr ⟨rfl, _, _, _, rfl, rfl⟩) rfl rfl rfl rfl rfl rfl ?_
  refine zr_aload_n dX11_init_176 rfl rfl ?_
  refine zr_sipush (v := 200) dX11_init_177 (by decide) ?_
  refine zq_newI (n := 83) (a := 82) (n' := 84) (N := 200) (bc' := 1) (bs' := 11) dX11_init_180 (by decide) (by decide) rfl rfl rfl (Nat.le_of_ble_eq_true rfl) (Nat.le_of_ble_eq_true rfl) (Nat.le_of_ble_eq_true rfl) ?_
  refine zq_putR (ρ' := evR_83) dX11_init_182 zf_X11_86 (Or.inr ⟨rfl, _, _, _, rfl, rfl⟩) rfl rfl rfl rfl rfl rfl ?_
  refine zr_aload_n dX11_init_185 rfl rfl ?_
  refine zr_iconst (v := 0) dX11_init_186 (by decide) ?_
  refine zq_putI (ι' := evI_53) dX11_init_187 zf_X11_90 rfl rfl rfl rfl rfl rfl ?_
  refine zr_aload_n dX11_init_190 rfl rfl ?_
  refine zq_new (n := 84) (a := 83) (n' := 85) (bc' := 0) (bs' := 0) dX11_init_191 zcl_1 zcn_X11_23 zit_X1 zini_X1 (fun j hj => (show ∀ j : Fin 11, defaultValue (zTy 1 j.1) = zfv 0 (fun _ => 0) (fun _ => 0) (fun _ => none) 1 j.1 by decide +kernel) ⟨j, hj⟩) rfl rfl rfl (Nat.le_of_ble_eq_true rfl) (Nat.le_of_ble_eq_true rfl) ?_
  refine zr_dup dX11_init_194 rfl ?_
  refine zr_callI (As := []) (rest := [zo G 83, zo G 0]) (fr' := fX1_init) (lo' := lX1_init) (bc' := 0) (bs' := 0) (bcr := 0) (bsr := 0) dX11_init_195 zs_X11_25 ⟨rfl, rfl⟩ zim_X1_init rfl rfl (Nat.le_of_ble_eq_true rfl) (Nat.le_of_ble_eq_true rfl) (Nat.le_of_ble_eq_true rfl) (Nat.le_of_ble_eq_true rfl) (Nat.le_of_ble_eq_true rfl) ?_
  refine kc_18 (fun L15 => ?_)
  show ZW G mX11_init fX11_init lX11_init 198 [zo G 0] [zo G 83, zo G 0] (zcs 85 evR_83) (zev evI_64) L15 0 0 Q
  refine zq_putR (ρ' := evR_84) dX11_init_198 zf_X11_94 (Or.inl rfl) rfl rfl rfl rfl rfl rfl ?_
  refine zr_aload_n dX11_init_201 rfl rfl ?_
  refine zr_iconst (v := 0) dX11_init_202 (by decide) ?_
  refine zq_putI (ι' := evI_65) dX11_init_203 zf_X11_98 rfl rfl rfl rfl rfl rfl ?_
  refine zr_aload_n dX11_init_206 rfl rfl ?_
  refine zr_iconst (v := (-1 : Int32)) dX11_init_207 (by decide) ?_
  refine zq_putI (ι' := evI_66) dX11_init_208 zf_X11_101 rfl rfl rfl rfl rfl rfl ?_
  refine zr_aload_n dX11_init_211 rfl rfl ?_
  refine zr_iconst (v := 1) dX11_init_212 (by decide) ?_
  refine zq_putI (ι' := evI_67) dX11_init_213 zf_X11_104 rfl rfl rfl rfl rfl rfl ?_
  exact zr_return_ dX11_init_216 rfl (q _)
def evI_68 : List (Nat × Nat × Int32 × Nat) := (84, 2, (-1 : Int32), 0) :: evI_67
def evR_85 : List (Nat × Nat × Nat) := (84, 4, 85) :: evR_84
def evR_86 : List (Nat × Nat × Nat) := (84, 5, 86) :: evR_85
def evR_87 : List (Nat × Nat × Nat) := (84, 6, 87) :: evR_86
def evR_88 : List (Nat × Nat × Nat) := (84, 7, 88) :: evR_87
def evR_89 : List (Nat × Nat × Nat) := (84, 8, 89) :: evR_88
def evR_90 : List (Nat × Nat × Nat) := (84, 9, 90) :: evR_89
def evR_91 : List (Nat × Nat × Nat) := (84, 10, 91) :: evR_90
def evR_92 : List (Nat × Nat × Nat) := (84, 11, 92) :: evR_91
def evR_93 : List (Nat × Nat × Nat) := (84, 12, 93) :: evR_92
def evR_94 : List (Nat × Nat × Nat) := (84, 14, 94) :: evR_93
def evR_95 : List (Nat × Nat × Nat) := (84, 15, 95) :: evR_94
def evR_96 : List (Nat × Nat × Nat) := (84, 16, 96) :: evR_95
def evR_97 : List (Nat × Nat × Nat) := (84, 17, 97) :: evR_96
def evR_98 : List (Nat × Nat × Nat) := (84, 18, 98) :: evR_97
def evR_99 : List (Nat × Nat × Nat) := (84, 20, 99) :: evR_98
def evR_100 : List (Nat × Nat × Nat) := (84, 21, 100) :: evR_99
def evR_101 : List (Nat × Nat × Nat) := (84, 22, 101) :: evR_100
def evR_102 : List (Nat × Nat × Nat) := (84, 23, 102) :: evR_101
def evR_103 : List (Nat × Nat × Nat) := (84, 24, 103) :: evR_102
def evR_104 : List (Nat × Nat × Nat) := (84, 25, 104) :: evR_103
def evI_69 : List (Nat × Nat × Int32 × Nat) := (105, 0, 3, 0) :: evI_68
def evI_70 : List (Nat × Nat × Int32 × Nat) := (105, 1, 0, 0) :: evI_69
def evI_71 : List (Nat × Nat × Int32 × Nat) := (105, 2, 1, 0) :: evI_70
def evI_72 : List (Nat × Nat × Int32 × Nat) := (105, 3, 2, 0) :: evI_71
def evI_73 : List (Nat × Nat × Int32 × Nat) := (105, 4, 60, 0) :: evI_72
def evI_74 : List (Nat × Nat × Int32 × Nat) := (105, 5, 1, 0) :: evI_73
def evI_75 : List (Nat × Nat × Int32 × Nat) := (105, 6, 10, 0) :: evI_74
def evI_76 : List (Nat × Nat × Int32 × Nat) := (105, 7, 30, 0) :: evI_75
def evI_77 : List (Nat × Nat × Int32 × Nat) := (105, 8, 2, 0) :: evI_76
def evI_78 : List (Nat × Nat × Int32 × Nat) := (105, 9, 0, 0) :: evI_77
def evI_79 : List (Nat × Nat × Int32 × Nat) := (105, 10, 0, 0) :: evI_78
def evI_80 : List (Nat × Nat × Int32 × Nat) := (105, 11, 0, 0) :: evI_79
def evI_81 : List (Nat × Nat × Int32 × Nat) := (105, 12, 0, 0) :: evI_80
def evI_82 : List (Nat × Nat × Int32 × Nat) := (105, 13, 0, 0) :: evI_81
def evI_83 : List (Nat × Nat × Int32 × Nat) := (105, 14, 0, 0) :: evI_82
def evI_84 : List (Nat × Nat × Int32 × Nat) := (105, 15, 0, 0) :: evI_83
def evI_85 : List (Nat × Nat × Int32 × Nat) := (105, 16, 0, 0) :: evI_84
def evI_86 : List (Nat × Nat × Int32 × Nat) := (105, 17, 0, 0) :: evI_85
def evI_87 : List (Nat × Nat × Int32 × Nat) := (105, 18, 0, 0) :: evI_86
def evI_88 : List (Nat × Nat × Int32 × Nat) := (105, 19, 0, 0) :: evI_87
def evI_89 : List (Nat × Nat × Int32 × Nat) := (105, 20, 0, 0) :: evI_88
def evI_90 : List (Nat × Nat × Int32 × Nat) := (105, 21, 0, 0) :: evI_89
def evI_91 : List (Nat × Nat × Int32 × Nat) := (105, 22, 0, 0) :: evI_90
def evI_92 : List (Nat × Nat × Int32 × Nat) := (105, 23, 0, 0) :: evI_91
def evI_93 : List (Nat × Nat × Int32 × Nat) := (105, 24, 0, 0) :: evI_92
def evI_94 : List (Nat × Nat × Int32 × Nat) := (105, 25, 0, 0) :: evI_93
def evI_95 : List (Nat × Nat × Int32 × Nat) := (105, 26, 0, 0) :: evI_94
def evI_96 : List (Nat × Nat × Int32 × Nat) := (105, 27, 0, 0) :: evI_95
def evI_97 : List (Nat × Nat × Int32 × Nat) := (105, 28, 0, 0) :: evI_96
def evI_98 : List (Nat × Nat × Int32 × Nat) := (105, 29, 0, 0) :: evI_97
def evI_99 : List (Nat × Nat × Int32 × Nat) := (105, 30, 0, 0) :: evI_98
def evI_100 : List (Nat × Nat × Int32 × Nat) := (105, 31, 0, 0) :: evI_99
def evI_101 : List (Nat × Nat × Int32 × Nat) := (105, 32, 0, 0) :: evI_100
def evI_102 : List (Nat × Nat × Int32 × Nat) := (105, 33, 0, 0) :: evI_101
def evI_103 : List (Nat × Nat × Int32 × Nat) := (105, 34, 0, 0) :: evI_102
def evI_104 : List (Nat × Nat × Int32 × Nat) := (105, 35, 0, 0) :: evI_103
def evI_105 : List (Nat × Nat × Int32 × Nat) := (105, 36, 0, 0) :: evI_104
def evI_106 : List (Nat × Nat × Int32 × Nat) := (105, 37, 0, 0) :: evI_105
def evI_107 : List (Nat × Nat × Int32 × Nat) := (105, 38, 0, 0) :: evI_106
def evI_108 : List (Nat × Nat × Int32 × Nat) := (105, 39, 0, 0) :: evI_107
def evI_109 : List (Nat × Nat × Int32 × Nat) := (105, 40, 0, 0) :: evI_108
def evI_110 : List (Nat × Nat × Int32 × Nat) := (105, 41, 0, 0) :: evI_109
def evI_111 : List (Nat × Nat × Int32 × Nat) := (105, 42, 0, 0) :: evI_110
def evI_112 : List (Nat × Nat × Int32 × Nat) := (105, 43, 0, 0) :: evI_111
def evI_113 : List (Nat × Nat × Int32 × Nat) := (105, 44, 0, 0) :: evI_112
def evI_114 : List (Nat × Nat × Int32 × Nat) := (105, 45, 0, 0) :: evI_113
def evI_115 : List (Nat × Nat × Int32 × Nat) := (105, 46, 0, 0) :: evI_114
def evI_116 : List (Nat × Nat × Int32 × Nat) := (105, 47, 0, 0) :: evI_115
def evI_117 : List (Nat × Nat × Int32 × Nat) := (105, 48, 0, 0) :: evI_116
def evI_118 : List (Nat × Nat × Int32 × Nat) := (105, 49, 0, 0) :: evI_117
def evI_119 : List (Nat × Nat × Int32 × Nat) := (105, 50, 3, 0) :: evI_118
def evI_120 : List (Nat × Nat × Int32 × Nat) := (105, 51, 0, 0) :: evI_119
def evI_121 : List (Nat × Nat × Int32 × Nat) := (105, 52, 1, 0) :: evI_120
def evI_122 : List (Nat × Nat × Int32 × Nat) := (105, 53, 2, 0) :: evI_121
def evI_123 : List (Nat × Nat × Int32 × Nat) := (105, 54, 60, 0) :: evI_122
def evI_124 : List (Nat × Nat × Int32 × Nat) := (105, 55, 1, 0) :: evI_123
def evI_125 : List (Nat × Nat × Int32 × Nat) := (105, 56, 10, 0) :: evI_124
def evI_126 : List (Nat × Nat × Int32 × Nat) := (105, 57, 30, 0) :: evI_125
def evI_127 : List (Nat × Nat × Int32 × Nat) := (105, 58, 2, 0) :: evI_126
def evI_128 : List (Nat × Nat × Int32 × Nat) := (105, 59, 0, 0) :: evI_127
def evI_129 : List (Nat × Nat × Int32 × Nat) := (105, 60, 0, 0) :: evI_128
def evI_130 : List (Nat × Nat × Int32 × Nat) := (105, 61, 0, 0) :: evI_129
def evI_131 : List (Nat × Nat × Int32 × Nat) := (105, 62, 0, 0) :: evI_130
def evI_132 : List (Nat × Nat × Int32 × Nat) := (105, 63, 0, 0) :: evI_131
def evI_133 : List (Nat × Nat × Int32 × Nat) := (105, 64, 0, 0) :: evI_132
def evI_134 : List (Nat × Nat × Int32 × Nat) := (105, 65, 0, 0) :: evI_133
def evI_135 : List (Nat × Nat × Int32 × Nat) := (105, 66, 0, 0) :: evI_134
def evI_136 : List (Nat × Nat × Int32 × Nat) := (105, 67, 0, 0) :: evI_135
def evI_137 : List (Nat × Nat × Int32 × Nat) := (105, 68, 0, 0) :: evI_136
def evI_138 : List (Nat × Nat × Int32 × Nat) := (105, 69, 0, 0) :: evI_137
def evI_139 : List (Nat × Nat × Int32 × Nat) := (105, 70, 0, 0) :: evI_138
def evI_140 : List (Nat × Nat × Int32 × Nat) := (105, 71, 0, 0) :: evI_139
def evI_141 : List (Nat × Nat × Int32 × Nat) := (105, 72, 0, 0) :: evI_140
def evI_142 : List (Nat × Nat × Int32 × Nat) := (105, 73, 0, 0) :: evI_141
def evI_143 : List (Nat × Nat × Int32 × Nat) := (105, 74, 0, 0) :: evI_142
def evI_144 : List (Nat × Nat × Int32 × Nat) := (105, 75, 0, 0) :: evI_143
def evI_145 : List (Nat × Nat × Int32 × Nat) := (105, 76, 0, 0) :: evI_144
def evI_146 : List (Nat × Nat × Int32 × Nat) := (105, 77, 0, 0) :: evI_145
def evI_147 : List (Nat × Nat × Int32 × Nat) := (105, 78, 0, 0) :: evI_146
def evI_148 : List (Nat × Nat × Int32 × Nat) := (105, 79, 0, 0) :: evI_147
def evI_149 : List (Nat × Nat × Int32 × Nat) := (105, 80, 0, 0) :: evI_148
def evI_150 : List (Nat × Nat × Int32 × Nat) := (105, 81, 0, 0) :: evI_149
def evI_151 : List (Nat × Nat × Int32 × Nat) := (105, 82, 0, 0) :: evI_150
def evI_152 : List (Nat × Nat × Int32 × Nat) := (105, 83, 0, 0) :: evI_151
def evI_153 : List (Nat × Nat × Int32 × Nat) := (105, 84, 0, 0) :: evI_152
def evI_154 : List (Nat × Nat × Int32 × Nat) := (105, 85, 0, 0) :: evI_153
def evI_155 : List (Nat × Nat × Int32 × Nat) := (105, 86, 0, 0) :: evI_154
def evI_156 : List (Nat × Nat × Int32 × Nat) := (105, 87, 0, 0) :: evI_155
def evI_157 : List (Nat × Nat × Int32 × Nat) := (105, 88, 0, 0) :: evI_156
def evI_158 : List (Nat × Nat × Int32 × Nat) := (105, 89, 0, 0) :: evI_157
def evI_159 : List (Nat × Nat × Int32 × Nat) := (105, 90, 0, 0) :: evI_158
def evI_160 : List (Nat × Nat × Int32 × Nat) := (105, 91, 0, 0) :: evI_159
def evI_161 : List (Nat × Nat × Int32 × Nat) := (105, 92, 0, 0) :: evI_160
def evI_162 : List (Nat × Nat × Int32 × Nat) := (105, 93, 0, 0) :: evI_161
def evI_163 : List (Nat × Nat × Int32 × Nat) := (105, 94, 0, 0) :: evI_162
def evI_164 : List (Nat × Nat × Int32 × Nat) := (105, 95, 0, 0) :: evI_163
def evI_165 : List (Nat × Nat × Int32 × Nat) := (105, 96, 0, 0) :: evI_164
def evI_166 : List (Nat × Nat × Int32 × Nat) := (105, 97, 0, 0) :: evI_165
def evI_167 : List (Nat × Nat × Int32 × Nat) := (105, 98, 0, 0) :: evI_166
def evI_168 : List (Nat × Nat × Int32 × Nat) := (105, 99, 0, 0) :: evI_167
def evI_169 : List (Nat × Nat × Int32 × Nat) := (105, 100, 0, 0) :: evI_168
def evI_170 : List (Nat × Nat × Int32 × Nat) := (105, 101, 0, 0) :: evI_169
def evI_171 : List (Nat × Nat × Int32 × Nat) := (105, 102, 0, 0) :: evI_170
def evI_172 : List (Nat × Nat × Int32 × Nat) := (105, 103, 0, 0) :: evI_171
def evI_173 : List (Nat × Nat × Int32 × Nat) := (105, 104, 0, 0) :: evI_172
def evI_174 : List (Nat × Nat × Int32 × Nat) := (105, 105, 0, 0) :: evI_173
def evI_175 : List (Nat × Nat × Int32 × Nat) := (105, 106, 0, 0) :: evI_174
def evI_176 : List (Nat × Nat × Int32 × Nat) := (105, 107, 0, 0) :: evI_175
def evI_177 : List (Nat × Nat × Int32 × Nat) := (105, 108, 0, 0) :: evI_176
def evI_178 : List (Nat × Nat × Int32 × Nat) := (105, 109, 0, 0) :: evI_177
def evI_179 : List (Nat × Nat × Int32 × Nat) := (105, 110, 0, 0) :: evI_178
def evI_180 : List (Nat × Nat × Int32 × Nat) := (105, 111, 0, 0) :: evI_179
def evI_181 : List (Nat × Nat × Int32 × Nat) := (105, 112, 0, 0) :: evI_180
def evI_182 : List (Nat × Nat × Int32 × Nat) := (105, 113, 0, 0) :: evI_181
def evI_183 : List (Nat × Nat × Int32 × Nat) := (105, 114, 0, 0) :: evI_182
def evI_184 : List (Nat × Nat × Int32 × Nat) := (105, 115, 0, 0) :: evI_183
def evI_185 : List (Nat × Nat × Int32 × Nat) := (105, 116, 0, 0) :: evI_184
def evI_186 : List (Nat × Nat × Int32 × Nat) := (105, 117, 0, 0) :: evI_185
def evI_187 : List (Nat × Nat × Int32 × Nat) := (105, 118, 0, 0) :: evI_186
def evI_188 : List (Nat × Nat × Int32 × Nat) := (105, 119, 0, 0) :: evI_187
def evI_189 : List (Nat × Nat × Int32 × Nat) := (105, 120, 0, 0) :: evI_188
def evI_190 : List (Nat × Nat × Int32 × Nat) := (105, 121, 0, 0) :: evI_189
def evI_191 : List (Nat × Nat × Int32 × Nat) := (105, 122, 0, 0) :: evI_190
def evI_192 : List (Nat × Nat × Int32 × Nat) := (105, 123, 0, 0) :: evI_191
def evI_193 : List (Nat × Nat × Int32 × Nat) := (105, 124, 0, 0) :: evI_192
def evI_194 : List (Nat × Nat × Int32 × Nat) := (105, 125, 0, 0) :: evI_193
def evI_195 : List (Nat × Nat × Int32 × Nat) := (105, 126, 0, 0) :: evI_194
def evI_196 : List (Nat × Nat × Int32 × Nat) := (105, 127, 0, 0) :: evI_195
def evI_197 : List (Nat × Nat × Int32 × Nat) := (105, 128, 0, 0) :: evI_196
def evI_198 : List (Nat × Nat × Int32 × Nat) := (105, 129, 0, 0) :: evI_197
def evI_199 : List (Nat × Nat × Int32 × Nat) := (105, 130, 0, 0) :: evI_198
def evI_200 : List (Nat × Nat × Int32 × Nat) := (105, 131, 0, 0) :: evI_199
def evI_201 : List (Nat × Nat × Int32 × Nat) := (105, 132, 0, 0) :: evI_200
def evI_202 : List (Nat × Nat × Int32 × Nat) := (105, 133, 0, 0) :: evI_201
def evI_203 : List (Nat × Nat × Int32 × Nat) := (105, 134, 0, 0) :: evI_202
def evI_204 : List (Nat × Nat × Int32 × Nat) := (105, 135, 0, 0) :: evI_203
def evI_205 : List (Nat × Nat × Int32 × Nat) := (105, 136, 0, 0) :: evI_204
def evI_206 : List (Nat × Nat × Int32 × Nat) := (105, 137, 0, 0) :: evI_205
def evI_207 : List (Nat × Nat × Int32 × Nat) := (105, 138, 0, 0) :: evI_206
def evI_208 : List (Nat × Nat × Int32 × Nat) := (105, 139, 0, 0) :: evI_207
def evI_209 : List (Nat × Nat × Int32 × Nat) := (105, 140, 0, 0) :: evI_208
def evI_210 : List (Nat × Nat × Int32 × Nat) := (105, 141, 0, 0) :: evI_209
def evI_211 : List (Nat × Nat × Int32 × Nat) := (105, 142, 0, 0) :: evI_210
def evI_212 : List (Nat × Nat × Int32 × Nat) := (105, 143, 0, 0) :: evI_211
def evI_213 : List (Nat × Nat × Int32 × Nat) := (105, 144, 0, 0) :: evI_212
def evI_214 : List (Nat × Nat × Int32 × Nat) := (105, 145, 0, 0) :: evI_213
def evI_215 : List (Nat × Nat × Int32 × Nat) := (105, 146, 0, 0) :: evI_214
def evI_216 : List (Nat × Nat × Int32 × Nat) := (105, 147, 0, 0) :: evI_215
def evI_217 : List (Nat × Nat × Int32 × Nat) := (105, 148, 0, 0) :: evI_216
def evI_218 : List (Nat × Nat × Int32 × Nat) := (105, 149, 0, 0) :: evI_217
def evR_105 : List (Nat × Nat × Nat) := (84, 27, 105) :: evR_104
def evI_219 : List (Nat × Nat × Int32 × Nat) := (106, 0, 32, 0) :: evI_218
def evI_220 : List (Nat × Nat × Int32 × Nat) := (106, 1, 112, 0) :: evI_219
def evI_221 : List (Nat × Nat × Int32 × Nat) := (106, 2, 111, 0) :: evI_220
def evI_222 : List (Nat × Nat × Int32 × Nat) := (106, 3, 115, 0) :: evI_221
def evI_223 : List (Nat × Nat × Int32 × Nat) := (106, 4, 116, 0) :: evI_222
def evI_224 : List (Nat × Nat × Int32 × Nat) := (106, 5, 32, 0) :: evI_223
def evI_225 : List (Nat × Nat × Int32 × Nat) := (106, 6, 98, 0) :: evI_224
def evI_226 : List (Nat × Nat × Int32 × Nat) := (106, 7, 101, 0) :: evI_225
def evI_227 : List (Nat × Nat × Int32 × Nat) := (106, 8, 97, 0) :: evI_226
def evI_228 : List (Nat × Nat × Int32 × Nat) := (106, 9, 109, 0) :: evI_227
def evI_229 : List (Nat × Nat × Int32 × Nat) := (106, 10, 32, 0) :: evI_228
def evI_230 : List (Nat × Nat × Int32 × Nat) := (106, 11, 114, 0) :: evI_229
def evI_231 : List (Nat × Nat × Int32 × Nat) := (106, 12, 97, 0) :: evI_230
def evI_232 : List (Nat × Nat × Int32 × Nat) := (106, 13, 102, 0) :: evI_231
def evI_233 : List (Nat × Nat × Int32 × Nat) := (106, 14, 116, 0) :: evI_232
def evI_234 : List (Nat × Nat × Int32 × Nat) := (106, 15, 101, 0) :: evI_233
def evI_235 : List (Nat × Nat × Int32 × Nat) := (106, 16, 114, 0) :: evI_234
def evI_236 : List (Nat × Nat × Int32 × Nat) := (106, 17, 32, 0) :: evI_235
def evI_237 : List (Nat × Nat × Int32 × Nat) := (106, 18, 98, 0) :: evI_236
def evI_238 : List (Nat × Nat × Int32 × Nat) := (106, 19, 114, 0) :: evI_237
def evI_239 : List (Nat × Nat × Int32 × Nat) := (106, 20, 97, 0) :: evI_238
def evI_240 : List (Nat × Nat × Int32 × Nat) := (106, 21, 99, 0) :: evI_239
def evI_241 : List (Nat × Nat × Int32 × Nat) := (106, 22, 101, 0) :: evI_240
def evI_242 : List (Nat × Nat × Int32 × Nat) := (106, 23, 32, 0) :: evI_241
def evI_243 : List (Nat × Nat × Int32 × Nat) := (106, 24, 102, 0) :: evI_242
def evI_244 : List (Nat × Nat × Int32 × Nat) := (106, 25, 111, 0) :: evI_243
def evI_245 : List (Nat × Nat × Int32 × Nat) := (106, 26, 117, 0) :: evI_244
def evI_246 : List (Nat × Nat × Int32 × Nat) := (106, 27, 114, 0) :: evI_245
def evI_247 : List (Nat × Nat × Int32 × Nat) := (106, 28, 32, 0) :: evI_246
def evI_248 : List (Nat × Nat × Int32 × Nat) := (106, 29, 116, 0) :: evI_247
def evI_249 : List (Nat × Nat × Int32 × Nat) := (106, 30, 117, 0) :: evI_248
def evI_250 : List (Nat × Nat × Int32 × Nat) := (106, 31, 114, 0) :: evI_249
def evI_251 : List (Nat × Nat × Int32 × Nat) := (106, 32, 110, 0) :: evI_250
def evI_252 : List (Nat × Nat × Int32 × Nat) := (106, 33, 32, 0) :: evI_251
def evI_253 : List (Nat × Nat × Int32 × Nat) := (106, 34, 115, 0) :: evI_252
def evI_254 : List (Nat × Nat × Int32 × Nat) := (106, 35, 108, 0) :: evI_253
def evI_255 : List (Nat × Nat × Int32 × Nat) := (106, 36, 97, 0) :: evI_254
def evI_256 : List (Nat × Nat × Int32 × Nat) := (106, 37, 99, 0) :: evI_255
def evI_257 : List (Nat × Nat × Int32 × Nat) := (106, 38, 107, 0) :: evI_256
def evI_258 : List (Nat × Nat × Int32 × Nat) := (106, 39, 32, 0) :: evI_257
def evI_259 : List (Nat × Nat × Int32 × Nat) := (106, 40, 104, 0) :: evI_258
def evI_260 : List (Nat × Nat × Int32 × Nat) := (106, 41, 111, 0) :: evI_259
def evI_261 : List (Nat × Nat × Int32 × Nat) := (106, 42, 108, 0) :: evI_260
def evI_262 : List (Nat × Nat × Int32 × Nat) := (106, 43, 100, 0) :: evI_261
def evI_263 : List (Nat × Nat × Int32 × Nat) := (106, 44, 32, 0) :: evI_262
def evI_264 : List (Nat × Nat × Int32 × Nat) := (106, 45, 108, 0) :: evI_263
def evI_265 : List (Nat × Nat × Int32 × Nat) := (106, 46, 101, 0) :: evI_264
def evI_266 : List (Nat × Nat × Int32 × Nat) := (106, 47, 118, 0) :: evI_265
def evI_267 : List (Nat × Nat × Int32 × Nat) := (106, 48, 101, 0) :: evI_266
def evI_268 : List (Nat × Nat × Int32 × Nat) := (106, 49, 108, 0) :: evI_267
def evI_269 : List (Nat × Nat × Int32 × Nat) := (106, 50, 32, 0) :: evI_268
def evI_270 : List (Nat × Nat × Int32 × Nat) := (106, 51, 109, 0) :: evI_269
def evI_271 : List (Nat × Nat × Int32 × Nat) := (106, 52, 97, 0) :: evI_270
def evI_272 : List (Nat × Nat × Int32 × Nat) := (106, 53, 114, 0) :: evI_271
def evI_273 : List (Nat × Nat × Int32 × Nat) := (106, 54, 103, 0) :: evI_272
def evI_274 : List (Nat × Nat × Int32 × Nat) := (106, 55, 105, 0) :: evI_273
def evI_275 : List (Nat × Nat × Int32 × Nat) := (106, 56, 110, 0) :: evI_274
def evI_276 : List (Nat × Nat × Int32 × Nat) := (106, 57, 32, 0) :: evI_275
def evI_277 : List (Nat × Nat × Int32 × Nat) := (106, 58, 115, 0) :: evI_276
def evI_278 : List (Nat × Nat × Int32 × Nat) := (106, 59, 97, 0) :: evI_277
def evI_279 : List (Nat × Nat × Int32 × Nat) := (106, 60, 112, 0) :: evI_278
def evI_280 : List (Nat × Nat × Int32 × Nat) := (106, 61, 32, 0) :: evI_279
def evI_281 : List (Nat × Nat × Int32 × Nat) := (106, 62, 115, 0) :: evI_280
def evI_282 : List (Nat × Nat × Int32 × Nat) := (106, 63, 116, 0) :: evI_281
def evI_283 : List (Nat × Nat × Int32 × Nat) := (106, 64, 111, 0) :: evI_282
def evI_284 : List (Nat × Nat × Int32 × Nat) := (106, 65, 99, 0) :: evI_283
def evI_285 : List (Nat × Nat × Int32 × Nat) := (106, 66, 107, 0) :: evI_284
def evI_286 : List (Nat × Nat × Int32 × Nat) := (106, 67, 32, 0) :: evI_285
def evI_287 : List (Nat × Nat × Int32 × Nat) := (106, 68, 97, 0) :: evI_286
def evI_288 : List (Nat × Nat × Int32 × Nat) := (106, 69, 100, 0) :: evI_287
def evI_289 : List (Nat × Nat × Int32 × Nat) := (106, 70, 100, 0) :: evI_288
def evI_290 : List (Nat × Nat × Int32 × Nat) := (106, 71, 32, 0) :: evI_289
def evI_291 : List (Nat × Nat × Int32 × Nat) := (106, 72, 108, 0) :: evI_290
def evI_292 : List (Nat × Nat × Int32 × Nat) := (106, 73, 101, 0) :: evI_291
def evI_293 : List (Nat × Nat × Int32 × Nat) := (106, 74, 115, 0) :: evI_292
def evI_294 : List (Nat × Nat × Int32 × Nat) := (106, 75, 115, 0) :: evI_293
def evI_295 : List (Nat × Nat × Int32 × Nat) := (106, 76, 32, 0) :: evI_294
def evI_296 : List (Nat × Nat × Int32 × Nat) := (106, 77, 98, 0) :: evI_295
def evI_297 : List (Nat × Nat × Int32 × Nat) := (106, 78, 111, 0) :: evI_296
def evI_298 : List (Nat × Nat × Int32 × Nat) := (106, 79, 116, 0) :: evI_297
def evI_299 : List (Nat × Nat × Int32 × Nat) := (106, 80, 104, 0) :: evI_298
def evI_300 : List (Nat × Nat × Int32 × Nat) := (106, 81, 32, 0) :: evI_299
def evI_301 : List (Nat × Nat × Int32 × Nat) := (106, 82, 105, 0) :: evI_300
def evI_302 : List (Nat × Nat × Int32 × Nat) := (106, 83, 110, 0) :: evI_301
def evI_303 : List (Nat × Nat × Int32 × Nat) := (106, 84, 116, 0) :: evI_302
def evI_304 : List (Nat × Nat × Int32 × Nat) := (106, 85, 111, 0) :: evI_303
def evI_305 : List (Nat × Nat × Int32 × Nat) := (106, 86, 32, 0) :: evI_304
def evI_306 : List (Nat × Nat × Int32 × Nat) := (106, 87, 97, 0) :: evI_305
def evI_307 : List (Nat × Nat × Int32 × Nat) := (106, 88, 104, 0) :: evI_306
def evI_308 : List (Nat × Nat × Int32 × Nat) := (106, 89, 101, 0) :: evI_307
def evI_309 : List (Nat × Nat × Int32 × Nat) := (106, 90, 97, 0) :: evI_308
def evI_310 : List (Nat × Nat × Int32 × Nat) := (106, 91, 100, 0) :: evI_309
def evI_311 : List (Nat × Nat × Int32 × Nat) := (106, 92, 32, 0) :: evI_310
def evI_312 : List (Nat × Nat × Int32 × Nat) := (106, 93, 116, 0) :: evI_311
def evI_313 : List (Nat × Nat × Int32 × Nat) := (106, 94, 111, 0) :: evI_312
def evI_314 : List (Nat × Nat × Int32 × Nat) := (106, 95, 32, 0) :: evI_313
def evR_106 : List (Nat × Nat × Nat) := (84, 28, 106) :: evR_105
def evI_315 : List (Nat × Nat × Int32 × Nat) := (84, 37, (-1 : Int32), 0) :: evI_314
def evR_107 : List (Nat × Nat × Nat) := (84, 38, 107) :: evR_106
def evR_108 : List (Nat × Nat × Nat) := (84, 40, 108) :: evR_107
def evR_109 : List (Nat × Nat × Nat) := (84, 41, 109) :: evR_108
def evR_110 : List (Nat × Nat × Nat) := (84, 44, 110) :: evR_109
def evR_111 : List (Nat × Nat × Nat) := (84, 45, 111) :: evR_110
def evR_112 : List (Nat × Nat × Nat) := (84, 46, 112) :: evR_111
def evR_113 : List (Nat × Nat × Nat) := (84, 47, 113) :: evR_112
def evR_114 : List (Nat × Nat × Nat) := (84, 48, 114) :: evR_113
def evR_115 : List (Nat × Nat × Nat) := (84, 49, 115) :: evR_114
def evI_316 : List (Nat × Nat × Int32 × Nat) := (84, 52, (-1 : Int32), 0) :: evI_315
def evI_317 : List (Nat × Nat × Int32 × Nat) := (84, 53, (-1 : Int32), 0) :: evI_316
def evR_116 : List (Nat × Nat × Nat) := (84, 54, 116) :: evR_115
def evR_117 : List (Nat × Nat × Nat) := (84, 55, 117) :: evR_116
def evR_118 : List (Nat × Nat × Nat) := (84, 56, 118) :: evR_117
def evR_119 : List (Nat × Nat × Nat) := (84, 57, 119) :: evR_118
def evR_120 : List (Nat × Nat × Nat) := (84, 58, 120) :: evR_119
def evR_121 : List (Nat × Nat × Nat) := (84, 59, 121) :: evR_120
def evR_122 : List (Nat × Nat × Nat) := (84, 60, 122) :: evR_121
def evR_123 : List (Nat × Nat × Nat) := (84, 61, 123) :: evR_122
def evR_124 : List (Nat × Nat × Nat) := (84, 62, 124) :: evR_123
def evR_125 : List (Nat × Nat × Nat) := (84, 63, 125) :: evR_124
def evR_126 : List (Nat × Nat × Nat) := (84, 65, 126) :: evR_125
def evR_127 : List (Nat × Nat × Nat) := (84, 67, 127) :: evR_126
def evR_128 : List (Nat × Nat × Nat) := (84, 68, 128) :: evR_127
def evR_129 : List (Nat × Nat × Nat) := (84, 69, 129) :: evR_128
def evR_130 : List (Nat × Nat × Nat) := (84, 70, 130) :: evR_129
def evR_131 : List (Nat × Nat × Nat) := (84, 71, 131) :: evR_130
def evR_132 : List (Nat × Nat × Nat) := (84, 72, 132) :: evR_131
def evR_133 : List (Nat × Nat × Nat) := (84, 78, 133) :: evR_132
def evR_134 : List (Nat × Nat × Nat) := (84, 80, 134) :: evR_133
def evR_135 : List (Nat × Nat × Nat) := (84, 81, 135) :: evR_134
def evR_136 : List (Nat × Nat × Nat) := (84, 82, 136) :: evR_135
def evR_137 : List (Nat × Nat × Nat) := (84, 83, 137) :: evR_136
def evR_138 : List (Nat × Nat × Nat) := (84, 89, 138) :: evR_137
set_option maxHeartbeats 16000000 in
theorem kc_20 {G : Gp} {Q : zPost} {L : zFL} (q : ∀ L' : zFL, Q none (zcs 140 evR_138) (zev evI_317) L') : ZC G mX12_init fX12_init lX12_init [zo G 84] (zcs 86 evR_84) (zev evI_67) L 54 140352 Q := by
  refine ZC.of' (vs := [zo G 84]) ?_ rfl (Nat.le_of_ble_eq_true rfl) rfl
  refine zr_aload_n dX12_init_0 rfl rfl ?_
  refine zr_objInit dX12_init_1 zob_X12 zobI zobC (Nat.le_of_ble_eq_true rfl) (Nat.le_of_ble_eq_true rfl) (Nat.le_of_ble_eq_true rfl) ?_
  refine zr_aload_n dX12_init_4 rfl rfl ?_
  refine zr_iconst (v := (-1 : Int32)) dX12_init_5 (by decide) ?_
  refine zq_putI (ι' := evI_68) dX12_init_6 zf_X12_9 rfl rfl rfl rfl rfl rfl ?_
  refine zr_aload_n dX12_init_9 rfl rfl ?_
  refine zr_bipush (v := 16) dX12_init_10 (by decide) ?_
  refine zq_newI (n := 86) (a := 85) (n' := 87) (N := 16) (bc' := 53) (bs' := 140336) dX12_init_12 (by decide) (by decide) rfl rfl rfl (Nat.le_of_ble_eq_true rfl) (Nat.le_of_ble_eq_true rfl) (Nat.le_of_ble_eq_true rfl) ?_
  refine zq_putR (ρ' := evR_85) dX12_init_14 zf_X12_13 (Or.inr ⟨rfl, _, _, _, rfl, rfl⟩) rfl rfl rfl rfl rfl rfl ?_
  refine zr_aload_n dX12_init_17 rfl rfl ?_
  refine zr_bipush (v := 16) dX12_init_18 (by decide) ?_
  refine zq_newI (n := 87) (a := 86) (n' := 88) (N := 16) (bc' := 52) (bs' := 140320) dX12_init_20 (by decide) (by decide) rfl rfl rfl (Nat.le_of_ble_eq_true rfl) (Nat.le_of_ble_eq_true rfl) (Nat.le_of_ble_eq_true rfl) ?_
  refine zq_putR (ρ' := evR_86) dX12_init_22 zf_X12_17 (Or.inr ⟨rfl, _, _, _, rfl, rfl⟩) rfl rfl rfl rfl rfl rfl ?_
  refine zr_aload_n dX12_init_25 rfl rfl ?_
  refine zr_bipush (v := 16) dX12_init_26 (by decide) ?_
  refine zq_newI (n := 88) (a := 87) (n' := 89) (N := 16) (bc' := 51) (bs' := 140304) dX12_init_28 (by decide) (by decide) rfl rfl rfl (Nat.le_of_ble_eq_true rfl) (Nat.le_of_ble_eq_true rfl) (Nat.le_of_ble_eq_true rfl) ?_
  refine zq_putR (ρ' := evR_87) dX12_init_30 zf_X12_20 (Or.inr ⟨rfl, _, _, _, rfl, rfl⟩) rfl rfl rfl rfl rfl rfl ?_
  refine zr_aload_n dX12_init_33 rfl rfl ?_
  refine zr_bipush (v := 16) dX12_init_34 (by decide) ?_
  refine zq_newI (n := 89) (a := 88) (n' := 90) (N := 16) (bc' := 50) (bs' := 140288) dX12_init_36 (by decide) (by decide) rfl rfl rfl (Nat.le_of_ble_eq_true rfl) (Nat.le_of_ble_eq_true rfl) (Nat.le_of_ble_eq_true rfl) ?_
  refine zq_putR (ρ' := evR_88) dX12_init_38 zf_X12_23 (Or.inr ⟨rfl, _, _, _, rfl, rfl⟩) rfl rfl rfl rfl rfl rfl ?_
  refine zr_aload_n dX12_init_41 rfl rfl ?_
  refine zr_bipush (v := 16) dX12_init_42 (by decide) ?_
  refine zq_newI (n := 90) (a := 89) (n' := 91) (N := 16) (bc' := 49) (bs' := 140272) dX12_init_44 (by decide) (by decide) rfl rfl rfl (Nat.le_of_ble_eq_true rfl) (Nat.le_of_ble_eq_true rfl) (Nat.le_of_ble_eq_true rfl) ?_
  refine zq_putR (ρ' := evR_89) dX12_init_46 zf_X12_26 (Or.inr ⟨rfl, _, _, _, rfl, rfl⟩) rfl rfl rfl rfl rfl rfl ?_
  refine zr_aload_n dX12_init_49 rfl rfl ?_
  refine zr_sipush (v := 384) dX12_init_50 (by decide) ?_
  refine zq_newI (n := 91) (a := 90) (n' := 92) (N := 384) (bc' := 48) (bs' := 139888) dX12_init_53 (by decide) (by decide) rfl rfl rfl (Nat.le_of_ble_eq_true rfl) (Nat.le_of_ble_eq_true rfl) (Nat.le_of_ble_eq_true rfl) ?_
  refine zq_putR (ρ' := evR_90) dX12_init_55 zf_X12_29 (Or.inr ⟨rfl, _, _, _, rfl, rfl⟩) rfl rfl rfl rfl rfl rfl ?_
  refine zr_aload_n dX12_init_58 rfl rfl ?_
  refine zr_sipush (v := 384) dX12_init_59 (by decide) ?_
  refine zq_newI (n := 92) (a := 91) (n' := 93) (N := 384) (bc' := 47) (bs' := 139504) dX12_init_62 (by decide) (by decide) rfl rfl rfl (Nat.le_of_ble_eq_true rfl) (Nat.le_of_ble_eq_true rfl) (Nat.le_of_ble_eq_true rfl) ?_
  refine zq_putR (ρ' := evR_91) dX12_init_64 zf_X12_32 (Or.inr ⟨rfl, _, _, _, rfl, rfl⟩) rfl rfl rfl rfl rfl rfl ?_
  refine zr_aload_n dX12_init_67 rfl rfl ?_
  refine zr_bipush (v := 16) dX12_init_68 (by decide) ?_
  refine zq_newI (n := 93) (a := 92) (n' := 94) (N := 16) (bc' := 46) (bs' := 139488) dX12_init_70 (by decide) (by decide) rfl rfl rfl (Nat.le_of_ble_eq_true rfl) (Nat.le_of_ble_eq_true rfl) (Nat.le_of_ble_eq_true rfl) ?_
  refine zq_putR (ρ' := evR_92) dX12_init_72 zf_X12_35 (Or.inr ⟨rfl, _, _, _, rfl, rfl⟩) rfl rfl rfl rfl rfl rfl ?_
  refine zr_aload_n dX12_init_75 rfl rfl ?_
  refine zr_bipush (v := 16) dX12_init_76 (by decide) ?_
  refine zq_newZ (n := 94) (a := 93) (n' := 95) (N := 16) (bc' := 45) (bs' := 139472) dX12_init_78 (by decide) (by decide) rfl rfl rfl (Nat.le_of_ble_eq_true rfl) (Nat.le_of_ble_eq_true rfl) (Nat.le_of_ble_eq_true rfl) ?_
  refine zq_putR (ρ' := evR_93) dX12_init_80 zf_X12_38 (Or.inr ⟨rfl, _, _, _, rfl, rfl⟩) rfl rfl rfl rfl rfl rfl ?_
  refine zr_aload_n dX12_init_83 rfl rfl ?_
  refine zr_bipush (v := 48) dX12_init_84 (by decide) ?_
  refine zq_newI (n := 95) (a := 94) (n' := 96) (N := 48) (bc' := 44) (bs' := 139424) dX12_init_86 (by decide) (by decide) rfl rfl rfl (Nat.le_of_ble_eq_true rfl) (Nat.le_of_ble_eq_true rfl) (Nat.le_of_ble_eq_true rfl) ?_
  refine zq_putR (ρ' := evR_94) dX12_init_88 zf_X12_42 (Or.inr ⟨rfl, _, _, _, rfl, rfl⟩) rfl rfl rfl rfl rfl rfl ?_
  refine zr_aload_n dX12_init_91 rfl rfl ?_
  refine zr_bipush (v := 48) dX12_init_92 (by decide) ?_
  refine zq_newI (n := 96) (a := 95) (n' := 97) (N := 48) (bc' := 43) (bs' := 139376) dX12_init_94 (by decide) (by decide) rfl rfl rfl (Nat.le_of_ble_eq_true rfl) (Nat.le_of_ble_eq_true rfl) (Nat.le_of_ble_eq_true rfl) ?_
  refine zq_putR (ρ' := evR_95) dX12_init_96 zf_X12_45 (Or.inr ⟨rfl, _, _, _, rfl, rfl⟩) rfl rfl rfl rfl rfl rfl ?_
  refine zr_aload_n dX12_init_99 rfl rfl ?_
  refine zr_bipush (v := 48) dX12_init_100 (by decide) ?_
  refine zq_newI (n := 97) (a := 96) (n' := 98) (N := 48) (bc' := 42) (bs' := 139328) dX12_init_102 (by decide) (by decide) rfl rfl rfl (Nat.le_of_ble_eq_true rfl) (Nat.le_of_ble_eq_true rfl) (Nat.le_of_ble_eq_true rfl) ?_
  refine zq_putR (ρ' := evR_96) dX12_init_104 zf_X12_48 (Or.inr ⟨rfl, _, _, _, rfl, rfl⟩) rfl rfl rfl rfl rfl rfl ?_
  refine zr_aload_n dX12_init_107 rfl rfl ?_
  refine zr_bipush (v := 48) dX12_init_108 (by decide) ?_
  refine zq_newI (n := 98) (a := 97) (n' := 99) (N := 48) (bc' := 41) (bs' := 139280) dX12_init_110 (by decide) (by decide) rfl rfl rfl (Nat.le_of_ble_eq_true rfl) (Nat.le_of_ble_eq_true rfl) (Nat.le_of_ble_eq_true rfl) ?_
  refine zq_putR (ρ' := evR_97) dX12_init_112 zf_X12_51 (Or.inr ⟨rfl, _, _, _, rfl, rfl⟩) rfl rfl rfl rfl rfl rfl ?_
  refine zr_aload_n dX12_init_115 rfl rfl ?_
  refine zr_bipush (v := 48) dX12_init_116 (by decide) ?_
  refine zq_newI (n := 99) (a := 98) (n' := 100) (N := 48) (bc' := 40) (bs' := 139232) dX12_init_118 (by decide) (by decide) rfl rfl rfl (Nat.le_of_ble_eq_true rfl) (Nat.le_of_ble_eq_true rfl) (Nat.le_of_ble_eq_true rfl) ?_
  refine zq_putR (ρ' := evR_98) dX12_init_120 zf_X12_54 (Or.inr ⟨rfl, _, _, _, rfl, rfl⟩) rfl rfl rfl rfl rfl rfl ?_
  refine zr_aload_n dX12_init_123 rfl rfl ?_
  refine zr_sipush (v := 200) dX12_init_124 (by decide) ?_
  refine zq_newI (n := 100) (a := 99) (n' := 101) (N := 200) (bc' := 39) (bs' := 139032) dX12_init_127 (by decide) (by decide) rfl rfl rfl (Nat.le_of_ble_eq_true rfl) (Nat.le_of_ble_eq_true rfl) (Nat.le_of_ble_eq_true rfl) ?_
  refine zq_putR (ρ' := evR_99) dX12_init_129 zf_X12_57 (Or.inr ⟨rfl, _, _, _, rfl, rfl⟩) rfl rfl rfl rfl rfl rfl ?_
  refine zr_aload_n dX12_init_132 rfl rfl ?_
  refine zr_sipush (v := 200) dX12_init_133 (by decide) ?_
  refine zq_newI (n := 101) (a := 100) (n' := 102) (N := 200) (bc' := 38) (bs' := 138832) dX12_init_136 (by decide) (by decide) rfl rfl rfl (Nat.le_of_ble_eq_true rfl) (Nat.le_of_ble_eq_true rfl) (Nat.le_of_ble_eq_true rfl) ?_
  refine zq_putR (ρ' := evR_100) dX12_init_138 zf_X12_60 (Or.inr ⟨rfl, _, _, _, rfl, rfl⟩) rfl rfl rfl rfl rfl rfl ?_
  refine zr_aload_n dX12_init_141 rfl rfl ?_
  refine zr_sipush (v := 200) dX12_init_142 (by decide) ?_
  refine zq_newI (n := 102) (a := 101) (n' := 103) (N := 200) (bc' := 37) (bs' := 138632) dX12_init_145 (by decide) (by decide) rfl rfl rfl (Nat.le_of_ble_eq_true rfl) (Nat.le_of_ble_eq_true rfl) (Nat.le_of_ble_eq_true rfl) ?_
  refine zq_putR (ρ' := evR_101) dX12_init_147 zf_X12_63 (Or.inr ⟨rfl, _, _, _, rfl, rfl⟩) rfl rfl rfl rfl rfl rfl ?_
  refine zr_aload_n dX12_init_150 rfl rfl ?_
  refine zr_sipush (v := 200) dX12_init_151 (by decide) ?_
  refine zq_newI (n := 103) (a := 102) (n' := 104) (N := 200) (bc' := 36) (bs' := 138432) dX12_init_154 (by decide) (by decide) rfl rfl rfl (Nat.le_of_ble_eq_true rfl) (Nat.le_of_ble_eq_true rfl) (Nat.le_of_ble_eq_true rfl) ?_
  refine zq_putR (ρ' := evR_102) dX12_init_156 zf_X12_66 (Or.inr ⟨rfl, _, _, _, rfl, rfl⟩) rfl rfl rfl rfl rfl rfl ?_
  refine zr_aload_n dX12_init_159 rfl rfl ?_
  refine zr_sipush (v := 1200) dX12_init_160 (by decide) ?_
  refine zq_newI (n := 104) (a := 103) (n' := 105) (N := 1200) (bc' := 35) (bs' := 137232) dX12_init_163 (by decide) (by decide) rfl rfl rfl (Nat.le_of_ble_eq_true rfl) (Nat.le_of_ble_eq_true rfl) (Nat.le_of_ble_eq_true rfl) ?_
  refine zq_putR (ρ' := evR_103) dX12_init_165 zf_X12_69 (Or.inr ⟨rfl, _, _, _, rfl, rfl⟩) rfl rfl rfl rfl rfl rfl ?_
  refine zr_aload_n dX12_init_168 rfl rfl ?_
  refine zr_sipush (v := 800) dX12_init_169 (by decide) ?_
  refine zq_newI (n := 105) (a := 104) (n' := 106) (N := 800) (bc' := 34) (bs' := 136432) dX12_init_172 (by decide) (by decide) rfl rfl rfl (Nat.le_of_ble_eq_true rfl) (Nat.le_of_ble_eq_true rfl) (Nat.le_of_ble_eq_true rfl) ?_
  refine zq_putR (ρ' := evR_104) dX12_init_174 zf_X12_72 (Or.inr ⟨rfl, _, _, _, rfl, rfl⟩) rfl rfl rfl rfl rfl rfl ?_
  refine zr_aload_n dX12_init_177 rfl rfl ?_
  refine zr_sipush (v := 150) dX12_init_178 (by decide) ?_
  refine zq_newI (n := 106) (a := 105) (n' := 107) (N := 150) (bc' := 33) (bs' := 136282) dX12_init_181 (by decide) (by decide) rfl rfl rfl (Nat.le_of_ble_eq_true rfl) (Nat.le_of_ble_eq_true rfl) (Nat.le_of_ble_eq_true rfl) ?_
  refine zr_dup dX12_init_183 rfl ?_
  refine zr_iconst (v := 0) dX12_init_184 (by decide) ?_
  refine zr_iconst (v := 3) dX12_init_185 (by decide) ?_
  refine zq_iast (N := 150) (k := 0) (ι' := evI_69) dX12_init_186 rfl rfl (zvl (by decide)) (by decide) rfl ?_
  refine zr_dup dX12_init_187 rfl ?_
  refine zr_iconst (v := 1) dX12_init_188 (by decide) ?_
  refine zr_iconst (v := 0) dX12_init_189 (by decide) ?_
  refine zq_iast (N := 150) (k := 1) (ι' := evI_70) dX12_init_190 rfl rfl (zvl (by decide)) (by decide) rfl ?_
  refine zr_dup dX12_init_191 rfl ?_
  refine zr_iconst (v := 2) dX12_init_192 (by decide) ?_
  refine zr_iconst (v := 1) dX12_init_193 (by decide) ?_
  refine zq_iast (N := 150) (k := 2) (ι' := evI_71) dX12_init_194 rfl rfl (zvl (by decide)) (by decide) rfl ?_
  refine zr_dup dX12_init_195 rfl ?_
  refine zr_iconst (v := 3) dX12_init_196 (by decide) ?_
  refine zr_iconst (v := 2) dX12_init_197 (by decide) ?_
  refine zq_iast (N := 150) (k := 3) (ι' := evI_72) dX12_init_198 rfl rfl (zvl (by decide)) (by decide) rfl ?_
  refine zr_dup dX12_init_199 rfl ?_
  refine zr_iconst (v := 4) dX12_init_200 (by decide) ?_
  refine zr_bipush (v := 60) dX12_init_201 (by decide) ?_
  refine zq_iast (N := 150) (k := 4) (ι' := evI_73) dX12_init_203 rfl rfl (zvl (by decide)) (by decide) rfl ?_
  refine zr_dup dX12_init_204 rfl ?_
  refine zr_iconst (v := 5) dX12_init_205 (by decide) ?_
  refine zr_iconst (v := 1) dX12_init_206 (by decide) ?_
  refine zq_iast (N := 150) (k := 5) (ι' := evI_74) dX12_init_207 rfl rfl (zvl (by decide)) (by decide) rfl ?_
  refine zr_dup dX12_init_208 rfl ?_
  refine zr_bipush (v := 6) dX12_init_209 (by decide) ?_
  refine zr_bipush (v := 10) dX12_init_211 (by decide) ?_
  refine zq_iast (N := 150) (k := 6) (ι' := evI_75) dX12_init_213 rfl rfl (zvl (by decide)) (by decide) rfl ?_
  refine zr_dup dX12_init_214 rfl ?_
  refine zr_bipush (v := 7) dX12_init_215 (by decide) ?_
  refine zr_bipush (v := 30) dX12_init_217 (by decide) ?_
  refine zq_iast (N := 150) (k := 7) (ι' := evI_76) dX12_init_219 rfl rfl (zvl (by decide)) (by decide) rfl ?_
  refine zr_dup dX12_init_220 rfl ?_
  refine zr_bipush (v := 8) dX12_init_221 (by decide) ?_
  refine zr_iconst (v := 2) dX12_init_223 (by decide) ?_
  refine zq_iast (N := 150) (k := 8) (ι' := evI_77) dX12_init_224 rfl rfl (zvl (by decide)) (by decide) rfl ?_
  refine zr_dup dX12_init_225 rfl ?_
  refine zr_bipush (v := 9) dX12_init_226 (by decide) ?_
  refine zr_iconst (v := 0) dX12_init_228 (by decide) ?_
  refine zq_iast (N := 150) (k := 9) (ι' := evI_78) dX12_init_229 rfl rfl (zvl (by decide)) (by decide) rfl ?_
  refine zr_dup dX12_init_230 rfl ?_
  refine zr_bipush (v := 10) dX12_init_231 (by decide) ?_
  refine zr_iconst (v := 0) dX12_init_233 (by decide) ?_
  refine zq_iast (N := 150) (k := 10) (ι' := evI_79) dX12_init_234 rfl rfl (zvl (by decide)) (by decide) rfl ?_
  refine zr_dup dX12_init_235 rfl ?_
  refine zr_bipush (v := 11) dX12_init_236 (by decide) ?_
  refine zr_iconst (v := 0) dX12_init_238 (by decide) ?_
  refine zq_iast (N := 150) (k := 11) (ι' := evI_80) dX12_init_239 rfl rfl (zvl (by decide)) (by decide) rfl ?_
  refine zr_dup dX12_init_240 rfl ?_
  refine zr_bipush (v := 12) dX12_init_241 (by decide) ?_
  refine zr_iconst (v := 0) dX12_init_243 (by decide) ?_
  refine zq_iast (N := 150) (k := 12) (ι' := evI_81) dX12_init_244 rfl rfl (zvl (by decide)) (by decide) rfl ?_
  refine zr_dup dX12_init_245 rfl ?_
  refine zr_bipush (v := 13) dX12_init_246 (by decide) ?_
  refine zr_iconst (v := 0) dX12_init_248 (by decide) ?_
  refine zq_iast (N := 150) (k := 13) (ι' := evI_82) dX12_init_249 rfl rfl (zvl (by decide)) (by decide) rfl ?_
  refine zr_dup dX12_init_250 rfl ?_
  refine zr_bipush (v := 14) dX12_init_251 (by decide) ?_
  refine zr_iconst (v := 0) dX12_init_253 (by decide) ?_
  refine zq_iast (N := 150) (k := 14) (ι' := evI_83) dX12_init_254 rfl rfl (zvl (by decide)) (by decide) rfl ?_
  refine zr_dup dX12_init_255 rfl ?_
  refine zr_bipush (v := 15) dX12_init_256 (by decide) ?_
  refine zr_iconst (v := 0) dX12_init_258 (by decide) ?_
  refine zq_iast (N := 150) (k := 15) (ι' := evI_84) dX12_init_259 rfl rfl (zvl (by decide)) (by decide) rfl ?_
  refine zr_dup dX12_init_260 rfl ?_
  refine zr_bipush (v := 16) dX12_init_261 (by decide) ?_
  refine zr_iconst (v := 0) dX12_init_263 (by decide) ?_
  refine zq_iast (N := 150) (k := 16) (ι' := evI_85) dX12_init_264 rfl rfl (zvl (by decide)) (by decide) rfl ?_
  refine zr_dup dX12_init_265 rfl ?_
  refine zr_bipush (v := 17) dX12_init_266 (by decide) ?_
  refine zr_iconst (v := 0) dX12_init_268 (by decide) ?_
  refine zq_iast (N := 150) (k := 17) (ι' := evI_86) dX12_init_269 rfl rfl (zvl (by decide)) (by decide) rfl ?_
  refine zr_dup dX12_init_270 rfl ?_
  refine zr_bipush (v := 18) dX12_init_271 (by decide) ?_
  refine zr_iconst (v := 0) dX12_init_273 (by decide) ?_
  refine zq_iast (N := 150) (k := 18) (ι' := evI_87) dX12_init_274 rfl rfl (zvl (by decide)) (by decide) rfl ?_
  refine zr_dup dX12_init_275 rfl ?_
  refine zr_bipush (v := 19) dX12_init_276 (by decide) ?_
  refine zr_iconst (v := 0) dX12_init_278 (by decide) ?_
  refine zq_iast (N := 150) (k := 19) (ι' := evI_88) dX12_init_279 rfl rfl (zvl (by decide)) (by decide) rfl ?_
  refine zr_dup dX12_init_280 rfl ?_
  refine zr_bipush (v := 20) dX12_init_281 (by decide) ?_
  refine zr_iconst (v := 0) dX12_init_283 (by decide) ?_
  refine zq_iast (N := 150) (k := 20) (ι' := evI_89) dX12_init_284 rfl rfl (zvl (by decide)) (by decide) rfl ?_
  refine zr_dup dX12_init_285 rfl ?_
  refine zr_bipush (v := 21) dX12_init_286 (by decide) ?_
  refine zr_iconst (v := 0) dX12_init_288 (by decide) ?_
  refine zq_iast (N := 150) (k := 21) (ι' := evI_90) dX12_init_289 rfl rfl (zvl (by decide)) (by decide) rfl ?_
  refine zr_dup dX12_init_290 rfl ?_
  refine zr_bipush (v := 22) dX12_init_291 (by decide) ?_
  refine zr_iconst (v := 0) dX12_init_293 (by decide) ?_
  refine zq_iast (N := 150) (k := 22) (ι' := evI_91) dX12_init_294 rfl rfl (zvl (by decide)) (by decide) rfl ?_
  refine zr_dup dX12_init_295 rfl ?_
  refine zr_bipush (v := 23) dX12_init_296 (by decide) ?_
  refine zr_iconst (v := 0) dX12_init_298 (by decide) ?_
  refine zq_iast (N := 150) (k := 23) (ι' := evI_92) dX12_init_299 rfl rfl (zvl (by decide)) (by decide) rfl ?_
  refine zr_dup dX12_init_300 rfl ?_
  refine zr_bipush (v := 24) dX12_init_301 (by decide) ?_
  refine zr_iconst (v := 0) dX12_init_303 (by decide) ?_
  refine zq_iast (N := 150) (k := 24) (ι' := evI_93) dX12_init_304 rfl rfl (zvl (by decide)) (by decide) rfl ?_
  refine zr_dup dX12_init_305 rfl ?_
  refine zr_bipush (v := 25) dX12_init_306 (by decide) ?_
  refine zr_iconst (v := 0) dX12_init_308 (by decide) ?_
  refine zq_iast (N := 150) (k := 25) (ι' := evI_94) dX12_init_309 rfl rfl (zvl (by decide)) (by decide) rfl ?_
  refine zr_dup dX12_init_310 rfl ?_
  refine zr_bipush (v := 26) dX12_init_311 (by decide) ?_
  refine zr_iconst (v := 0) dX12_init_313 (by decide) ?_
  refine zq_iast (N := 150) (k := 26) (ι' := evI_95) dX12_init_314 rfl rfl (zvl (by decide)) (by decide) rfl ?_
  refine zr_dup dX12_init_315 rfl ?_
  refine zr_bipush (v := 27) dX12_init_316 (by decide) ?_
  refine zr_iconst (v := 0) dX12_init_318 (by decide) ?_
  refine zq_iast (N := 150) (k := 27) (ι' := evI_96) dX12_init_319 rfl rfl (zvl (by decide)) (by decide) rfl ?_
  refine zr_dup dX12_init_320 rfl ?_
  refine zr_bipush (v := 28) dX12_init_321 (by decide) ?_
  refine zr_iconst (v := 0) dX12_init_323 (by decide) ?_
  refine zq_iast (N := 150) (k := 28) (ι' := evI_97) dX12_init_324 rfl rfl (zvl (by decide)) (by decide) rfl ?_
  refine zr_dup dX12_init_325 rfl ?_
  refine zr_bipush (v := 29) dX12_init_326 (by decide) ?_
  refine zr_iconst (v := 0) dX12_init_328 (by decide) ?_
  refine zq_iast (N := 150) (k := 29) (ι' := evI_98) dX12_init_329 rfl rfl (zvl (by decide)) (by decide) rfl ?_
  refine zr_dup dX12_init_330 rfl ?_
  refine zr_bipush (v := 30) dX12_init_331 (by decide) ?_
  refine zr_iconst (v := 0) dX12_init_333 (by decide) ?_
  refine zq_iast (N := 150) (k := 30) (ι' := evI_99) dX12_init_334 rfl rfl (zvl (by decide)) (by decide) rfl ?_
  refine zr_dup dX12_init_335 rfl ?_
  refine zr_bipush (v := 31) dX12_init_336 (by decide) ?_
  refine zr_iconst (v := 0) dX12_init_338 (by decide) ?_
  refine zq_iast (N := 150) (k := 31) (ι' := evI_100) dX12_init_339 rfl rfl (zvl (by decide)) (by decide) rfl ?_
  refine zr_dup dX12_init_340 rfl ?_
  refine zr_bipush (v := 32) dX12_init_341 (by decide) ?_
  refine zr_iconst (v := 0) dX12_init_343 (by decide) ?_
  refine zq_iast (N := 150) (k := 32) (ι' := evI_101) dX12_init_344 rfl rfl (zvl (by decide)) (by decide) rfl ?_
  refine zr_dup dX12_init_345 rfl ?_
  refine zr_bipush (v := 33) dX12_init_346 (by decide) ?_
  refine zr_iconst (v := 0) dX12_init_348 (by decide) ?_
  refine zq_iast (N := 150) (k := 33) (ι' := evI_102) dX12_init_349 rfl rfl (zvl (by decide)) (by decide) rfl ?_
  refine zr_dup dX12_init_350 rfl ?_
  refine zr_bipush (v := 34) dX12_init_351 (by decide) ?_
  refine zr_iconst (v := 0) dX12_init_353 (by decide) ?_
  refine zq_iast (N := 150) (k := 34) (ι' := evI_103) dX12_init_354 rfl rfl (zvl (by decide)) (by decide) rfl ?_
  refine zr_dup dX12_init_355 rfl ?_
  refine zr_bipush (v := 35) dX12_init_356 (by decide) ?_
  refine zr_iconst (v := 0) dX12_init_358 (by decide) ?_
  refine zq_iast (N := 150) (k := 35) (ι' := evI_104) dX12_init_359 rfl rfl (zvl (by decide)) (by decide) rfl ?_
  refine zr_dup dX12_init_360 rfl ?_
  refine zr_bipush (v := 36) dX12_init_361 (by decide) ?_
  refine zr_iconst (v := 0) dX12_init_363 (by decide) ?_
  refine zq_iast (N := 150) (k := 36) (ι' := evI_105) dX12_init_364 rfl rfl (zvl (by decide)) (by decide) rfl ?_
  refine zr_dup dX12_init_365 rfl ?_
  refine zr_bipush (v := 37) dX12_init_366 (by decide) ?_
  refine zr_iconst (v := 0) dX12_init_368 (by decide) ?_
  refine zq_iast (N := 150) (k := 37) (ι' := evI_106) dX12_init_369 rfl rfl (zvl (by decide)) (by decide) rfl ?_
  refine zr_dup dX12_init_370 rfl ?_
  refine zr_bipush (v := 38) dX12_init_371 (by decide) ?_
  refine zr_iconst (v := 0) dX12_init_373 (by decide) ?_
  refine zq_iast (N := 150) (k := 38) (ι' := evI_107) dX12_init_374 rfl rfl (zvl (by decide)) (by decide) rfl ?_
  refine zr_dup dX12_init_375 rfl ?_
  refine zr_bipush (v := 39) dX12_init_376 (by decide) ?_
  refine zr_iconst (v := 0) dX12_init_378 (by decide) ?_
  refine zq_iast (N := 150) (k := 39) (ι' := evI_108) dX12_init_379 rfl rfl (zvl (by decide)) (by decide) rfl ?_
  refine zr_dup dX12_init_380 rfl ?_
  refine zr_bipush (v := 40) dX12_init_381 (by decide) ?_
  refine zr_iconst (v := 0) dX12_init_383 (by decide) ?_
  refine zq_iast (N := 150) (k := 40) (ι' := evI_109) dX12_init_384 rfl rfl (zvl (by decide)) (by decide) rfl ?_
  refine zr_dup dX12_init_385 rfl ?_
  refine zr_bipush (v := 41) dX12_init_386 (by decide) ?_
  refine zr_iconst (v := 0) dX12_init_388 (by decide) ?_
  refine zq_iast (N := 150) (k := 41) (ι' := evI_110) dX12_init_389 rfl rfl (zvl (by decide)) (by decide) rfl ?_
  refine zr_dup dX12_init_390 rfl ?_
  refine zr_bipush (v := 42) dX12_init_391 (by decide) ?_
  refine zr_iconst (v := 0) dX12_init_393 (by decide) ?_
  refine zq_iast (N := 150) (k := 42) (ι' := evI_111) dX12_init_394 rfl rfl (zvl (by decide)) (by decide) rfl ?_
  refine zr_dup dX12_init_395 rfl ?_
  refine zr_bipush (v := 43) dX12_init_396 (by decide) ?_
  refine zr_iconst (v := 0) dX12_init_398 (by decide) ?_
  refine zq_iast (N := 150) (k := 43) (ι' := evI_112) dX12_init_399 rfl rfl (zvl (by decide)) (by decide) rfl ?_
  refine zr_dup dX12_init_400 rfl ?_
  refine zr_bipush (v := 44) dX12_init_401 (by decide) ?_
  refine zr_iconst (v := 0) dX12_init_403 (by decide) ?_
  refine zq_iast (N := 150) (k := 44) (ι' := evI_113) dX12_init_404 rfl rfl (zvl (by decide)) (by decide) rfl ?_
  refine zr_dup dX12_init_405 rfl ?_
  refine zr_bipush (v := 45) dX12_init_406 (by decide) ?_
  refine zr_iconst (v := 0) dX12_init_408 (by decide) ?_
  refine zq_iast (N := 150) (k := 45) (ι' := evI_114) dX12_init_409 rfl rfl (zvl (by decide)) (by decide) rfl ?_
  refine zr_dup dX12_init_410 rfl ?_
  refine zr_bipush (v := 46) dX12_init_411 (by decide) ?_
  refine zr_iconst (v := 0) dX12_init_413 (by decide) ?_
  refine zq_iast (N := 150) (k := 46) (ι' := evI_115) dX12_init_414 rfl rfl (zvl (by decide)) (by decide) rfl ?_
  refine zr_dup dX12_init_415 rfl ?_
  refine zr_bipush (v := 47) dX12_init_416 (by decide) ?_
  refine zr_iconst (v := 0) dX12_init_418 (by decide) ?_
  refine zq_iast (N := 150) (k := 47) (ι' := evI_116) dX12_init_419 rfl rfl (zvl (by decide)) (by decide) rfl ?_
  refine zr_dup dX12_init_420 rfl ?_
  refine zr_bipush (v := 48) dX12_init_421 (by decide) ?_
  refine zr_iconst (v := 0) dX12_init_423 (by decide) ?_
  refine zq_iast (N := 150) (k := 48) (ι' := evI_117) dX12_init_424 rfl rfl (zvl (by decide)) (by decide) rfl ?_
  refine zr_dup dX12_init_425 rfl ?_
  refine zr_bipush (v := 49) dX12_init_426 (by decide) ?_
  refine zr_iconst (v := 0) dX12_init_428 (by decide) ?_
  refine zq_iast (N := 150) (k := 49) (ι' := evI_118) dX12_init_429 rfl rfl (zvl (by decide)) (by decide) rfl ?_
  refine zr_dup dX12_init_430 rfl ?_
  refine zr_bipush (v := 50) dX12_init_431 (by decide) ?_
  refine zr_iconst (v := 3) dX12_init_433 (by decide) ?_
  refine zq_iast (N := 150) (k := 50) (ι' := evI_119) dX12_init_434 rfl rfl (zvl (by decide)) (by decide) rfl ?_
  refine zr_dup dX12_init_435 rfl ?_
  refine zr_bipush (v := 51) dX12_init_436 (by decide) ?_
  refine zr_iconst (v := 0) dX12_init_438 (by decide) ?_
  refine zq_iast (N := 150) (k := 51) (ι' := evI_120) dX12_init_439 rfl rfl (zvl (by decide)) (by decide) rfl ?_
  refine zr_dup dX12_init_440 rfl ?_
  refine zr_bipush (v := 52) dX12_init_441 (by decide) ?_
  refine zr_iconst (v := 1) dX12_init_443 (by decide) ?_
  refine zq_iast (N := 150) (k := 52) (ι' := evI_121) dX12_init_444 rfl rfl (zvl (by decide)) (by decide) rfl ?_
  refine zr_dup dX12_init_445 rfl ?_
  refine zr_bipush (v := 53) dX12_init_446 (by decide) ?_
  refine zr_iconst (v := 2) dX12_init_448 (by decide) ?_
  refine zq_iast (N := 150) (k := 53) (ι' := evI_122) dX12_init_449 rfl rfl (zvl (by decide)) (by decide) rfl ?_
  refine zr_dup dX12_init_450 rfl ?_
  refine zr_bipush (v := 54) dX12_init_451 (by decide) ?_
  refine zr_bipush (v := 60) dX12_init_453 (by decide) ?_
  refine zq_iast (N := 150) (k := 54) (ι' := evI_123) dX12_init_455 rfl rfl (zvl (by decide)) (by decide) rfl ?_
  refine zr_dup dX12_init_456 rfl ?_
  refine zr_bipush (v := 55) dX12_init_457 (by decide) ?_
  refine zr_iconst (v := 1) dX12_init_459 (by decide) ?_
  refine zq_iast (N := 150) (k := 55) (ι' := evI_124) dX12_init_460 rfl rfl (zvl (by decide)) (by decide) rfl ?_
  refine zr_dup dX12_init_461 rfl ?_
  refine zr_bipush (v := 56) dX12_init_462 (by decide) ?_
  refine zr_bipush (v := 10) dX12_init_464 (by decide) ?_
  refine zq_iast (N := 150) (k := 56) (ι' := evI_125) dX12_init_466 rfl rfl (zvl (by decide)) (by decide) rfl ?_
  refine zr_dup dX12_init_467 rfl ?_
  refine zr_bipush (v := 57) dX12_init_468 (by decide) ?_
  refine zr_bipush (v := 30) dX12_init_470 (by decide) ?_
  refine zq_iast (N := 150) (k := 57) (ι' := evI_126) dX12_init_472 rfl rfl (zvl (by decide)) (by decide) rfl ?_
  refine zr_dup dX12_init_473 rfl ?_
  refine zr_bipush (v := 58) dX12_init_474 (by decide) ?_
  refine zr_iconst (v := 2) dX12_init_476 (by decide) ?_
  refine zq_iast (N := 150) (k := 58) (ι' := evI_127) dX12_init_477 rfl rfl (zvl (by decide)) (by decide) rfl ?_
  refine zr_dup dX12_init_478 rfl ?_
  refine zr_bipush (v := 59) dX12_init_479 (by decide) ?_
  refine zr_iconst (v := 0) dX12_init_481 (by decide) ?_
  refine zq_iast (N := 150) (k := 59) (ι' := evI_128) dX12_init_482 rfl rfl (zvl (by decide)) (by decide) rfl ?_
  refine zr_dup dX12_init_483 rfl ?_
  refine zr_bipush (v := 60) dX12_init_484 (by decide) ?_
  refine zr_iconst (v := 0) dX12_init_486 (by decide) ?_
  refine zq_iast (N := 150) (k := 60) (ι' := evI_129) dX12_init_487 rfl rfl (zvl (by decide)) (by decide) rfl ?_
  refine zr_dup dX12_init_488 rfl ?_
  refine zr_bipush (v := 61) dX12_init_489 (by decide) ?_
  refine zr_iconst (v := 0) dX12_init_491 (by decide) ?_
  refine zq_iast (N := 150) (k := 61) (ι' := evI_130) dX12_init_492 rfl rfl (zvl (by decide)) (by decide) rfl ?_
  refine zr_dup dX12_init_493 rfl ?_
  refine zr_bipush (v := 62) dX12_init_494 (by decide) ?_
  refine zr_iconst (v := 0) dX12_init_496 (by decide) ?_
  refine zq_iast (N := 150) (k := 62) (ι' := evI_131) dX12_init_497 rfl rfl (zvl (by decide)) (by decide) rfl ?_
  refine zr_dup dX12_init_498 rfl ?_
  refine zr_bipush (v := 63) dX12_init_499 (by decide) ?_
  refine zr_iconst (v := 0) dX12_init_501 (by decide) ?_
  refine zq_iast (N := 150) (k := 63) (ι' := evI_132) dX12_init_502 rfl rfl (zvl (by decide)) (by decide) rfl ?_
  refine zr_dup dX12_init_503 rfl ?_
  refine zr_bipush (v := 64) dX12_init_504 (by decide) ?_
  refine zr_iconst (v := 0) dX12_init_506 (by decide) ?_
  refine zq_iast (N := 150) (k := 64) (ι' := evI_133) dX12_init_507 rfl rfl (zvl (by decide)) (by decide) rfl ?_
  refine zr_dup dX12_init_508 rfl ?_
  refine zr_bipush (v := 65) dX12_init_509 (by decide) ?_
  refine zr_iconst (v := 0) dX12_init_511 (by decide) ?_
  refine zq_iast (N := 150) (k := 65) (ι' := evI_134) dX12_init_512 rfl rfl (zvl (by decide)) (by decide) rfl ?_
  refine zr_dup dX12_init_513 rfl ?_
  refine zr_bipush (v := 66) dX12_init_514 (by decide) ?_
  refine zr_iconst (v := 0) dX12_init_516 (by decide) ?_
  refine zq_iast (N := 150) (k := 66) (ι' := evI_135) dX12_init_517 rfl rfl (zvl (by decide)) (by decide) rfl ?_
  refine zr_dup dX12_init_518 rfl ?_
  refine zr_bipush (v := 67) dX12_init_519 (by decide) ?_
  refine zr_iconst (v := 0) dX12_init_521 (by decide) ?_
  refine zq_iast (N := 150) (k := 67) (ι' := evI_136) dX12_init_522 rfl rfl (zvl (by decide)) (by decide) rfl ?_
  refine zr_dup dX12_init_523 rfl ?_
  refine zr_bipush (v := 68) dX12_init_524 (by decide) ?_
  refine zr_iconst (v := 0) dX12_init_526 (by decide) ?_
  refine zq_iast (N := 150) (k := 68) (ι' := evI_137) dX12_init_527 rfl rfl (zvl (by decide)) (by decide) rfl ?_
  refine zr_dup dX12_init_528 rfl ?_
  refine zr_bipush (v := 69) dX12_init_529 (by decide) ?_
  refine zr_iconst (v := 0) dX12_init_531 (by decide) ?_
  refine zq_iast (N := 150) (k := 69) (ι' := evI_138) dX12_init_532 rfl rfl (zvl (by decide)) (by decide) rfl ?_
  refine zr_dup dX12_init_533 rfl ?_
  refine zr_bipush (v := 70) dX12_init_534 (by decide) ?_
  refine zr_iconst (v := 0) dX12_init_536 (by decide) ?_
  refine zq_iast (N := 150) (k := 70) (ι' := evI_139) dX12_init_537 rfl rfl (zvl (by decide)) (by decide) rfl ?_
  refine zr_dup dX12_init_538 rfl ?_
  refine zr_bipush (v := 71) dX12_init_539 (by decide) ?_
  refine zr_iconst (v := 0) dX12_init_541 (by decide) ?_
  refine zq_iast (N := 150) (k := 71) (ι' := evI_140) dX12_init_542 rfl rfl (zvl (by decide)) (by decide) rfl ?_
  refine zr_dup dX12_init_543 rfl ?_
  refine zr_bipush (v := 72) dX12_init_544 (by decide) ?_
  refine zr_iconst (v := 0) dX12_init_546 (by decide) ?_
  refine zq_iast (N := 150) (k := 72) (ι' := evI_141) dX12_init_547 rfl rfl (zvl (by decide)) (by decide) rfl ?_
  refine zr_dup dX12_init_548 rfl ?_
  refine zr_bipush (v := 73) dX12_init_549 (by decide) ?_
  refine zr_iconst (v := 0) dX12_init_551 (by decide) ?_
  refine zq_iast (N := 150) (k := 73) (ι' := evI_142) dX12_init_552 rfl rfl (zvl (by decide)) (by decide) rfl ?_
  refine zr_dup dX12_init_553 rfl ?_
  refine zr_bipush (v := 74) dX12_init_554 (by decide) ?_
  refine zr_iconst (v := 0) dX12_init_556 (by decide) ?_
  refine zq_iast (N := 150) (k := 74) (ι' := evI_143) dX12_init_557 rfl rfl (zvl (by decide)) (by decide) rfl ?_
  refine zr_dup dX12_init_558 rfl ?_
  refine zr_bipush (v := 75) dX12_init_559 (by decide) ?_
  refine zr_iconst (v := 0) dX12_init_561 (by decide) ?_
  refine zq_iast (N := 150) (k := 75) (ι' := evI_144) dX12_init_562 rfl rfl (zvl (by decide)) (by decide) rfl ?_
  refine zr_dup dX12_init_563 rfl ?_
  refine zr_bipush (v := 76) dX12_init_564 (by decide) ?_
  refine zr_iconst (v := 0) dX12_init_566 (by decide) ?_
  refine zq_iast (N := 150) (k := 76) (ι' := evI_145) dX12_init_567 rfl rfl (zvl (by decide)) (by decide) rfl ?_
  refine zr_dup dX12_init_568 rfl ?_
  refine zr_bipush (v := 77) dX12_init_569 (by decide) ?_
  refine zr_iconst (v := 0) dX12_init_571 (by decide) ?_
  refine zq_iast (N := 150) (k := 77) (ι' := evI_146) dX12_init_572 rfl rfl (zvl (by decide)) (by decide) rfl ?_
  refine zr_dup dX12_init_573 rfl ?_
  refine zr_bipush (v := 78) dX12_init_574 (by decide) ?_
  refine zr_iconst (v := 0) dX12_init_576 (by decide) ?_
  refine zq_iast (N := 150) (k := 78) (ι' := evI_147) dX12_init_577 rfl rfl (zvl (by decide)) (by decide) rfl ?_
  refine zr_dup dX12_init_578 rfl ?_
  refine zr_bipush (v := 79) dX12_init_579 (by decide) ?_
  refine zr_iconst (v := 0) dX12_init_581 (by decide) ?_
  refine zq_iast (N := 150) (k := 79) (ι' := evI_148) dX12_init_582 rfl rfl (zvl (by decide)) (by decide) rfl ?_
  refine zr_dup dX12_init_583 rfl ?_
  refine zr_bipush (v := 80) dX12_init_584 (by decide) ?_
  refine zr_iconst (v := 0) dX12_init_586 (by decide) ?_
  refine zq_iast (N := 150) (k := 80) (ι' := evI_149) dX12_init_587 rfl rfl (zvl (by decide)) (by decide) rfl ?_
  refine zr_dup dX12_init_588 rfl ?_
  refine zr_bipush (v := 81) dX12_init_589 (by decide) ?_
  refine zr_iconst (v := 0) dX12_init_591 (by decide) ?_
  refine zq_iast (N := 150) (k := 81) (ι' := evI_150) dX12_init_592 rfl rfl (zvl (by decide)) (by decide) rfl ?_
  refine zr_dup dX12_init_593 rfl ?_
  refine zr_bipush (v := 82) dX12_init_594 (by decide) ?_
  refine zr_iconst (v := 0) dX12_init_596 (by decide) ?_
  refine zq_iast (N := 150) (k := 82) (ι' := evI_151) dX12_init_597 rfl rfl (zvl (by decide)) (by decide) rfl ?_
  refine zr_dup dX12_init_598 rfl ?_
  refine zr_bipush (v := 83) dX12_init_599 (by decide) ?_
  refine zr_iconst (v := 0) dX12_init_601 (by decide) ?_
  refine zq_iast (N := 150) (k := 83) (ι' := evI_152) dX12_init_602 rfl rfl (zvl (by decide)) (by decide) rfl ?_
  refine zr_dup dX12_init_603 rfl ?_
  refine zr_bipush (v := 84) dX12_init_604 (by decide) ?_
  refine zr_iconst (v := 0) dX12_init_606 (by decide) ?_
  refine zq_iast (N := 150) (k := 84) (ι' := evI_153) dX12_init_607 rfl rfl (zvl (by decide)) (by decide) rfl ?_
  refine zr_dup dX12_init_608 rfl ?_
  refine zr_bipush (v := 85) dX12_init_609 (by decide) ?_
  refine zr_iconst (v := 0) dX12_init_611 (by decide) ?_
  refine zq_iast (N := 150) (k := 85) (ι' := evI_154) dX12_init_612 rfl rfl (zvl (by decide)) (by decide) rfl ?_
  refine zr_dup dX12_init_613 rfl ?_
  refine zr_bipush (v := 86) dX12_init_614 (by decide) ?_
  refine zr_iconst (v := 0) dX12_init_616 (by decide) ?_
  refine zq_iast (N := 150) (k := 86) (ι' := evI_155) dX12_init_617 rfl rfl (zvl (by decide)) (by decide) rfl ?_
  refine zr_dup dX12_init_618 rfl ?_
  refine zr_bipush (v := 87) dX12_init_619 (by decide) ?_
  refine zr_iconst (v := 0) dX12_init_621 (by decide) ?_
  refine zq_iast (N := 150) (k := 87) (ι' := evI_156) dX12_init_622 rfl rfl (zvl (by decide)) (by decide) rfl ?_
  refine zr_dup dX12_init_623 rfl ?_
  refine zr_bipush (v := 88) dX12_init_624 (by decide) ?_
  refine zr_iconst (v := 0) dX12_init_626 (by decide) ?_
  refine zq_iast (N := 150) (k := 88) (ι' := evI_157) dX12_init_627 rfl rfl (zvl (by decide)) (by decide) rfl ?_
  refine zr_dup dX12_init_628 rfl ?_
  refine zr_bipush (v := 89) dX12_init_629 (by decide) ?_
  refine zr_iconst (v := 0) dX12_init_631 (by decide) ?_
  refine zq_iast (N := 150) (k := 89) (ι' := evI_158) dX12_init_632 rfl rfl (zvl (by decide)) (by decide) rfl ?_
  refine zr_dup dX12_init_633 rfl ?_
  refine zr_bipush (v := 90) dX12_init_634 (by decide) ?_
  refine zr_iconst (v := 0) dX12_init_636 (by decide) ?_
  refine zq_iast (N := 150) (k := 90) (ι' := evI_159) dX12_init_637 rfl rfl (zvl (by decide)) (by decide) rfl ?_
  refine zr_dup dX12_init_638 rfl ?_
  refine zr_bipush (v := 91) dX12_init_639 (by decide) ?_
  refine zr_iconst (v := 0) dX12_init_641 (by decide) ?_
  refine zq_iast (N := 150) (k := 91) (ι' := evI_160) dX12_init_642 rfl rfl (zvl (by decide)) (by decide) rfl ?_
  refine zr_dup dX12_init_643 rfl ?_
  refine zr_bipush (v := 92) dX12_init_644 (by decide) ?_
  refine zr_iconst (v := 0) dX12_init_646 (by decide) ?_
  refine zq_iast (N := 150) (k := 92) (ι' := evI_161) dX12_init_647 rfl rfl (zvl (by decide)) (by decide) rfl ?_
  refine zr_dup dX12_init_648 rfl ?_
  refine zr_bipush (v := 93) dX12_init_649 (by decide) ?_
  refine zr_iconst (v := 0) dX12_init_651 (by decide) ?_
  refine zq_iast (N := 150) (k := 93) (ι' := evI_162) dX12_init_652 rfl rfl (zvl (by decide)) (by decide) rfl ?_
  refine zr_dup dX12_init_653 rfl ?_
  refine zr_bipush (v := 94) dX12_init_654 (by decide) ?_
  refine zr_iconst (v := 0) dX12_init_656 (by decide) ?_
  refine zq_iast (N := 150) (k := 94) (ι' := evI_163) dX12_init_657 rfl rfl (zvl (by decide)) (by decide) rfl ?_
  refine zr_dup dX12_init_658 rfl ?_
  refine zr_bipush (v := 95) dX12_init_659 (by decide) ?_
  refine zr_iconst (v := 0) dX12_init_661 (by decide) ?_
  refine zq_iast (N := 150) (k := 95) (ι' := evI_164) dX12_init_662 rfl rfl (zvl (by decide)) (by decide) rfl ?_
  refine zr_dup dX12_init_663 rfl ?_
  refine zr_bipush (v := 96) dX12_init_664 (by decide) ?_
  refine zr_iconst (v := 0) dX12_init_666 (by decide) ?_
  refine zq_iast (N := 150) (k := 96) (ι' := evI_165) dX12_init_667 rfl rfl (zvl (by decide)) (by decide) rfl ?_
  refine zr_dup dX12_init_668 rfl ?_
  refine zr_bipush (v := 97) dX12_init_669 (by decide) ?_
  refine zr_iconst (v := 0) dX12_init_671 (by decide) ?_
  refine zq_iast (N := 150) (k := 97) (ι' := evI_166) dX12_init_672 rfl rfl (zvl (by decide)) (by decide) rfl ?_
  refine zr_dup dX12_init_673 rfl ?_
  refine zr_bipush (v := 98) dX12_init_674 (by decide) ?_
  refine zr_iconst (v := 0) dX12_init_676 (by decide) ?_
  refine zq_iast (N := 150) (k := 98) (ι' := evI_167) dX12_init_677 rfl rfl (zvl (by decide)) (by decide) rfl ?_
  refine zr_dup dX12_init_678 rfl ?_
  refine zr_bipush (v := 99) dX12_init_679 (by decide) ?_
  refine zr_iconst (v := 0) dX12_init_681 (by decide) ?_
  refine zq_iast (N := 150) (k := 99) (ι' := evI_168) dX12_init_682 rfl rfl (zvl (by decide)) (by decide) rfl ?_
  refine zr_dup dX12_init_683 rfl ?_
  refine zr_bipush (v := 100) dX12_init_684 (by decide) ?_
  refine zr_iconst (v := 0) dX12_init_686 (by decide) ?_
  refine zq_iast (N := 150) (k := 100) (ι' := evI_169) dX12_init_687 rfl rfl (zvl (by decide)) (by decide) rfl ?_
  refine zr_dup dX12_init_688 rfl ?_
  refine zr_bipush (v := 101) dX12_init_689 (by decide) ?_
  refine zr_iconst (v := 0) dX12_init_691 (by decide) ?_
  refine zq_iast (N := 150) (k := 101) (ι' := evI_170) dX12_init_692 rfl rfl (zvl (by decide)) (by decide) rfl ?_
  refine zr_dup dX12_init_693 rfl ?_
  refine zr_bipush (v := 102) dX12_init_694 (by decide) ?_
  refine zr_iconst (v := 0) dX12_init_696 (by decide) ?_
  refine zq_iast (N := 150) (k := 102) (ι' := evI_171) dX12_init_697 rfl rfl (zvl (by decide)) (by decide) rfl ?_
  refine zr_dup dX12_init_698 rfl ?_
  refine zr_bipush (v := 103) dX12_init_699 (by decide) ?_
  refine zr_iconst (v := 0) dX12_init_701 (by decide) ?_
  refine zq_iast (N := 150) (k := 103) (ι' := evI_172) dX12_init_702 rfl rfl (zvl (by decide)) (by decide) rfl ?_
  refine zr_dup dX12_init_703 rfl ?_
  refine zr_bipush (v := 104) dX12_init_704 (by decide) ?_
  refine zr_iconst (v := 0) dX12_init_706 (by decide) ?_
  refine zq_iast (N := 150) (k := 104) (ι' := evI_173) dX12_init_707 rfl rfl (zvl (by decide)) (by decide) rfl ?_
  refine zr_dup dX12_init_708 rfl ?_
  refine zr_bipush (v := 105) dX12_init_709 (by decide) ?_
  refine zr_iconst (v := 0) dX12_init_711 (by decide) ?_
  refine zq_iast (N := 150) (k := 105) (ι' := evI_174) dX12_init_712 rfl rfl (zvl (by decide)) (by decide) rfl ?_
  refine zr_dup dX12_init_713 rfl ?_
  refine zr_bipush (v := 106) dX12_init_714 (by decide) ?_
  refine zr_iconst (v := 0) dX12_init_716 (by decide) ?_
  refine zq_iast (N := 150) (k := 106) (ι' := evI_175) dX12_init_717 rfl rfl (zvl (by decide)) (by decide) rfl ?_
  refine zr_dup dX12_init_718 rfl ?_
  refine zr_bipush (v := 107) dX12_init_719 (by decide) ?_
  refine zr_iconst (v := 0) dX12_init_721 (by decide) ?_
  refine zq_iast (N := 150) (k := 107) (ι' := evI_176) dX12_init_722 rfl rfl (zvl (by decide)) (by decide) rfl ?_
  refine zr_dup dX12_init_723 rfl ?_
  refine zr_bipush (v := 108) dX12_init_724 (by decide) ?_
  refine zr_iconst (v := 0) dX12_init_726 (by decide) ?_
  refine zq_iast (N := 150) (k := 108) (ι' := evI_177) dX12_init_727 rfl rfl (zvl (by decide)) (by decide) rfl ?_
  refine zr_dup dX12_init_728 rfl ?_
  refine zr_bipush (v := 109) dX12_init_729 (by decide) ?_
  refine zr_iconst (v := 0) dX12_init_731 (by decide) ?_
  refine zq_iast (N := 150) (k := 109) (ι' := evI_178) dX12_init_732 rfl rfl (zvl (by decide)) (by decide) rfl ?_
  refine zr_dup dX12_init_733 rfl ?_
  refine zr_bipush (v := 110) dX12_init_734 (by decide) ?_
  refine zr_iconst (v := 0) dX12_init_736 (by decide) ?_
  refine zq_iast (N := 150) (k := 110) (ι' := evI_179) dX12_init_737 rfl rfl (zvl (by decide)) (by decide) rfl ?_
  refine zr_dup dX12_init_738 rfl ?_
  refine zr_bipush (v := 111) dX12_init_739 (by decide) ?_
  refine zr_iconst (v := 0) dX12_init_741 (by decide) ?_
  refine zq_iast (N := 150) (k := 111) (ι' := evI_180) dX12_init_742 rfl rfl (zvl (by decide)) (by decide) rfl ?_
  refine zr_dup dX12_init_743 rfl ?_
  refine zr_bipush (v := 112) dX12_init_744 (by decide) ?_
  refine zr_iconst (v := 0) dX12_init_746 (by decide) ?_
  refine zq_iast (N := 150) (k := 112) (ι' := evI_181) dX12_init_747 rfl rfl (zvl (by decide)) (by decide) rfl ?_
  refine zr_dup dX12_init_748 rfl ?_
  refine zr_bipush (v := 113) dX12_init_749 (by decide) ?_
  refine zr_iconst (v := 0) dX12_init_751 (by decide) ?_
  refine zq_iast (N := 150) (k := 113) (ι' := evI_182) dX12_init_752 rfl rfl (zvl (by decide)) (by decide) rfl ?_
  refine zr_dup dX12_init_753 rfl ?_
  refine zr_bipush (v := 114) dX12_init_754 (by decide) ?_
  refine zr_iconst (v := 0) dX12_init_756 (by decide) ?_
  refine zq_iast (N := 150) (k := 114) (ι' := evI_183) dX12_init_757 rfl rfl (zvl (by decide)) (by decide) rfl ?_
  refine zr_dup dX12_init_758 rfl ?_
  refine zr_bipush (v := 115) dX12_init_759 (by decide) ?_
  refine zr_iconst (v := 0) dX12_init_761 (by decide) ?_
  refine zq_iast (N := 150) (k := 115) (ι' := evI_184) dX12_init_762 rfl rfl (zvl (by decide)) (by decide) rfl ?_
  refine zr_dup dX12_init_763 rfl ?_
  refine zr_bipush (v := 116) dX12_init_764 (by decide) ?_
  refine zr_iconst (v := 0) dX12_init_766 (by decide) ?_
  refine zq_iast (N := 150) (k := 116) (ι' := evI_185) dX12_init_767 rfl rfl (zvl (by decide)) (by decide) rfl ?_
  refine zr_dup dX12_init_768 rfl ?_
  refine zr_bipush (v := 117) dX12_init_769 (by decide) ?_
  refine zr_iconst (v := 0) dX12_init_771 (by decide) ?_
  refine zq_iast (N := 150) (k := 117) (ι' := evI_186) dX12_init_772 rfl rfl (zvl (by decide)) (by decide) rfl ?_
  refine zr_dup dX12_init_773 rfl ?_
  refine zr_bipush (v := 118) dX12_init_774 (by decide) ?_
  refine zr_iconst (v := 0) dX12_init_776 (by decide) ?_
  refine zq_iast (N := 150) (k := 118) (ι' := evI_187) dX12_init_777 rfl rfl (zvl (by decide)) (by decide) rfl ?_
  refine zr_dup dX12_init_778 rfl ?_
  refine zr_bipush (v := 119) dX12_init_779 (by decide) ?_
  refine zr_iconst (v := 0) dX12_init_781 (by decide) ?_
  refine zq_iast (N := 150) (k := 119) (ι' := evI_188) dX12_init_782 rfl rfl (zvl (by decide)) (by decide) rfl ?_
  refine zr_dup dX12_init_783 rfl ?_
  refine zr_bipush (v := 120) dX12_init_784 (by decide) ?_
  refine zr_iconst (v := 0) dX12_init_786 (by decide) ?_
  refine zq_iast (N := 150) (k := 120) (ι' := evI_189) dX12_init_787 rfl rfl (zvl (by decide)) (by decide) rfl ?_
  refine zr_dup dX12_init_788 rfl ?_
  refine zr_bipush (v := 121) dX12_init_789 (by decide) ?_
  refine zr_iconst (v := 0) dX12_init_791 (by decide) ?_
  refine zq_iast (N := 150) (k := 121) (ι' := evI_190) dX12_init_792 rfl rfl (zvl (by decide)) (by decide) rfl ?_
  refine zr_dup dX12_init_793 rfl ?_
  refine zr_bipush (v := 122) dX12_init_794 (by decide) ?_
  refine zr_iconst (v := 0) dX12_init_796 (by decide) ?_
  refine zq_iast (N := 150) (k := 122) (ι' := evI_191) dX12_init_797 rfl rfl (zvl (by decide)) (by decide) rfl ?_
  refine zr_dup dX12_init_798 rfl ?_
  refine zr_bipush (v := 123) dX12_init_799 (by decide) ?_
  refine zr_iconst (v := 0) dX12_init_801 (by decide) ?_
  refine zq_iast (N := 150) (k := 123) (ι' := evI_192) dX12_init_802 rfl rfl (zvl (by decide)) (by decide) rfl ?_
  refine zr_dup dX12_init_803 rfl ?_
  refine zr_bipush (v := 124) dX12_init_804 (by decide) ?_
  refine zr_iconst (v := 0) dX12_init_806 (by decide) ?_
  refine zq_iast (N := 150) (k := 124) (ι' := evI_193) dX12_init_807 rfl rfl (zvl (by decide)) (by decide) rfl ?_
  refine zr_dup dX12_init_808 rfl ?_
  refine zr_bipush (v := 125) dX12_init_809 (by decide) ?_
  refine zr_iconst (v := 0) dX12_init_811 (by decide) ?_
  refine zq_iast (N := 150) (k := 125) (ι' := evI_194) dX12_init_812 rfl rfl (zvl (by decide)) (by decide) rfl ?_
  refine zr_dup dX12_init_813 rfl ?_
  refine zr_bipush (v := 126) dX12_init_814 (by decide) ?_
  refine zr_iconst (v := 0) dX12_init_816 (by decide) ?_
  refine zq_iast (N := 150) (k := 126) (ι' := evI_195) dX12_init_817 rfl rfl (zvl (by decide)) (by decide) rfl ?_
  refine zr_dup dX12_init_818 rfl ?_
  refine zr_bipush (v := 127) dX12_init_819 (by decide) ?_
  refine zr_iconst (v := 0) dX12_init_821 (by decide) ?_
  refine zq_iast (N := 150) (k := 127) (ι' := evI_196) dX12_init_822 rfl rfl (zvl (by decide)) (by decide) rfl ?_
  refine zr_dup dX12_init_823 rfl ?_
  refine zr_sipush (v := 128) dX12_init_824 (by decide) ?_
  refine zr_iconst (v := 0) dX12_init_827 (by decide) ?_
  refine zq_iast (N := 150) (k := 128) (ι' := evI_197) dX12_init_828 rfl rfl (zvl (by decide)) (by decide) rfl ?_
  refine zr_dup dX12_init_829 rfl ?_
  refine zr_sipush (v := 129) dX12_init_830 (by decide) ?_
  refine zr_iconst (v := 0) dX12_init_833 (by decide) ?_
  refine zq_iast (N := 150) (k := 129) (ι' := evI_198) dX12_init_834 rfl rfl (zvl (by decide)) (by decide) rfl ?_
  refine zr_dup dX12_init_835 rfl ?_
  refine zr_sipush (v := 130) dX12_init_836 (by decide) ?_
  refine zr_iconst (v := 0) dX12_init_839 (by decide) ?_
  refine zq_iast (N := 150) (k := 130) (ι' := evI_199) dX12_init_840 rfl rfl (zvl (by decide)) (by decide) rfl ?_
  refine zr_dup dX12_init_841 rfl ?_
  refine zr_sipush (v := 131) dX12_init_842 (by decide) ?_
  refine zr_iconst (v := 0) dX12_init_845 (by decide) ?_
  refine zq_iast (N := 150) (k := 131) (ι' := evI_200) dX12_init_846 rfl rfl (zvl (by decide)) (by decide) rfl ?_
  refine zr_dup dX12_init_847 rfl ?_
  refine zr_sipush (v := 132) dX12_init_848 (by decide) ?_
  refine zr_iconst (v := 0) dX12_init_851 (by decide) ?_
  refine zq_iast (N := 150) (k := 132) (ι' := evI_201) dX12_init_852 rfl rfl (zvl (by decide)) (by decide) rfl ?_
  refine zr_dup dX12_init_853 rfl ?_
  refine zr_sipush (v := 133) dX12_init_854 (by decide) ?_
  refine zr_iconst (v := 0) dX12_init_857 (by decide) ?_
  refine zq_iast (N := 150) (k := 133) (ι' := evI_202) dX12_init_858 rfl rfl (zvl (by decide)) (by decide) rfl ?_
  refine zr_dup dX12_init_859 rfl ?_
  refine zr_sipush (v := 134) dX12_init_860 (by decide) ?_
  refine zr_iconst (v := 0) dX12_init_863 (by decide) ?_
  refine zq_iast (N := 150) (k := 134) (ι' := evI_203) dX12_init_864 rfl rfl (zvl (by decide)) (by decide) rfl ?_
  refine zr_dup dX12_init_865 rfl ?_
  refine zr_sipush (v := 135) dX12_init_866 (by decide) ?_
  refine zr_iconst (v := 0) dX12_init_869 (by decide) ?_
  refine zq_iast (N := 150) (k := 135) (ι' := evI_204) dX12_init_870 rfl rfl (zvl (by decide)) (by decide) rfl ?_
  refine zr_dup dX12_init_871 rfl ?_
  refine zr_sipush (v := 136) dX12_init_872 (by decide) ?_
  refine zr_iconst (v := 0) dX12_init_875 (by decide) ?_
  refine zq_iast (N := 150) (k := 136) (ι' := evI_205) dX12_init_876 rfl rfl (zvl (by decide)) (by decide) rfl ?_
  refine zr_dup dX12_init_877 rfl ?_
  refine zr_sipush (v := 137) dX12_init_878 (by decide) ?_
  refine zr_iconst (v := 0) dX12_init_881 (by decide) ?_
  refine zq_iast (N := 150) (k := 137) (ι' := evI_206) dX12_init_882 rfl rfl (zvl (by decide)) (by decide) rfl ?_
  refine zr_dup dX12_init_883 rfl ?_
  refine zr_sipush (v := 138) dX12_init_884 (by decide) ?_
  refine zr_iconst (v := 0) dX12_init_887 (by decide) ?_
  refine zq_iast (N := 150) (k := 138) (ι' := evI_207) dX12_init_888 rfl rfl (zvl (by decide)) (by decide) rfl ?_
  refine zr_dup dX12_init_889 rfl ?_
  refine zr_sipush (v := 139) dX12_init_890 (by decide) ?_
  refine zr_iconst (v := 0) dX12_init_893 (by decide) ?_
  refine zq_iast (N := 150) (k := 139) (ι' := evI_208) dX12_init_894 rfl rfl (zvl (by decide)) (by decide) rfl ?_
  refine zr_dup dX12_init_895 rfl ?_
  refine zr_sipush (v := 140) dX12_init_896 (by decide) ?_
  refine zr_iconst (v := 0) dX12_init_899 (by decide) ?_
  refine zq_iast (N := 150) (k := 140) (ι' := evI_209) dX12_init_900 rfl rfl (zvl (by decide)) (by decide) rfl ?_
  refine zr_dup dX12_init_901 rfl ?_
  refine zr_sipush (v := 141) dX12_init_902 (by decide) ?_
  refine zr_iconst (v := 0) dX12_init_905 (by decide) ?_
  refine zq_iast (N := 150) (k := 141) (ι' := evI_210) dX12_init_906 rfl rfl (zvl (by decide)) (by decide) rfl ?_
  refine zr_dup dX12_init_907 rfl ?_
  refine zr_sipush (v := 142) dX12_init_908 (by decide) ?_
  refine zr_iconst (v := 0) dX12_init_911 (by decide) ?_
  refine zq_iast (N := 150) (k := 142) (ι' := evI_211) dX12_init_912 rfl rfl (zvl (by decide)) (by decide) rfl ?_
  refine zr_dup dX12_init_913 rfl ?_
  refine zr_sipush (v := 143) dX12_init_914 (by decide) ?_
  refine zr_iconst (v := 0) dX12_init_917 (by decide) ?_
  refine zq_iast (N := 150) (k := 143) (ι' := evI_212) dX12_init_918 rfl rfl (zvl (by decide)) (by decide) rfl ?_
  refine zr_dup dX12_init_919 rfl ?_
  refine zr_sipush (v := 144) dX12_init_920 (by decide) ?_
  refine zr_iconst (v := 0) dX12_init_923 (by decide) ?_
  refine zq_iast (N := 150) (k := 144) (ι' := evI_213) dX12_init_924 rfl rfl (zvl (by decide)) (by decide) rfl ?_
  refine zr_dup dX12_init_925 rfl ?_
  refine zr_sipush (v := 145) dX12_init_926 (by decide) ?_
  refine zr_iconst (v := 0) dX12_init_929 (by decide) ?_
  refine zq_iast (N := 150) (k := 145) (ι' := evI_214) dX12_init_930 rfl rfl (zvl (by decide)) (by decide) rfl ?_
  refine zr_dup dX12_init_931 rfl ?_
  refine zr_sipush (v := 146) dX12_init_932 (by decide) ?_
  refine zr_iconst (v := 0) dX12_init_935 (by decide) ?_
  refine zq_iast (N := 150) (k := 146) (ι' := evI_215) dX12_init_936 rfl rfl (zvl (by decide)) (by decide) rfl ?_
  refine zr_dup dX12_init_937 rfl ?_
  refine zr_sipush (v := 147) dX12_init_938 (by decide) ?_
  refine zr_iconst (v := 0) dX12_init_941 (by decide) ?_
  refine zq_iast (N := 150) (k := 147) (ι' := evI_216) dX12_init_942 rfl rfl (zvl (by decide)) (by decide) rfl ?_
  refine zr_dup dX12_init_943 rfl ?_
  refine zr_sipush (v := 148) dX12_init_944 (by decide) ?_
  refine zr_iconst (v := 0) dX12_init_947 (by decide) ?_
  refine zq_iast (N := 150) (k := 148) (ι' := evI_217) dX12_init_948 rfl rfl (zvl (by decide)) (by decide) rfl ?_
  refine zr_dup dX12_init_949 rfl ?_
  refine zr_sipush (v := 149) dX12_init_950 (by decide) ?_
  refine zr_iconst (v := 0) dX12_init_953 (by decide) ?_
  refine zq_iast (N := 150) (k := 149) (ι' := evI_218) dX12_init_954 rfl rfl (zvl (by decide)) (by decide) rfl ?_
  refine zq_putR (ρ' := evR_105) dX12_init_955 zf_X12_75 (Or.inr ⟨rfl, _, _, _, rfl, rfl⟩) rfl rfl rfl rfl rfl rfl ?_
  refine zr_aload_n dX12_init_958 rfl rfl ?_
  refine zr_bipush (v := 96) dX12_init_959 (by decide) ?_
  refine zq_newI (n := 107) (a := 106) (n' := 108) (N := 96) (bc' := 32) (bs' := 136186) dX12_init_961 (by decide) (by decide) rfl rfl rfl (Nat.le_of_ble_eq_true rfl) (Nat.le_of_ble_eq_true rfl) (Nat.le_of_ble_eq_true rfl) ?_
  refine zr_dup dX12_init_963 rfl ?_
  refine zr_iconst (v := 0) dX12_init_964 (by decide) ?_
  refine zr_bipush (v := 32) dX12_init_965 (by decide) ?_
  refine zq_iast (N := 96) (k := 0) (ι' := evI_219) dX12_init_967 rfl rfl (zvl (by decide)) (by decide) rfl ?_
  refine zr_dup dX12_init_968 rfl ?_
  refine zr_iconst (v := 1) dX12_init_969 (by decide) ?_
  refine zr_bipush (v := 112) dX12_init_970 (by decide) ?_
  refine zq_iast (N := 96) (k := 1) (ι' := evI_220) dX12_init_972 rfl rfl (zvl (by decide)) (by decide) rfl ?_
  refine zr_dup dX12_init_973 rfl ?_
  refine zr_iconst (v := 2) dX12_init_974 (by decide) ?_
  refine zr_bipush (v := 111) dX12_init_975 (by decide) ?_
  refine zq_iast (N := 96) (k := 2) (ι' := evI_221) dX12_init_977 rfl rfl (zvl (by decide)) (by decide) rfl ?_
  refine zr_dup dX12_init_978 rfl ?_
  refine zr_iconst (v := 3) dX12_init_979 (by decide) ?_
  refine zr_bipush (v := 115) dX12_init_980 (by decide) ?_
  refine zq_iast (N := 96) (k := 3) (ι' := evI_222) dX12_init_982 rfl rfl (zvl (by decide)) (by decide) rfl ?_
  refine zr_dup dX12_init_983 rfl ?_
  refine zr_iconst (v := 4) dX12_init_984 (by decide) ?_
  refine zr_bipush (v := 116) dX12_init_985 (by decide) ?_
  refine zq_iast (N := 96) (k := 4) (ι' := evI_223) dX12_init_987 rfl rfl (zvl (by decide)) (by decide) rfl ?_
  refine zr_dup dX12_init_988 rfl ?_
  refine zr_iconst (v := 5) dX12_init_989 (by decide) ?_
  refine zr_bipush (v := 32) dX12_init_990 (by decide) ?_
  refine zq_iast (N := 96) (k := 5) (ι' := evI_224) dX12_init_992 rfl rfl (zvl (by decide)) (by decide) rfl ?_
  refine zr_dup dX12_init_993 rfl ?_
  refine zr_bipush (v := 6) dX12_init_994 (by decide) ?_
  refine zr_bipush (v := 98) dX12_init_996 (by decide) ?_
  refine zq_iast (N := 96) (k := 6) (ι' := evI_225) dX12_init_998 rfl rfl (zvl (by decide)) (by decide) rfl ?_
  refine zr_dup dX12_init_999 rfl ?_
  refine zr_bipush (v := 7) dX12_init_1000 (by decide) ?_
  refine zr_bipush (v := 101) dX12_init_1002 (by decide) ?_
  refine zq_iast (N := 96) (k := 7) (ι' := evI_226) dX12_init_1004 rfl rfl (zvl (by decide)) (by decide) rfl ?_
  refine zr_dup dX12_init_1005 rfl ?_
  refine zr_bipush (v := 8) dX12_init_1006 (by decide) ?_
  refine zr_bipush (v := 97) dX12_init_1008 (by decide) ?_
  refine zq_iast (N := 96) (k := 8) (ι' := evI_227) dX12_init_1010 rfl rfl (zvl (by decide)) (by decide) rfl ?_
  refine zr_dup dX12_init_1011 rfl ?_
  refine zr_bipush (v := 9) dX12_init_1012 (by decide) ?_
  refine zr_bipush (v := 109) dX12_init_1014 (by decide) ?_
  refine zq_iast (N := 96) (k := 9) (ι' := evI_228) dX12_init_1016 rfl rfl (zvl (by decide)) (by decide) rfl ?_
  refine zr_dup dX12_init_1017 rfl ?_
  refine zr_bipush (v := 10) dX12_init_1018 (by decide) ?_
  refine zr_bipush (v := 32) dX12_init_1020 (by decide) ?_
  refine zq_iast (N := 96) (k := 10) (ι' := evI_229) dX12_init_1022 rfl rfl (zvl (by decide)) (by decide) rfl ?_
  refine zr_dup dX12_init_1023 rfl ?_
  refine zr_bipush (v := 11) dX12_init_1024 (by decide) ?_
  refine zr_bipush (v := 114) dX12_init_1026 (by decide) ?_
  refine zq_iast (N := 96) (k := 11) (ι' := evI_230) dX12_init_1028 rfl rfl (zvl (by decide)) (by decide) rfl ?_
  refine zr_dup dX12_init_1029 rfl ?_
  refine zr_bipush (v := 12) dX12_init_1030 (by decide) ?_
  refine zr_bipush (v := 97) dX12_init_1032 (by decide) ?_
  refine zq_iast (N := 96) (k := 12) (ι' := evI_231) dX12_init_1034 rfl rfl (zvl (by decide)) (by decide) rfl ?_
  refine zr_dup dX12_init_1035 rfl ?_
  refine zr_bipush (v := 13) dX12_init_1036 (by decide) ?_
  refine zr_bipush (v := 102) dX12_init_1038 (by decide) ?_
  refine zq_iast (N := 96) (k := 13) (ι' := evI_232) dX12_init_1040 rfl rfl (zvl (by decide)) (by decide) rfl ?_
  refine zr_dup dX12_init_1041 rfl ?_
  refine zr_bipush (v := 14) dX12_init_1042 (by decide) ?_
  refine zr_bipush (v := 116) dX12_init_1044 (by decide) ?_
  refine zq_iast (N := 96) (k := 14) (ι' := evI_233) dX12_init_1046 rfl rfl (zvl (by decide)) (by decide) rfl ?_
  refine zr_dup dX12_init_1047 rfl ?_
  refine zr_bipush (v := 15) dX12_init_1048 (by decide) ?_
  refine zr_bipush (v := 101) dX12_init_1050 (by decide) ?_
  refine zq_iast (N := 96) (k := 15) (ι' := evI_234) dX12_init_1052 rfl rfl (zvl (by decide)) (by decide) rfl ?_
  refine zr_dup dX12_init_1053 rfl ?_
  refine zr_bipush (v := 16) dX12_init_1054 (by decide) ?_
  refine zr_bipush (v := 114) dX12_init_1056 (by decide) ?_
  refine zq_iast (N := 96) (k := 16) (ι' := evI_235) dX12_init_1058 rfl rfl (zvl (by decide)) (by decide) rfl ?_
  refine zr_dup dX12_init_1059 rfl ?_
  refine zr_bipush (v := 17) dX12_init_1060 (by decide) ?_
  refine zr_bipush (v := 32) dX12_init_1062 (by decide) ?_
  refine zq_iast (N := 96) (k := 17) (ι' := evI_236) dX12_init_1064 rfl rfl (zvl (by decide)) (by decide) rfl ?_
  refine zr_dup dX12_init_1065 rfl ?_
  refine zr_bipush (v := 18) dX12_init_1066 (by decide) ?_
  refine zr_bipush (v := 98) dX12_init_1068 (by decide) ?_
  refine zq_iast (N := 96) (k := 18) (ι' := evI_237) dX12_init_1070 rfl rfl (zvl (by decide)) (by decide) rfl ?_
  refine zr_dup dX12_init_1071 rfl ?_
  refine zr_bipush (v := 19) dX12_init_1072 (by decide) ?_
  refine zr_bipush (v := 114) dX12_init_1074 (by decide) ?_
  refine zq_iast (N := 96) (k := 19) (ι' := evI_238) dX12_init_1076 rfl rfl (zvl (by decide)) (by decide) rfl ?_
  refine zr_dup dX12_init_1077 rfl ?_
  refine zr_bipush (v := 20) dX12_init_1078 (by decide) ?_
  refine zr_bipush (v := 97) dX12_init_1080 (by decide) ?_
  refine zq_iast (N := 96) (k := 20) (ι' := evI_239) dX12_init_1082 rfl rfl (zvl (by decide)) (by decide) rfl ?_
  refine zr_dup dX12_init_1083 rfl ?_
  refine zr_bipush (v := 21) dX12_init_1084 (by decide) ?_
  refine zr_bipush (v := 99) dX12_init_1086 (by decide) ?_
  refine zq_iast (N := 96) (k := 21) (ι' := evI_240) dX12_init_1088 rfl rfl (zvl (by decide)) (by decide) rfl ?_
  refine zr_dup dX12_init_1089 rfl ?_
  refine zr_bipush (v := 22) dX12_init_1090 (by decide) ?_
  refine zr_bipush (v := 101) dX12_init_1092 (by decide) ?_
  refine zq_iast (N := 96) (k := 22) (ι' := evI_241) dX12_init_1094 rfl rfl (zvl (by decide)) (by decide) rfl ?_
  refine zr_dup dX12_init_1095 rfl ?_
  refine zr_bipush (v := 23) dX12_init_1096 (by decide) ?_
  refine zr_bipush (v := 32) dX12_init_1098 (by decide) ?_
  refine zq_iast (N := 96) (k := 23) (ι' := evI_242) dX12_init_1100 rfl rfl (zvl (by decide)) (by decide) rfl ?_
  refine zr_dup dX12_init_1101 rfl ?_
  refine zr_bipush (v := 24) dX12_init_1102 (by decide) ?_
  refine zr_bipush (v := 102) dX12_init_1104 (by decide) ?_
  refine zq_iast (N := 96) (k := 24) (ι' := evI_243) dX12_init_1106 rfl rfl (zvl (by decide)) (by decide) rfl ?_
  refine zr_dup dX12_init_1107 rfl ?_
  refine zr_bipush (v := 25) dX12_init_1108 (by decide) ?_
  refine zr_bipush (v := 111) dX12_init_1110 (by decide) ?_
  refine zq_iast (N := 96) (k := 25) (ι' := evI_244) dX12_init_1112 rfl rfl (zvl (by decide)) (by decide) rfl ?_
  refine zr_dup dX12_init_1113 rfl ?_
  refine zr_bipush (v := 26) dX12_init_1114 (by decide) ?_
  refine zr_bipush (v := 117) dX12_init_1116 (by decide) ?_
  refine zq_iast (N := 96) (k := 26) (ι' := evI_245) dX12_init_1118 rfl rfl (zvl (by decide)) (by decide) rfl ?_
  refine zr_dup dX12_init_1119 rfl ?_
  refine zr_bipush (v := 27) dX12_init_1120 (by decide) ?_
  refine zr_bipush (v := 114) dX12_init_1122 (by decide) ?_
  refine zq_iast (N := 96) (k := 27) (ι' := evI_246) dX12_init_1124 rfl rfl (zvl (by decide)) (by decide) rfl ?_
  refine zr_dup dX12_init_1125 rfl ?_
  refine zr_bipush (v := 28) dX12_init_1126 (by decide) ?_
  refine zr_bipush (v := 32) dX12_init_1128 (by decide) ?_
  refine zq_iast (N := 96) (k := 28) (ι' := evI_247) dX12_init_1130 rfl rfl (zvl (by decide)) (by decide) rfl ?_
  refine zr_dup dX12_init_1131 rfl ?_
  refine zr_bipush (v := 29) dX12_init_1132 (by decide) ?_
  refine zr_bipush (v := 116) dX12_init_1134 (by decide) ?_
  refine zq_iast (N := 96) (k := 29) (ι' := evI_248) dX12_init_1136 rfl rfl (zvl (by decide)) (by decide) rfl ?_
  refine zr_dup dX12_init_1137 rfl ?_
  refine zr_bipush (v := 30) dX12_init_1138 (by decide) ?_
  refine zr_bipush (v := 117) dX12_init_1140 (by decide) ?_
  refine zq_iast (N := 96) (k := 30) (ι' := evI_249) dX12_init_1142 rfl rfl (zvl (by decide)) (by decide) rfl ?_
  refine zr_dup dX12_init_1143 rfl ?_
  refine zr_bipush (v := 31) dX12_init_1144 (by decide) ?_
  refine zr_bipush (v := 114) dX12_init_1146 (by decide) ?_
  refine zq_iast (N := 96) (k := 31) (ι' := evI_250) dX12_init_1148 rfl rfl (zvl (by decide)) (by decide) rfl ?_
  refine zr_dup dX12_init_1149 rfl ?_
  refine zr_bipush (v := 32) dX12_init_1150 (by decide) ?_
  refine zr_bipush (v := 110) dX12_init_1152 (by decide) ?_
  refine zq_iast (N := 96) (k := 32) (ι' := evI_251) dX12_init_1154 rfl rfl (zvl (by decide)) (by decide) rfl ?_
  refine zr_dup dX12_init_1155 rfl ?_
  refine zr_bipush (v := 33) dX12_init_1156 (by decide) ?_
  refine zr_bipush (v := 32) dX12_init_1158 (by decide) ?_
  refine zq_iast (N := 96) (k := 33) (ι' := evI_252) dX12_init_1160 rfl rfl (zvl (by decide)) (by decide) rfl ?_
  refine zr_dup dX12_init_1161 rfl ?_
  refine zr_bipush (v := 34) dX12_init_1162 (by decide) ?_
  refine zr_bipush (v := 115) dX12_init_1164 (by decide) ?_
  refine zq_iast (N := 96) (k := 34) (ι' := evI_253) dX12_init_1166 rfl rfl (zvl (by decide)) (by decide) rfl ?_
  refine zr_dup dX12_init_1167 rfl ?_
  refine zr_bipush (v := 35) dX12_init_1168 (by decide) ?_
  refine zr_bipush (v := 108) dX12_init_1170 (by decide) ?_
  refine zq_iast (N := 96) (k := 35) (ι' := evI_254) dX12_init_1172 rfl rfl (zvl (by decide)) (by decide) rfl ?_
  refine zr_dup dX12_init_1173 rfl ?_
  refine zr_bipush (v := 36) dX12_init_1174 (by decide) ?_
  refine zr_bipush (v := 97) dX12_init_1176 (by decide) ?_
  refine zq_iast (N := 96) (k := 36) (ι' := evI_255) dX12_init_1178 rfl rfl (zvl (by decide)) (by decide) rfl ?_
  refine zr_dup dX12_init_1179 rfl ?_
  refine zr_bipush (v := 37) dX12_init_1180 (by decide) ?_
  refine zr_bipush (v := 99) dX12_init_1182 (by decide) ?_
  refine zq_iast (N := 96) (k := 37) (ι' := evI_256) dX12_init_1184 rfl rfl (zvl (by decide)) (by decide) rfl ?_
  refine zr_dup dX12_init_1185 rfl ?_
  refine zr_bipush (v := 38) dX12_init_1186 (by decide) ?_
  refine zr_bipush (v := 107) dX12_init_1188 (by decide) ?_
  refine zq_iast (N := 96) (k := 38) (ι' := evI_257) dX12_init_1190 rfl rfl (zvl (by decide)) (by decide) rfl ?_
  refine zr_dup dX12_init_1191 rfl ?_
  refine zr_bipush (v := 39) dX12_init_1192 (by decide) ?_
  refine zr_bipush (v := 32) dX12_init_1194 (by decide) ?_
  refine zq_iast (N := 96) (k := 39) (ι' := evI_258) dX12_init_1196 rfl rfl (zvl (by decide)) (by decide) rfl ?_
  refine zr_dup dX12_init_1197 rfl ?_
  refine zr_bipush (v := 40) dX12_init_1198 (by decide) ?_
  refine zr_bipush (v := 104) dX12_init_1200 (by decide) ?_
  refine zq_iast (N := 96) (k := 40) (ι' := evI_259) dX12_init_1202 rfl rfl (zvl (by decide)) (by decide) rfl ?_
  refine zr_dup dX12_init_1203 rfl ?_
  refine zr_bipush (v := 41) dX12_init_1204 (by decide) ?_
  refine zr_bipush (v := 111) dX12_init_1206 (by decide) ?_
  refine zq_iast (N := 96) (k := 41) (ι' := evI_260) dX12_init_1208 rfl rfl (zvl (by decide)) (by decide) rfl ?_
  refine zr_dup dX12_init_1209 rfl ?_
  refine zr_bipush (v := 42) dX12_init_1210 (by decide) ?_
  refine zr_bipush (v := 108) dX12_init_1212 (by decide) ?_
  refine zq_iast (N := 96) (k := 42) (ι' := evI_261) dX12_init_1214 rfl rfl (zvl (by decide)) (by decide) rfl ?_
  refine zr_dup dX12_init_1215 rfl ?_
  refine zr_bipush (v := 43) dX12_init_1216 (by decide) ?_
  refine zr_bipush (v := 100) dX12_init_1218 (by decide) ?_
  refine zq_iast (N := 96) (k := 43) (ι' := evI_262) dX12_init_1220 rfl rfl (zvl (by decide)) (by decide) rfl ?_
  refine zr_dup dX12_init_1221 rfl ?_
  refine zr_bipush (v := 44) dX12_init_1222 (by decide) ?_
  refine zr_bipush (v := 32) dX12_init_1224 (by decide) ?_
  refine zq_iast (N := 96) (k := 44) (ι' := evI_263) dX12_init_1226 rfl rfl (zvl (by decide)) (by decide) rfl ?_
  refine zr_dup dX12_init_1227 rfl ?_
  refine zr_bipush (v := 45) dX12_init_1228 (by decide) ?_
  refine zr_bipush (v := 108) dX12_init_1230 (by decide) ?_
  refine zq_iast (N := 96) (k := 45) (ι' := evI_264) dX12_init_1232 rfl rfl (zvl (by decide)) (by decide) rfl ?_
  refine zr_dup dX12_init_1233 rfl ?_
  refine zr_bipush (v := 46) dX12_init_1234 (by decide) ?_
  refine zr_bipush (v := 101) dX12_init_1236 (by decide) ?_
  refine zq_iast (N := 96) (k := 46) (ι' := evI_265) dX12_init_1238 rfl rfl (zvl (by decide)) (by decide) rfl ?_
  refine zr_dup dX12_init_1239 rfl ?_
  refine zr_bipush (v := 47) dX12_init_1240 (by decide) ?_
  refine zr_bipush (v := 118) dX12_init_1242 (by decide) ?_
  refine zq_iast (N := 96) (k := 47) (ι' := evI_266) dX12_init_1244 rfl rfl (zvl (by decide)) (by decide) rfl ?_
  refine zr_dup dX12_init_1245 rfl ?_
  refine zr_bipush (v := 48) dX12_init_1246 (by decide) ?_
  refine zr_bipush (v := 101) dX12_init_1248 (by decide) ?_
  refine zq_iast (N := 96) (k := 48) (ι' := evI_267) dX12_init_1250 rfl rfl (zvl (by decide)) (by decide) rfl ?_
  refine zr_dup dX12_init_1251 rfl ?_
  refine zr_bipush (v := 49) dX12_init_1252 (by decide) ?_
  refine zr_bipush (v := 108) dX12_init_1254 (by decide) ?_
  refine zq_iast (N := 96) (k := 49) (ι' := evI_268) dX12_init_1256 rfl rfl (zvl (by decide)) (by decide) rfl ?_
  refine zr_dup dX12_init_1257 rfl ?_
  refine zr_bipush (v := 50) dX12_init_1258 (by decide) ?_
  refine zr_bipush (v := 32) dX12_init_1260 (by decide) ?_
  refine zq_iast (N := 96) (k := 50) (ι' := evI_269) dX12_init_1262 rfl rfl (zvl (by decide)) (by decide) rfl ?_
  refine zr_dup dX12_init_1263 rfl ?_
  refine zr_bipush (v := 51) dX12_init_1264 (by decide) ?_
  refine zr_bipush (v := 109) dX12_init_1266 (by decide) ?_
  refine zq_iast (N := 96) (k := 51) (ι' := evI_270) dX12_init_1268 rfl rfl (zvl (by decide)) (by decide) rfl ?_
  refine zr_dup dX12_init_1269 rfl ?_
  refine zr_bipush (v := 52) dX12_init_1270 (by decide) ?_
  refine zr_bipush (v := 97) dX12_init_1272 (by decide) ?_
  refine zq_iast (N := 96) (k := 52) (ι' := evI_271) dX12_init_1274 rfl rfl (zvl (by decide)) (by decide) rfl ?_
  refine zr_dup dX12_init_1275 rfl ?_
  refine zr_bipush (v := 53) dX12_init_1276 (by decide) ?_
  refine zr_bipush (v := 114) dX12_init_1278 (by decide) ?_
  refine zq_iast (N := 96) (k := 53) (ι' := evI_272) dX12_init_1280 rfl rfl (zvl (by decide)) (by decide) rfl ?_
  refine zr_dup dX12_init_1281 rfl ?_
  refine zr_bipush (v := 54) dX12_init_1282 (by decide) ?_
  refine zr_bipush (v := 103) dX12_init_1284 (by decide) ?_
  refine zq_iast (N := 96) (k := 54) (ι' := evI_273) dX12_init_1286 rfl rfl (zvl (by decide)) (by decide) rfl ?_
  refine zr_dup dX12_init_1287 rfl ?_
  refine zr_bipush (v := 55) dX12_init_1288 (by decide) ?_
  refine zr_bipush (v := 105) dX12_init_1290 (by decide) ?_
  refine zq_iast (N := 96) (k := 55) (ι' := evI_274) dX12_init_1292 rfl rfl (zvl (by decide)) (by decide) rfl ?_
  refine zr_dup dX12_init_1293 rfl ?_
  refine zr_bipush (v := 56) dX12_init_1294 (by decide) ?_
  refine zr_bipush (v := 110) dX12_init_1296 (by decide) ?_
  refine zq_iast (N := 96) (k := 56) (ι' := evI_275) dX12_init_1298 rfl rfl (zvl (by decide)) (by decide) rfl ?_
  refine zr_dup dX12_init_1299 rfl ?_
  refine zr_bipush (v := 57) dX12_init_1300 (by decide) ?_
  refine zr_bipush (v := 32) dX12_init_1302 (by decide) ?_
  refine zq_iast (N := 96) (k := 57) (ι' := evI_276) dX12_init_1304 rfl rfl (zvl (by decide)) (by decide) rfl ?_
  refine zr_dup dX12_init_1305 rfl ?_
  refine zr_bipush (v := 58) dX12_init_1306 (by decide) ?_
  refine zr_bipush (v := 115) dX12_init_1308 (by decide) ?_
  refine zq_iast (N := 96) (k := 58) (ι' := evI_277) dX12_init_1310 rfl rfl (zvl (by decide)) (by decide) rfl ?_
  refine zr_dup dX12_init_1311 rfl ?_
  refine zr_bipush (v := 59) dX12_init_1312 (by decide) ?_
  refine zr_bipush (v := 97) dX12_init_1314 (by decide) ?_
  refine zq_iast (N := 96) (k := 59) (ι' := evI_278) dX12_init_1316 rfl rfl (zvl (by decide)) (by decide) rfl ?_
  refine zr_dup dX12_init_1317 rfl ?_
  refine zr_bipush (v := 60) dX12_init_1318 (by decide) ?_
  refine zr_bipush (v := 112) dX12_init_1320 (by decide) ?_
  refine zq_iast (N := 96) (k := 60) (ι' := evI_279) dX12_init_1322 rfl rfl (zvl (by decide)) (by decide) rfl ?_
  refine zr_dup dX12_init_1323 rfl ?_
  refine zr_bipush (v := 61) dX12_init_1324 (by decide) ?_
  refine zr_bipush (v := 32) dX12_init_1326 (by decide) ?_
  refine zq_iast (N := 96) (k := 61) (ι' := evI_280) dX12_init_1328 rfl rfl (zvl (by decide)) (by decide) rfl ?_
  refine zr_dup dX12_init_1329 rfl ?_
  refine zr_bipush (v := 62) dX12_init_1330 (by decide) ?_
  refine zr_bipush (v := 115) dX12_init_1332 (by decide) ?_
  refine zq_iast (N := 96) (k := 62) (ι' := evI_281) dX12_init_1334 rfl rfl (zvl (by decide)) (by decide) rfl ?_
  refine zr_dup dX12_init_1335 rfl ?_
  refine zr_bipush (v := 63) dX12_init_1336 (by decide) ?_
  refine zr_bipush (v := 116) dX12_init_1338 (by decide) ?_
  refine zq_iast (N := 96) (k := 63) (ι' := evI_282) dX12_init_1340 rfl rfl (zvl (by decide)) (by decide) rfl ?_
  refine zr_dup dX12_init_1341 rfl ?_
  refine zr_bipush (v := 64) dX12_init_1342 (by decide) ?_
  refine zr_bipush (v := 111) dX12_init_1344 (by decide) ?_
  refine zq_iast (N := 96) (k := 64) (ι' := evI_283) dX12_init_1346 rfl rfl (zvl (by decide)) (by decide) rfl ?_
  refine zr_dup dX12_init_1347 rfl ?_
  refine zr_bipush (v := 65) dX12_init_1348 (by decide) ?_
  refine zr_bipush (v := 99) dX12_init_1350 (by decide) ?_
  refine zq_iast (N := 96) (k := 65) (ι' := evI_284) dX12_init_1352 rfl rfl (zvl (by decide)) (by decide) rfl ?_
  refine zr_dup dX12_init_1353 rfl ?_
  refine zr_bipush (v := 66) dX12_init_1354 (by decide) ?_
  refine zr_bipush (v := 107) dX12_init_1356 (by decide) ?_
  refine zq_iast (N := 96) (k := 66) (ι' := evI_285) dX12_init_1358 rfl rfl (zvl (by decide)) (by decide) rfl ?_
  refine zr_dup dX12_init_1359 rfl ?_
  refine zr_bipush (v := 67) dX12_init_1360 (by decide) ?_
  refine zr_bipush (v := 32) dX12_init_1362 (by decide) ?_
  refine zq_iast (N := 96) (k := 67) (ι' := evI_286) dX12_init_1364 rfl rfl (zvl (by decide)) (by decide) rfl ?_
  refine zr_dup dX12_init_1365 rfl ?_
  refine zr_bipush (v := 68) dX12_init_1366 (by decide) ?_
  refine zr_bipush (v := 97) dX12_init_1368 (by decide) ?_
  refine zq_iast (N := 96) (k := 68) (ι' := evI_287) dX12_init_1370 rfl rfl (zvl (by decide)) (by decide) rfl ?_
  refine zr_dup dX12_init_1371 rfl ?_
  refine zr_bipush (v := 69) dX12_init_1372 (by decide) ?_
  refine zr_bipush (v := 100) dX12_init_1374 (by decide) ?_
  refine zq_iast (N := 96) (k := 69) (ι' := evI_288) dX12_init_1376 rfl rfl (zvl (by decide)) (by decide) rfl ?_
  refine zr_dup dX12_init_1377 rfl ?_
  refine zr_bipush (v := 70) dX12_init_1378 (by decide) ?_
  refine zr_bipush (v := 100) dX12_init_1380 (by decide) ?_
  refine zq_iast (N := 96) (k := 70) (ι' := evI_289) dX12_init_1382 rfl rfl (zvl (by decide)) (by decide) rfl ?_
  refine zr_dup dX12_init_1383 rfl ?_
  refine zr_bipush (v := 71) dX12_init_1384 (by decide) ?_
  refine zr_bipush (v := 32) dX12_init_1386 (by decide) ?_
  refine zq_iast (N := 96) (k := 71) (ι' := evI_290) dX12_init_1388 rfl rfl (zvl (by decide)) (by decide) rfl ?_
  refine zr_dup dX12_init_1389 rfl ?_
  refine zr_bipush (v := 72) dX12_init_1390 (by decide) ?_
  refine zr_bipush (v := 108) dX12_init_1392 (by decide) ?_
  refine zq_iast (N := 96) (k := 72) (ι' := evI_291) dX12_init_1394 rfl rfl (zvl (by decide)) (by decide) rfl ?_
  refine zr_dup dX12_init_1395 rfl ?_
  refine zr_bipush (v := 73) dX12_init_1396 (by decide) ?_
  refine zr_bipush (v := 101) dX12_init_1398 (by decide) ?_
  refine zq_iast (N := 96) (k := 73) (ι' := evI_292) dX12_init_1400 rfl rfl (zvl (by decide)) (by decide) rfl ?_
  refine zr_dup dX12_init_1401 rfl ?_
  refine zr_bipush (v := 74) dX12_init_1402 (by decide) ?_
  refine zr_bipush (v := 115) dX12_init_1404 (by decide) ?_
  refine zq_iast (N := 96) (k := 74) (ι' := evI_293) dX12_init_1406 rfl rfl (zvl (by decide)) (by decide) rfl ?_
  refine zr_dup dX12_init_1407 rfl ?_
  refine zr_bipush (v := 75) dX12_init_1408 (by decide) ?_
  refine zr_bipush (v := 115) dX12_init_1410 (by decide) ?_
  refine zq_iast (N := 96) (k := 75) (ι' := evI_294) dX12_init_1412 rfl rfl (zvl (by decide)) (by decide) rfl ?_
  refine zr_dup dX12_init_1413 rfl ?_
  refine zr_bipush (v := 76) dX12_init_1414 (by decide) ?_
  refine zr_bipush (v := 32) dX12_init_1416 (by decide) ?_
  refine zq_iast (N := 96) (k := 76) (ι' := evI_295) dX12_init_1418 rfl rfl (zvl (by decide)) (by decide) rfl ?_
  refine zr_dup dX12_init_1419 rfl ?_
  refine zr_bipush (v := 77) dX12_init_1420 (by decide) ?_
  refine zr_bipush (v := 98) dX12_init_1422 (by decide) ?_
  refine zq_iast (N := 96) (k := 77) (ι' := evI_296) dX12_init_1424 rfl rfl (zvl (by decide)) (by decide) rfl ?_
  refine zr_dup dX12_init_1425 rfl ?_
  refine zr_bipush (v := 78) dX12_init_1426 (by decide) ?_
  refine zr_bipush (v := 111) dX12_init_1428 (by decide) ?_
  refine zq_iast (N := 96) (k := 78) (ι' := evI_297) dX12_init_1430 rfl rfl (zvl (by decide)) (by decide) rfl ?_
  refine zr_dup dX12_init_1431 rfl ?_
  refine zr_bipush (v := 79) dX12_init_1432 (by decide) ?_
  refine zr_bipush (v := 116) dX12_init_1434 (by decide) ?_
  refine zq_iast (N := 96) (k := 79) (ι' := evI_298) dX12_init_1436 rfl rfl (zvl (by decide)) (by decide) rfl ?_
  refine zr_dup dX12_init_1437 rfl ?_
  refine zr_bipush (v := 80) dX12_init_1438 (by decide) ?_
  refine zr_bipush (v := 104) dX12_init_1440 (by decide) ?_
  refine zq_iast (N := 96) (k := 80) (ι' := evI_299) dX12_init_1442 rfl rfl (zvl (by decide)) (by decide) rfl ?_
  refine zr_dup dX12_init_1443 rfl ?_
  refine zr_bipush (v := 81) dX12_init_1444 (by decide) ?_
  refine zr_bipush (v := 32) dX12_init_1446 (by decide) ?_
  refine zq_iast (N := 96) (k := 81) (ι' := evI_300) dX12_init_1448 rfl rfl (zvl (by decide)) (by decide) rfl ?_
  refine zr_dup dX12_init_1449 rfl ?_
  refine zr_bipush (v := 82) dX12_init_1450 (by decide) ?_
  refine zr_bipush (v := 105) dX12_init_1452 (by decide) ?_
  refine zq_iast (N := 96) (k := 82) (ι' := evI_301) dX12_init_1454 rfl rfl (zvl (by decide)) (by decide) rfl ?_
  refine zr_dup dX12_init_1455 rfl ?_
  refine zr_bipush (v := 83) dX12_init_1456 (by decide) ?_
  refine zr_bipush (v := 110) dX12_init_1458 (by decide) ?_
  refine zq_iast (N := 96) (k := 83) (ι' := evI_302) dX12_init_1460 rfl rfl (zvl (by decide)) (by decide) rfl ?_
  refine zr_dup dX12_init_1461 rfl ?_
  refine zr_bipush (v := 84) dX12_init_1462 (by decide) ?_
  refine zr_bipush (v := 116) dX12_init_1464 (by decide) ?_
  refine zq_iast (N := 96) (k := 84) (ι' := evI_303) dX12_init_1466 rfl rfl (zvl (by decide)) (by decide) rfl ?_
  refine zr_dup dX12_init_1467 rfl ?_
  refine zr_bipush (v := 85) dX12_init_1468 (by decide) ?_
  refine zr_bipush (v := 111) dX12_init_1470 (by decide) ?_
  refine zq_iast (N := 96) (k := 85) (ι' := evI_304) dX12_init_1472 rfl rfl (zvl (by decide)) (by decide) rfl ?_
  refine zr_dup dX12_init_1473 rfl ?_
  refine zr_bipush (v := 86) dX12_init_1474 (by decide) ?_
  refine zr_bipush (v := 32) dX12_init_1476 (by decide) ?_
  refine zq_iast (N := 96) (k := 86) (ι' := evI_305) dX12_init_1478 rfl rfl (zvl (by decide)) (by decide) rfl ?_
  refine zr_dup dX12_init_1479 rfl ?_
  refine zr_bipush (v := 87) dX12_init_1480 (by decide) ?_
  refine zr_bipush (v := 97) dX12_init_1482 (by decide) ?_
  refine zq_iast (N := 96) (k := 87) (ι' := evI_306) dX12_init_1484 rfl rfl (zvl (by decide)) (by decide) rfl ?_
  refine zr_dup dX12_init_1485 rfl ?_
  refine zr_bipush (v := 88) dX12_init_1486 (by decide) ?_
  refine zr_bipush (v := 104) dX12_init_1488 (by decide) ?_
  refine zq_iast (N := 96) (k := 88) (ι' := evI_307) dX12_init_1490 rfl rfl (zvl (by decide)) (by decide) rfl ?_
  refine zr_dup dX12_init_1491 rfl ?_
  refine zr_bipush (v := 89) dX12_init_1492 (by decide) ?_
  refine zr_bipush (v := 101) dX12_init_1494 (by decide) ?_
  refine zq_iast (N := 96) (k := 89) (ι' := evI_308) dX12_init_1496 rfl rfl (zvl (by decide)) (by decide) rfl ?_
  refine zr_dup dX12_init_1497 rfl ?_
  refine zr_bipush (v := 90) dX12_init_1498 (by decide) ?_
  refine zr_bipush (v := 97) dX12_init_1500 (by decide) ?_
  refine zq_iast (N := 96) (k := 90) (ι' := evI_309) dX12_init_1502 rfl rfl (zvl (by decide)) (by decide) rfl ?_
  refine zr_dup dX12_init_1503 rfl ?_
  refine zr_bipush (v := 91) dX12_init_1504 (by decide) ?_
  refine zr_bipush (v := 100) dX12_init_1506 (by decide) ?_
  refine zq_iast (N := 96) (k := 91) (ι' := evI_310) dX12_init_1508 rfl rfl (zvl (by decide)) (by decide) rfl ?_
  refine zr_dup dX12_init_1509 rfl ?_
  refine zr_bipush (v := 92) dX12_init_1510 (by decide) ?_
  refine zr_bipush (v := 32) dX12_init_1512 (by decide) ?_
  refine zq_iast (N := 96) (k := 92) (ι' := evI_311) dX12_init_1514 rfl rfl (zvl (by decide)) (by decide) rfl ?_
  refine zr_dup dX12_init_1515 rfl ?_
  refine zr_bipush (v := 93) dX12_init_1516 (by decide) ?_
  refine zr_bipush (v := 116) dX12_init_1518 (by decide) ?_
  refine zq_iast (N := 96) (k := 93) (ι' := evI_312) dX12_init_1520 rfl rfl (zvl (by decide)) (by decide) rfl ?_
  refine zr_dup dX12_init_1521 rfl ?_
  refine zr_bipush (v := 94) dX12_init_1522 (by decide) ?_
  refine zr_bipush (v := 111) dX12_init_1524 (by decide) ?_
  refine zq_iast (N := 96) (k := 94) (ι' := evI_313) dX12_init_1526 rfl rfl (zvl (by decide)) (by decide) rfl ?_
  refine zr_dup dX12_init_1527 rfl ?_
  refine zr_bipush (v := 95) dX12_init_1528 (by decide) ?_
  refine zr_bipush (v := 32) dX12_init_1530 (by decide) ?_
  refine zq_iast (N := 96) (k := 95) (ι' := evI_314) dX12_init_1532 rfl rfl (zvl (by decide)) (by decide) rfl ?_
  refine zq_putR (ρ' := evR_106) dX12_init_1533 zf_X12_78 (Or.inr ⟨rfl, _, _, _, rfl, rfl⟩) rfl rfl rfl rfl rfl rfl ?_
  refine zr_aload_n dX12_init_1536 rfl rfl ?_
  refine zr_iconst (v := (-1 : Int32)) dX12_init_1537 (by decide) ?_
  refine zq_putI (ι' := evI_315) dX12_init_1538 zf_X12_81 rfl rfl rfl rfl rfl rfl ?_
  refine zr_aload_n dX12_init_1541 rfl rfl ?_
  refine zr_bipush (v := 12) dX12_init_1542 (by decide) ?_
  refine zq_newI (n := 108) (a := 107) (n' := 109) (N := 12) (bc' := 31) (bs' := 136174) dX12_init_1544 (by decide) (by decide) rfl rfl rfl (Nat.le_of_ble_eq_true rfl) (Nat.le_of_ble_eq_true rfl) (Nat.le_of_ble_eq_true rfl) ?_
  refine zq_putR (ρ' := evR_107) dX12_init_1546 zf_X12_84 (Or.inr ⟨rfl, _, _, _, rfl, rfl⟩) rfl rfl rfl rfl rfl rfl ?_
  refine zr_aload_n dX12_init_1549 rfl rfl ?_
  refine zr_bipush (v := 48) dX12_init_1550 (by decide) ?_
  refine zq_newI (n := 109) (a := 108) (n' := 110) (N := 48) (bc' := 30) (bs' := 136126) dX12_init_1552 (by decide) (by decide) rfl rfl rfl (Nat.le_of_ble_eq_true rfl) (Nat.le_of_ble_eq_true rfl) (Nat.le_of_ble_eq_true rfl) ?_
  refine zq_putR (ρ' := evR_108) dX12_init_1554 zf_X12_87 (Or.inr ⟨rfl, _, _, _, rfl, rfl⟩) rfl rfl rfl rfl rfl rfl ?_
  refine zr_aload_n dX12_init_1557 rfl rfl ?_
  refine zr_bipush (v := 48) dX12_init_1558 (by decide) ?_
  refine zq_newI (n := 110) (a := 109) (n' := 111) (N := 48) (bc' := 29) (bs' := 136078) dX12_init_1560 (by decide) (by decide) rfl rfl rfl (Nat.le_of_ble_eq_true rfl) (Nat.le_of_ble_eq_true rfl) (Nat.le_of_ble_eq_true rfl) ?_
  refine zq_putR (ρ' := evR_109) dX12_init_1562 zf_X12_90 (Or.inr ⟨rfl, _, _, _, rfl, rfl⟩) rfl rfl rfl rfl rfl rfl ?_
  refine zr_aload_n dX12_init_1565 rfl rfl ?_
  refine zr_sipush (v := 2304) dX12_init_1566 (by decide) ?_
  refine zq_newI (n := 111) (a := 110) (n' := 112) (N := 2304) (bc' := 28) (bs' := 133774) dX12_init_1569 (by decide) (by decide) rfl rfl rfl (Nat.le_of_ble_eq_true rfl) (Nat.le_of_ble_eq_true rfl) (Nat.le_of_ble_eq_true rfl) ?_
  refine zq_putR (ρ' := evR_110) dX12_init_1571 zf_X12_93 (Or.inr ⟨rfl, _, _, _, rfl, rfl⟩) rfl rfl rfl rfl rfl rfl ?_
  refine zr_aload_n dX12_init_1574 rfl rfl ?_
  refine zr_bipush (v := 48) dX12_init_1575 (by decide) ?_
  refine zq_newI (n := 112) (a := 111) (n' := 113) (N := 48) (bc' := 27) (bs' := 133726) dX12_init_1577 (by decide) (by decide) rfl rfl rfl (Nat.le_of_ble_eq_true rfl) (Nat.le_of_ble_eq_true rfl) (Nat.le_of_ble_eq_true rfl) ?_
  refine zq_putR (ρ' := evR_111) dX12_init_1579 zf_X12_96 (Or.inr ⟨rfl, _, _, _, rfl, rfl⟩) rfl rfl rfl rfl rfl rfl ?_
  refine zr_aload_n dX12_init_1582 rfl rfl ?_
  refine zr_bipush (v := 48) dX12_init_1583 (by decide) ?_
  refine zq_newI (n := 113) (a := 112) (n' := 114) (N := 48) (bc' := 26) (bs' := 133678) dX12_init_1585 (by decide) (by decide) rfl rfl rfl (Nat.le_of_ble_eq_true rfl) (Nat.le_of_ble_eq_true rfl) (Nat.le_of_ble_eq_true rfl) ?_
  refine zq_putR (ρ' := evR_112) dX12_init_1587 zf_X12_99 (Or.inr ⟨rfl, _, _, _, rfl, rfl⟩) rfl rfl rfl rfl rfl rfl ?_
  refine zr_aload_n dX12_init_1590 rfl rfl ?_
  refine zr_bipush (v := 48) dX12_init_1591 (by decide) ?_
  refine zq_newI (n := 114) (a := 113) (n' := 115) (N := 48) (bc' := 25) (bs' := 133630) dX12_init_1593 (by decide) (by decide) rfl rfl rfl (Nat.le_of_ble_eq_true rfl) (Nat.le_of_ble_eq_true rfl) (Nat.le_of_ble_eq_true rfl) ?_
  refine zq_putR (ρ' := evR_113) dX12_init_1595 zf_X12_102 (Or.inr ⟨rfl, _, _, _, rfl, rfl⟩) rfl rfl rfl rfl rfl rfl ?_
  refine zr_aload_n dX12_init_1598 rfl rfl ?_
  refine zr_bipush (v := 48) dX12_init_1599 (by decide) ?_
  refine zq_newZ (n := 115) (a := 114) (n' := 116) (N := 48) (bc' := 24) (bs' := 133582) dX12_init_1601 (by decide) (by decide) rfl rfl rfl (Nat.le_of_ble_eq_true rfl) (Nat.le_of_ble_eq_true rfl) (Nat.le_of_ble_eq_true rfl) ?_
  refine zq_putR (ρ' := evR_114) dX12_init_1603 zf_X12_105 (Or.inr ⟨rfl, _, _, _, rfl, rfl⟩) rfl rfl rfl rfl rfl rfl ?_
  refine zr_aload_n dX12_init_1606 rfl rfl ?_
  refine zr_bipush (v := 48) dX12_init_1607 (by decide) ?_
  refine zq_newZ (n := 116) (a := 115) (n' := 117) (N := 48) (bc' := 23) (bs' := 133534) dX12_init_1609 (by decide) (by decide) rfl rfl rfl (Nat.le_of_ble_eq_true rfl) (Nat.le_of_ble_eq_true rfl) (Nat.le_of_ble_eq_true rfl) ?_
  refine zq_putR (ρ' := evR_115) dX12_init_1611 zf_X12_108 (Or.inr ⟨rfl, _, _, _, rfl, rfl⟩) rfl rfl rfl rfl rfl rfl ?_
  refine zr_aload_n dX12_init_1614 rfl rfl ?_
  refine zr_iconst (v := (-1 : Int32)) dX12_init_1615 (by decide) ?_
  refine zq_putI (ι' := evI_316) dX12_init_1616 zf_X12_111 rfl rfl rfl rfl rfl rfl ?_
  refine zr_aload_n dX12_init_1619 rfl rfl ?_
  refine zr_iconst (v := (-1 : Int32)) dX12_init_1620 (by decide) ?_
  refine zq_putI (ι' := evI_317) dX12_init_1621 zf_X12_114 rfl rfl rfl rfl rfl rfl ?_
  refine zr_aload_n dX12_init_1624 rfl rfl ?_
  refine zr_bipush (v := 48) dX12_init_1625 (by decide) ?_
  refine zq_newI (n := 117) (a := 116) (n' := 118) (N := 48) (bc' := 22) (bs' := 133486) dX12_init_1627 (by decide) (by decide) rfl rfl rfl (Nat.le_of_ble_eq_true rfl) (Nat.le_of_ble_eq_true rfl) (Nat.le_of_ble_eq_true rfl) ?_
  refine zq_putR (ρ' := evR_116) dX12_init_1629 zf_X12_117 (Or.inr ⟨rfl, _, _, _, rfl, rfl⟩) rfl rfl rfl rfl rfl rfl ?_
  refine zr_aload_n dX12_init_1632 rfl rfl ?_
  refine zr_bipush (v := 48) dX12_init_1633 (by decide) ?_
  refine zq_newI (n := 118) (a := 117) (n' := 119) (N := 48) (bc' := 21) (bs' := 133438) dX12_init_1635 (by decide) (by decide) rfl rfl rfl (Nat.le_of_ble_eq_true rfl) (Nat.le_of_ble_eq_true rfl) (Nat.le_of_ble_eq_true rfl) ?_
  refine zq_putR (ρ' := evR_117) dX12_init_1637 zf_X12_120 (Or.inr ⟨rfl, _, _, _, rfl, rfl⟩) rfl rfl rfl rfl rfl rfl ?_
  refine zr_aload_n dX12_init_1640 rfl rfl ?_
  refine zr_bipush (v := 48) dX12_init_1641 (by decide) ?_
  refine zq_newI (n := 119) (a := 118) (n' := 120) (N := 48) (bc' := 20) (bs' := 133390) dX12_init_1643 (by decide) (by decide) rfl rfl rfl (Nat.le_of_ble_eq_true rfl) (Nat.le_of_ble_eq_true rfl) (Nat.le_of_ble_eq_true rfl) ?_
  refine zq_putR (ρ' := evR_118) dX12_init_1645 zf_X12_123 (Or.inr ⟨rfl, _, _, _, rfl, rfl⟩) rfl rfl rfl rfl rfl rfl ?_
  refine zr_aload_n dX12_init_1648 rfl rfl ?_
  refine zr_bipush (v := 96) dX12_init_1649 (by decide) ?_
  refine zq_newI (n := 120) (a := 119) (n' := 121) (N := 96) (bc' := 19) (bs' := 133294) dX12_init_1651 (by decide) (by decide) rfl rfl rfl (Nat.le_of_ble_eq_true rfl) (Nat.le_of_ble_eq_true rfl) (Nat.le_of_ble_eq_true rfl) ?_
  refine zq_putR (ρ' := evR_119) dX12_init_1653 zf_X12_126 (Or.inr ⟨rfl, _, _, _, rfl, rfl⟩) rfl rfl rfl rfl rfl rfl ?_
  refine zr_aload_n dX12_init_1656 rfl rfl ?_
  refine zr_bipush (v := 96) dX12_init_1657 (by decide) ?_
  refine zq_newZ (n := 121) (a := 120) (n' := 122) (N := 96) (bc' := 18) (bs' := 133198) dX12_init_1659 (by decide) (by decide) rfl rfl rfl (Nat.le_of_ble_eq_true rfl) (Nat.le_of_ble_eq_true rfl) (Nat.le_of_ble_eq_true rfl) ?_
  refine zq_putR (ρ' := evR_120) dX12_init_1661 zf_X12_129 (Or.inr ⟨rfl, _, _, _, rfl, rfl⟩) rfl rfl rfl rfl rfl rfl ?_
  refine zr_aload_n dX12_init_1664 rfl rfl ?_
  refine zr_iconst (v := 2) dX12_init_1665 (by decide) ?_
  refine zq_newI (n := 122) (a := 121) (n' := 123) (N := 2) (bc' := 17) (bs' := 133196) dX12_init_1666 (by decide) (by decide) rfl rfl rfl (Nat.le_of_ble_eq_true rfl) (Nat.le_of_ble_eq_true rfl) (Nat.le_of_ble_eq_true rfl) ?_
  refine zq_putR (ρ' := evR_121) dX12_init_1668 zf_X12_132 (Or.inr ⟨rfl, _, _, _, rfl, rfl⟩) rfl rfl rfl rfl rfl rfl ?_
  refine zr_aload_n dX12_init_1671 rfl rfl ?_
  refine zr_iconst (v := 2) dX12_init_1672 (by decide) ?_
  refine zq_newI (n := 123) (a := 122) (n' := 124) (N := 2) (bc' := 16) (bs' := 133194) dX12_init_1673 (by decide) (by decide) rfl rfl rfl (Nat.le_of_ble_eq_true rfl) (Nat.le_of_ble_eq_true rfl) (Nat.le_of_ble_eq_true rfl) ?_
  refine zq_putR (ρ' := evR_122) dX12_init_1675 zf_X12_135 (Or.inr ⟨rfl, _, _, _, rfl, rfl⟩) rfl rfl rfl rfl rfl rfl ?_
  refine zr_aload_n dX12_init_1678 rfl rfl ?_
  refine zr_iconst (v := 2) dX12_init_1679 (by decide) ?_
  refine zq_newI (n := 124) (a := 123) (n' := 125) (N := 2) (bc' := 15) (bs' := 133192) dX12_init_1680 (by decide) (by decide) rfl rfl rfl (Nat.le_of_ble_eq_true rfl) (Nat.le_of_ble_eq_true rfl) (Nat.le_of_ble_eq_true rfl) ?_
  refine zq_putR (ρ' := evR_123) dX12_init_1682 zf_X12_138 (Or.inr ⟨rfl, _, _, _, rfl, rfl⟩) rfl rfl rfl rfl rfl rfl ?_
  refine zr_aload_n dX12_init_1685 rfl rfl ?_
  refine zr_bipush (v := 16) dX12_init_1686 (by decide) ?_
  refine zq_newI (n := 125) (a := 124) (n' := 126) (N := 16) (bc' := 14) (bs' := 133176) dX12_init_1688 (by decide) (by decide) rfl rfl rfl (Nat.le_of_ble_eq_true rfl) (Nat.le_of_ble_eq_true rfl) (Nat.le_of_ble_eq_true rfl) ?_
  refine zq_putR (ρ' := evR_124) dX12_init_1690 zf_X12_141 (Or.inr ⟨rfl, _, _, _, rfl, rfl⟩) rfl rfl rfl rfl rfl rfl ?_
  refine zr_aload_n dX12_init_1693 rfl rfl ?_
  refine zr_bipush (v := 16) dX12_init_1694 (by decide) ?_
  refine zq_newI (n := 126) (a := 125) (n' := 127) (N := 16) (bc' := 13) (bs' := 133160) dX12_init_1696 (by decide) (by decide) rfl rfl rfl (Nat.le_of_ble_eq_true rfl) (Nat.le_of_ble_eq_true rfl) (Nat.le_of_ble_eq_true rfl) ?_
  refine zq_putR (ρ' := evR_125) dX12_init_1698 zf_X12_144 (Or.inr ⟨rfl, _, _, _, rfl, rfl⟩) rfl rfl rfl rfl rfl rfl ?_
  refine zr_aload_n dX12_init_1701 rfl rfl ?_
  refine zr_bipush (v := 16) dX12_init_1702 (by decide) ?_
  refine zq_newI (n := 127) (a := 126) (n' := 128) (N := 16) (bc' := 12) (bs' := 133144) dX12_init_1704 (by decide) (by decide) rfl rfl rfl (Nat.le_of_ble_eq_true rfl) (Nat.le_of_ble_eq_true rfl) (Nat.le_of_ble_eq_true rfl) ?_
  refine zq_putR (ρ' := evR_126) dX12_init_1706 zf_X12_147 (Or.inr ⟨rfl, _, _, _, rfl, rfl⟩) rfl rfl rfl rfl rfl rfl ?_
  refine zr_aload_n dX12_init_1709 rfl rfl ?_
  refine zr_bipush (v := 16) dX12_init_1710 (by decide) ?_
  refine zq_newI (n := 128) (a := 127) (n' := 129) (N := 16) (bc' := 11) (bs' := 133128) dX12_init_1712 (by decide) (by decide) rfl rfl rfl (Nat.le_of_ble_eq_true rfl) (Nat.le_of_ble_eq_true rfl) (Nat.le_of_ble_eq_true rfl) ?_
  refine zq_putR (ρ' := evR_127) dX12_init_1714 zf_X12_150 (Or.inr ⟨rfl, _, _, _, rfl, rfl⟩) rfl rfl rfl rfl rfl rfl ?_
  refine zr_aload_n dX12_init_1717 rfl rfl ?_
  refine zr_bipush (v := 16) dX12_init_1718 (by decide) ?_
  refine zq_newI (n := 129) (a := 128) (n' := 130) (N := 16) (bc' := 10) (bs' := 133112) dX12_init_1720 (by decide) (by decide) rfl rfl rfl (Nat.le_of_ble_eq_true rfl) (Nat.le_of_ble_eq_true rfl) (Nat.le_of_ble_eq_true rfl) ?_
  refine zq_putR (ρ' := evR_128) dX12_init_1722 zf_X12_153 (Or.inr ⟨rfl, _, _, _, rfl, rfl⟩) rfl rfl rfl rfl rfl rfl ?_
  refine zr_aload_n dX12_init_1725 rfl rfl ?_
  refine zr_ldc dX12_init_1726 zk_X12_156 ?_
  refine zq_newI (n := 130) (a := 129) (n' := 131) (N := 65536) (bc' := 9) (bs' := 67576) dX12_init_1728 (by decide) (by decide) rfl rfl rfl (Nat.le_of_ble_eq_true rfl) (Nat.le_of_ble_eq_true rfl) (Nat.le_of_ble_eq_true rfl) ?_
  refine zq_putR (ρ' := evR_129) dX12_init_1730 zf_X12_157 (Or.inr ⟨rfl, _, _, _, rfl, rfl⟩) rfl rfl rfl rfl rfl rfl ?_
  refine zr_aload_n dX12_init_1733 rfl rfl ?_
  refine zr_ldc dX12_init_1734 zk_X12_156 ?_
  refine zq_newJ (n := 131) (a := 130) (n' := 132) (N := 65536) (bc' := 8) (bs' := 2040) dX12_init_1736 (by decide) (by decide) rfl rfl rfl (Nat.le_of_ble_eq_true rfl) (Nat.le_of_ble_eq_true rfl) (Nat.le_of_ble_eq_true rfl) ?_
  refine zq_putR (ρ' := evR_130) dX12_init_1738 zf_X12_160 (Or.inr ⟨rfl, _, _, _, rfl, rfl⟩) rfl rfl rfl rfl rfl rfl ?_
  refine zr_aload_n dX12_init_1741 rfl rfl ?_
  refine zr_sipush (v := 200) dX12_init_1742 (by decide) ?_
  refine zq_newI (n := 132) (a := 131) (n' := 133) (N := 200) (bc' := 7) (bs' := 1840) dX12_init_1745 (by decide) (by decide) rfl rfl rfl (Nat.le_of_ble_eq_true rfl) (Nat.le_of_ble_eq_true rfl) (Nat.le_of_ble_eq_true rfl) ?_
  refine zq_putR (ρ' := evR_131) dX12_init_1747 zf_X12_164 (Or.inr ⟨rfl, _, _, _, rfl, rfl⟩) rfl rfl rfl rfl rfl rfl ?_
  refine zr_aload_n dX12_init_1750 rfl rfl ?_
  refine zr_sipush (v := 200) dX12_init_1751 (by decide) ?_
  refine zq_newZ (n := 133) (a := 132) (n' := 134) (N := 200) (bc' := 6) (bs' := 1640) dX12_init_1754 (by decide) (by decide) rfl rfl rfl (Nat.le_of_ble_eq_true rfl) (Nat.le_of_ble_eq_true rfl) (Nat.le_of_ble_eq_true rfl) ?_
  refine zq_putR (ρ' := evR_132) dX12_init_1756 zf_X12_167 (Or.inr ⟨rfl, _, _, _, rfl, rfl⟩) rfl rfl rfl rfl rfl rfl ?_
  refine zr_aload_n dX12_init_1759 rfl rfl ?_
  refine zr_sipush (v := 1000) dX12_init_1760 (by decide) ?_
  refine zq_newI (n := 134) (a := 133) (n' := 135) (N := 1000) (bc' := 5) (bs' := 640) dX12_init_1763 (by decide) (by decide) rfl rfl rfl (Nat.le_of_ble_eq_true rfl) (Nat.le_of_ble_eq_true rfl) (Nat.le_of_ble_eq_true rfl) ?_
  refine zq_putR (ρ' := evR_133) dX12_init_1765 zf_X12_170 (Or.inr ⟨rfl, _, _, _, rfl, rfl⟩) rfl rfl rfl rfl rfl rfl ?_
  refine zr_aload_n dX12_init_1768 rfl rfl ?_
  refine zr_bipush (v := 60) dX12_init_1769 (by decide) ?_
  refine zq_newI (n := 135) (a := 134) (n' := 136) (N := 60) (bc' := 4) (bs' := 580) dX12_init_1771 (by decide) (by decide) rfl rfl rfl (Nat.le_of_ble_eq_true rfl) (Nat.le_of_ble_eq_true rfl) (Nat.le_of_ble_eq_true rfl) ?_
  refine zq_putR (ρ' := evR_134) dX12_init_1773 zf_X12_173 (Or.inr ⟨rfl, _, _, _, rfl, rfl⟩) rfl rfl rfl rfl rfl rfl ?_
  refine zr_aload_n dX12_init_1776 rfl rfl ?_
  refine zr_bipush (v := 60) dX12_init_1777 (by decide) ?_
  refine zq_newI (n := 136) (a := 135) (n' := 137) (N := 60) (bc' := 3) (bs' := 520) dX12_init_1779 (by decide) (by decide) rfl rfl rfl (Nat.le_of_ble_eq_true rfl) (Nat.le_of_ble_eq_true rfl) (Nat.le_of_ble_eq_true rfl) ?_
  refine zq_putR (ρ' := evR_135) dX12_init_1781 zf_X12_176 (Or.inr ⟨rfl, _, _, _, rfl, rfl⟩) rfl rfl rfl rfl rfl rfl ?_
  refine zr_aload_n dX12_init_1784 rfl rfl ?_
  refine zr_bipush (v := 60) dX12_init_1785 (by decide) ?_
  refine zq_newI (n := 137) (a := 136) (n' := 138) (N := 60) (bc' := 2) (bs' := 460) dX12_init_1787 (by decide) (by decide) rfl rfl rfl (Nat.le_of_ble_eq_true rfl) (Nat.le_of_ble_eq_true rfl) (Nat.le_of_ble_eq_true rfl) ?_
  refine zq_putR (ρ' := evR_136) dX12_init_1789 zf_X12_179 (Or.inr ⟨rfl, _, _, _, rfl, rfl⟩) rfl rfl rfl rfl rfl rfl ?_
  refine zr_aload_n dX12_init_1792 rfl rfl ?_
  refine zr_bipush (v := 60) dX12_init_1793 (by decide) ?_
  refine zq_newI (n := 138) (a := 137) (n' := 139) (N := 60) (bc' := 1) (bs' := 400) dX12_init_1795 (by decide) (by decide) rfl rfl rfl (Nat.le_of_ble_eq_true rfl) (Nat.le_of_ble_eq_true rfl) (Nat.le_of_ble_eq_true rfl) ?_
  refine zq_putR (ρ' := evR_137) dX12_init_1797 zf_X12_182 (Or.inr ⟨rfl, _, _, _, rfl, rfl⟩) rfl rfl rfl rfl rfl rfl ?_
  refine zr_aload_n dX12_init_1800 rfl rfl ?_
  refine zr_sipush (v := 400) dX12_init_1801 (by decide) ?_
  refine zq_newI (n := 139) (a := 138) (n' := 140) (N := 400) (bc' := 0) (bs' := 0) dX12_init_1804 (by decide) (by decide) rfl rfl rfl (Nat.le_of_ble_eq_true rfl) (Nat.le_of_ble_eq_true rfl) (Nat.le_of_ble_eq_true rfl) ?_
  refine zq_putR (ρ' := evR_138) dX12_init_1806 zf_X12_185 (Or.inr ⟨rfl, _, _, _, rfl, rfl⟩) rfl rfl rfl rfl rfl rfl ?_
  exact zr_return_ dX12_init_1809 rfl (q _)
