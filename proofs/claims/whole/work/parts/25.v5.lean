set_option maxHeartbeats 2000000 in
theorem vX12_isNumber_0 {G : Gp} {bc bs : Nat} {Q : zPost} {S : zSh} {I : zFI} {L : zFL} {v1 : Int32} {v2 : Int32} {v3 : Int32} (hS : zStd S)  (k : ZW G mX12_isNumber fX12_isNumber lX12_isNumber 3 [zo G 84, .int v1, .int v2, .int v3, .int (0 : Int32), .null, .null] [] S I L bc bs Q) : ZW G mX12_isNumber fX12_isNumber lX12_isNumber 0 [zo G 84, .int v1, .int v2, .int v3, .null, .null, .null] [] S I L bc bs Q := by
  refine zr_iconst (v := 0) dX12_isNumber_0 (by decide) ?_
  refine zr_istore dX12_isNumber_1 (Nat.le_of_ble_eq_true rfl) rfl ?_
  exact k
set_option maxHeartbeats 2000000 in
theorem vX12_isNumber_3 {G : Gp} {bc bs : Nat} {Q : zPost} {S : zSh} {I : zFI} {L : zFL} {v1 : Int32} {v2 : Int32} {v3 : Int32} {v4 : Int32} (hS : zStd S)  (k : (((4 : Int32) ≤ v4 → Q (some (.int (0 : Int32))) S I L) ∧ (¬ (4 : Int32) ≤ v4 → ((¬ (v4 - v4 / (2 : Int32) * (2 : Int32)) = (1 : Int32) → ((v4 ≤ (1 : Int32) → (((0 : Int32) = 0 → vp_in ((50 : Int32) * v1) 150 ∧ (((0 : Int32) = 0 → ((¬ (I 105 ((50 : Int32) * v1).toNatClampNeg) = (2 : Int32) → ZC G mX12_writes fX12_writes lX12_writes [zo G 84, .int v3, .int (0 : Int32)] S I L 0 0 (fun w S' I1 L1 => w = none ∧ S = S' ∧ ZC G mX12_isForm fX12_isForm lX12_isForm [zo G 84, .int v2, .int (0 : Int32)] S I1 L1 0 0 (fun w S' I2 L2 => ∃ r2 : Int32, w = some (.int r2) ∧ S = S' ∧ ((r2 = 0 → ZW G mX12_isNumber fX12_isNumber lX12_isNumber 3 [zo G 84, .int v1, .int v2, .int v3, .int (v4 + 1), .null, .null] [] S I2 L2 bc bs Q) ∧ (¬ r2 = 0 → Q (some (.int (1 : Int32))) S I2 L2))))) ∧ ((I 105 ((50 : Int32) * v1).toNatClampNeg) = (2 : Int32) → ZW G mX12_isNumber fX12_isNumber lX12_isNumber 3 [zo G 84, .int v1, .int v2, .int v3, .int (v4 + 1), .null, .null] [] S I L bc bs Q))) ∧ (¬ (0 : Int32) = 0 → ((¬ (I 105 ((50 : Int32) * v1).toNatClampNeg) = (1 : Int32) → ZC G mX12_writes fX12_writes lX12_writes [zo G 84, .int v3, .int (0 : Int32)] S I L 0 0 (fun w S' I3 L3 => w = none ∧ S = S' ∧ ZC G mX12_isForm fX12_isForm lX12_isForm [zo G 84, .int v2, .int (0 : Int32)] S I3 L3 0 0 (fun w S' I4 L4 => ∃ r4 : Int32, w = some (.int r4) ∧ S = S' ∧ ((r4 = 0 → ZW G mX12_isNumber fX12_isNumber lX12_isNumber 3 [zo G 84, .int v1, .int v2, .int v3, .int (v4 + 1), .null, .null] [] S I4 L4 bc bs Q) ∧ (¬ r4 = 0 → Q (some (.int (1 : Int32))) S I4 L4))))) ∧ ((I 105 ((50 : Int32) * v1).toNatClampNeg) = (1 : Int32) → ZW G mX12_isNumber fX12_isNumber lX12_isNumber 3 [zo G 84, .int v1, .int v2, .int v3, .int (v4 + 1), .null, .null] [] S I L bc bs Q))))) ∧ (¬ (0 : Int32) = 0 → vp_in (((50 : Int32) * v1) + (1 : Int32)) 150 ∧ (((I 105 (((50 : Int32) * v1) + (1 : Int32)).toNatClampNeg) = 0 → ZW G mX12_isNumber fX12_isNumber lX12_isNumber 3 [zo G 84, .int v1, .int v2, .int v3, .int (v4 + 1), .null, .null] [] S I L bc bs Q) ∧ (¬ (I 105 (((50 : Int32) * v1) + (1 : Int32)).toNatClampNeg) = 0 → vp_in ((50 : Int32) * v1) 150 ∧ (((0 : Int32) = 0 → ((¬ (I 105 ((50 : Int32) * v1).toNatClampNeg) = (2 : Int32) → ZC G mX12_writes fX12_writes lX12_writes [zo G 84, .int v3, .int (0 : Int32)] S I L 0 0 (fun w S' I5 L5 => w = none ∧ S = S' ∧ ZC G mX12_isForm fX12_isForm lX12_isForm [zo G 84, .int v2, .int (0 : Int32)] S I5 L5 0 0 (fun w S' I6 L6 => ∃ r6 : Int32, w = some (.int r6) ∧ S = S' ∧ ((r6 = 0 → ZW G mX12_isNumber fX12_isNumber lX12_isNumber 3 [zo G 84, .int v1, .int v2, .int v3, .int (v4 + 1), .null, .null] [] S I6 L6 bc bs Q) ∧ (¬ r6 = 0 → Q (some (.int (1 : Int32))) S I6 L6))))) ∧ ((I 105 ((50 : Int32) * v1).toNatClampNeg) = (2 : Int32) → ZW G mX12_isNumber fX12_isNumber lX12_isNumber 3 [zo G 84, .int v1, .int v2, .int v3, .int (v4 + 1), .null, .null] [] S I L bc bs Q))) ∧ (¬ (0 : Int32) = 0 → ((¬ (I 105 ((50 : Int32) * v1).toNatClampNeg) = (1 : Int32) → ZC G mX12_writes fX12_writes lX12_writes [zo G 84, .int v3, .int (0 : Int32)] S I L 0 0 (fun w S' I7 L7 => w = none ∧ S = S' ∧ ZC G mX12_isForm fX12_isForm lX12_isForm [zo G 84, .int v2, .int (0 : Int32)] S I7 L7 0 0 (fun w S' I8 L8 => ∃ r8 : Int32, w = some (.int r8) ∧ S = S' ∧ ((r8 = 0 → ZW G mX12_isNumber fX12_isNumber lX12_isNumber 3 [zo G 84, .int v1, .int v2, .int v3, .int (v4 + 1), .null, .null] [] S I8 L8 bc bs Q) ∧ (¬ r8 = 0 → Q (some (.int (1 : Int32))) S I8 L8))))) ∧ ((I 105 ((50 : Int32) * v1).toNatClampNeg) = (1 : Int32) → ZW G mX12_isNumber fX12_isNumber lX12_isNumber 3 [zo G 84, .int v1, .int v2, .int v3, .int (v4 + 1), .null, .null] [] S I L bc bs Q))))))))) ∧ (¬ v4 ≤ (1 : Int32) → (((1 : Int32) = 0 → vp_in ((50 : Int32) * v1) 150 ∧ (((0 : Int32) = 0 → ((¬ (I 105 ((50 : Int32) * v1).toNatClampNeg) = (2 : Int32) → ZC G mX12_writes fX12_writes lX12_writes [zo G 84, .int v3, .int (0 : Int32)] S I L 0 0 (fun w S' I9 L9 => w = none ∧ S = S' ∧ ZC G mX12_isForm fX12_isForm lX12_isForm [zo G 84, .int v2, .int (1 : Int32)] S I9 L9 0 0 (fun w S' I10 L10 => ∃ r10 : Int32, w = some (.int r10) ∧ S = S' ∧ ((r10 = 0 → ZW G mX12_isNumber fX12_isNumber lX12_isNumber 3 [zo G 84, .int v1, .int v2, .int v3, .int (v4 + 1), .null, .null] [] S I10 L10 bc bs Q) ∧ (¬ r10 = 0 → Q (some (.int (1 : Int32))) S I10 L10))))) ∧ ((I 105 ((50 : Int32) * v1).toNatClampNeg) = (2 : Int32) → ZW G mX12_isNumber fX12_isNumber lX12_isNumber 3 [zo G 84, .int v1, .int v2, .int v3, .int (v4 + 1), .null, .null] [] S I L bc bs Q))) ∧ (¬ (0 : Int32) = 0 → ((¬ (I 105 ((50 : Int32) * v1).toNatClampNeg) = (1 : Int32) → ZC G mX12_writes fX12_writes lX12_writes [zo G 84, .int v3, .int (0 : Int32)] S I L 0 0 (fun w S' I11 L11 => w = none ∧ S = S' ∧ ZC G mX12_isForm fX12_isForm lX12_isForm [zo G 84, .int v2, .int (1 : Int32)] S I11 L11 0 0 (fun w S' I12 L12 => ∃ r12 : Int32, w = some (.int r12) ∧ S = S' ∧ ((r12 = 0 → ZW G mX12_isNumber fX12_isNumber lX12_isNumber 3 [zo G 84, .int v1, .int v2, .int v3, .int (v4 + 1), .null, .null] [] S I12 L12 bc bs Q) ∧ (¬ r12 = 0 → Q (some (.int (1 : Int32))) S I12 L12))))) ∧ ((I 105 ((50 : Int32) * v1).toNatClampNeg) = (1 : Int32) → ZW G mX12_isNumber fX12_isNumber lX12_isNumber 3 [zo G 84, .int v1, .int v2, .int v3, .int (v4 + 1), .null, .null] [] S I L bc bs Q))))) ∧ (¬ (1 : Int32) = 0 → vp_in (((50 : Int32) * v1) + (1 : Int32)) 150 ∧ (((I 105 (((50 : Int32) * v1) + (1 : Int32)).toNatClampNeg) = 0 → ZW G mX12_isNumber fX12_isNumber lX12_isNumber 3 [zo G 84, .int v1, .int v2, .int v3, .int (v4 + 1), .null, .null] [] S I L bc bs Q) ∧ (¬ (I 105 (((50 : Int32) * v1) + (1 : Int32)).toNatClampNeg) = 0 → vp_in ((50 : Int32) * v1) 150 ∧ (((0 : Int32) = 0 → ((¬ (I 105 ((50 : Int32) * v1).toNatClampNeg) = (2 : Int32) → ZC G mX12_writes fX12_writes lX12_writes [zo G 84, .int v3, .int (0 : Int32)] S I L 0 0 (fun w S' I13 L13 => w = none ∧ S = S' ∧ ZC G mX12_isForm fX12_isForm lX12_isForm [zo G 84, .int v2, .int (1 : Int32)] S I13 L13 0 0 (fun w S' I14 L14 => ∃ r14 : Int32, w = some (.int r14) ∧ S = S' ∧ ((r14 = 0 → ZW G mX12_isNumber fX12_isNumber lX12_isNumber 3 [zo G 84, .int v1, .int v2, .int v3, .int (v4 + 1), .null, .null] [] S I14 L14 bc bs Q) ∧ (¬ r14 = 0 → Q (some (.int (1 : Int32))) S I14 L14))))) ∧ ((I 105 ((50 : Int32) * v1).toNatClampNeg) = (2 : Int32) → ZW G mX12_isNumber fX12_isNumber lX12_isNumber 3 [zo G 84, .int v1, .int v2, .int v3, .int (v4 + 1), .null, .null] [] S I L bc bs Q))) ∧ (¬ (0 : Int32) = 0 → ((¬ (I 105 ((50 : Int32) * v1).toNatClampNeg) = (1 : Int32) → ZC G mX12_writes fX12_writes lX12_writes [zo G 84, .int v3, .int (0 : Int32)] S I L 0 0 (fun w S' I15 L15 => w = none ∧ S = S' ∧ ZC G mX12_isForm fX12_isForm lX12_isForm [zo G 84, .int v2, .int (1 : Int32)] S I15 L15 0 0 (fun w S' I16 L16 => ∃ r16 : Int32, w = some (.int r16) ∧ S = S' ∧ ((r16 = 0 → ZW G mX12_isNumber fX12_isNumber lX12_isNumber 3 [zo G 84, .int v1, .int v2, .int v3, .int (v4 + 1), .null, .null] [] S I16 L16 bc bs Q) ∧ (¬ r16 = 0 → Q (some (.int (1 : Int32))) S I16 L16))))) ∧ ((I 105 ((50 : Int32) * v1).toNatClampNeg) = (1 : Int32) → ZW G mX12_isNumber fX12_isNumber lX12_isNumber 3 [zo G 84, .int v1, .int v2, .int v3, .int (v4 + 1), .null, .null] [] S I L bc bs Q))))))))))) ∧ ((v4 - v4 / (2 : Int32) * (2 : Int32)) = (1 : Int32) → ((v4 ≤ (1 : Int32) → (((0 : Int32) = 0 → vp_in ((50 : Int32) * v1) 150 ∧ (((1 : Int32) = 0 → ((¬ (I 105 ((50 : Int32) * v1).toNatClampNeg) = (2 : Int32) → ZC G mX12_writes fX12_writes lX12_writes [zo G 84, .int v3, .int (1 : Int32)] S I L 0 0 (fun w S' I17 L17 => w = none ∧ S = S' ∧ ZC G mX12_isForm fX12_isForm lX12_isForm [zo G 84, .int v2, .int (0 : Int32)] S I17 L17 0 0 (fun w S' I18 L18 => ∃ r18 : Int32, w = some (.int r18) ∧ S = S' ∧ ((r18 = 0 → ZW G mX12_isNumber fX12_isNumber lX12_isNumber 3 [zo G 84, .int v1, .int v2, .int v3, .int (v4 + 1), .null, .null] [] S I18 L18 bc bs Q) ∧ (¬ r18 = 0 → Q (some (.int (1 : Int32))) S I18 L18))))) ∧ ((I 105 ((50 : Int32) * v1).toNatClampNeg) = (2 : Int32) → ZW G mX12_isNumber fX12_isNumber lX12_isNumber 3 [zo G 84, .int v1, .int v2, .int v3, .int (v4 + 1), .null, .null] [] S I L bc bs Q))) ∧ (¬ (1 : Int32) = 0 → ((¬ (I 105 ((50 : Int32) * v1).toNatClampNeg) = (1 : Int32) → ZC G mX12_writes fX12_writes lX12_writes [zo G 84, .int v3, .int (1 : Int32)] S I L 0 0 (fun w S' I19 L19 => w = none ∧ S = S' ∧ ZC G mX12_isForm fX12_isForm lX12_isForm [zo G 84, .int v2, .int (0 : Int32)] S I19 L19 0 0 (fun w S' I20 L20 => ∃ r20 : Int32, w = some (.int r20) ∧ S = S' ∧ ((r20 = 0 → ZW G mX12_isNumber fX12_isNumber lX12_isNumber 3 [zo G 84, .int v1, .int v2, .int v3, .int (v4 + 1), .null, .null] [] S I20 L20 bc bs Q) ∧ (¬ r20 = 0 → Q (some (.int (1 : Int32))) S I20 L20))))) ∧ ((I 105 ((50 : Int32) * v1).toNatClampNeg) = (1 : Int32) → ZW G mX12_isNumber fX12_isNumber lX12_isNumber 3 [zo G 84, .int v1, .int v2, .int v3, .int (v4 + 1), .null, .null] [] S I L bc bs Q))))) ∧ (¬ (0 : Int32) = 0 → vp_in (((50 : Int32) * v1) + (1 : Int32)) 150 ∧ (((I 105 (((50 : Int32) * v1) + (1 : Int32)).toNatClampNeg) = 0 → ZW G mX12_isNumber fX12_isNumber lX12_isNumber 3 [zo G 84, .int v1, .int v2, .int v3, .int (v4 + 1), .null, .null] [] S I L bc bs Q) ∧ (¬ (I 105 (((50 : Int32) * v1) + (1 : Int32)).toNatClampNeg) = 0 → vp_in ((50 : Int32) * v1) 150 ∧ (((1 : Int32) = 0 → ((¬ (I 105 ((50 : Int32) * v1).toNatClampNeg) = (2 : Int32) → ZC G mX12_writes fX12_writes lX12_writes [zo G 84, .int v3, .int (1 : Int32)] S I L 0 0 (fun w S' I21 L21 => w = none ∧ S = S' ∧ ZC G mX12_isForm fX12_isForm lX12_isForm [zo G 84, .int v2, .int (0 : Int32)] S I21 L21 0 0 (fun w S' I22 L22 => ∃ r22 : Int32, w = some (.int r22) ∧ S = S' ∧ ((r22 = 0 → ZW G mX12_isNumber fX12_isNumber lX12_isNumber 3 [zo G 84, .int v1, .int v2, .int v3, .int (v4 + 1), .null, .null] [] S I22 L22 bc bs Q) ∧ (¬ r22 = 0 → Q (some (.int (1 : Int32))) S I22 L22))))) ∧ ((I 105 ((50 : Int32) * v1).toNatClampNeg) = (2 : Int32) → ZW G mX12_isNumber fX12_isNumber lX12_isNumber 3 [zo G 84, .int v1, .int v2, .int v3, .int (v4 + 1), .null, .null] [] S I L bc bs Q))) ∧ (¬ (1 : Int32) = 0 → ((¬ (I 105 ((50 : Int32) * v1).toNatClampNeg) = (1 : Int32) → ZC G mX12_writes fX12_writes lX12_writes [zo G 84, .int v3, .int (1 : Int32)] S I L 0 0 (fun w S' I23 L23 => w = none ∧ S = S' ∧ ZC G mX12_isForm fX12_isForm lX12_isForm [zo G 84, .int v2, .int (0 : Int32)] S I23 L23 0 0 (fun w S' I24 L24 => ∃ r24 : Int32, w = some (.int r24) ∧ S = S' ∧ ((r24 = 0 → ZW G mX12_isNumber fX12_isNumber lX12_isNumber 3 [zo G 84, .int v1, .int v2, .int v3, .int (v4 + 1), .null, .null] [] S I24 L24 bc bs Q) ∧ (¬ r24 = 0 → Q (some (.int (1 : Int32))) S I24 L24))))) ∧ ((I 105 ((50 : Int32) * v1).toNatClampNeg) = (1 : Int32) → ZW G mX12_isNumber fX12_isNumber lX12_isNumber 3 [zo G 84, .int v1, .int v2, .int v3, .int (v4 + 1), .null, .null] [] S I L bc bs Q))))))))) ∧ (¬ v4 ≤ (1 : Int32) → (((1 : Int32) = 0 → vp_in ((50 : Int32) * v1) 150 ∧ (((1 : Int32) = 0 → ((¬ (I 105 ((50 : Int32) * v1).toNatClampNeg) = (2 : Int32) → ZC G mX12_writes fX12_writes lX12_writes [zo G 84, .int v3, .int (1 : Int32)] S I L 0 0 (fun w S' I25 L25 => w = none ∧ S = S' ∧ ZC G mX12_isForm fX12_isForm lX12_isForm [zo G 84, .int v2, .int (1 : Int32)] S I25 L25 0 0 (fun w S' I26 L26 => ∃ r26 : Int32, w = some (.int r26) ∧ S = S' ∧ ((r26 = 0 → ZW G mX12_isNumber fX12_isNumber lX12_isNumber 3 [zo G 84, .int v1, .int v2, .int v3, .int (v4 + 1), .null, .null] [] S I26 L26 bc bs Q) ∧ (¬ r26 = 0 → Q (some (.int (1 : Int32))) S I26 L26))))) ∧ ((I 105 ((50 : Int32) * v1).toNatClampNeg) = (2 : Int32) → ZW G mX12_isNumber fX12_isNumber lX12_isNumber 3 [zo G 84, .int v1, .int v2, .int v3, .int (v4 + 1), .null, .null] [] S I L bc bs Q))) ∧ (¬ (1 : Int32) = 0 → ((¬ (I 105 ((50 : Int32) * v1).toNatClampNeg) = (1 : Int32) → ZC G mX12_writes fX12_writes lX12_writes [zo G 84, .int v3, .int (1 : Int32)] S I L 0 0 (fun w S' I27 L27 => w = none ∧ S = S' ∧ ZC G mX12_isForm fX12_isForm lX12_isForm [zo G 84, .int v2, .int (1 : Int32)] S I27 L27 0 0 (fun w S' I28 L28 => ∃ r28 : Int32, w = some (.int r28) ∧ S = S' ∧ ((r28 = 0 → ZW G mX12_isNumber fX12_isNumber lX12_isNumber 3 [zo G 84, .int v1, .int v2, .int v3, .int (v4 + 1), .null, .null] [] S I28 L28 bc bs Q) ∧ (¬ r28 = 0 → Q (some (.int (1 : Int32))) S I28 L28))))) ∧ ((I 105 ((50 : Int32) * v1).toNatClampNeg) = (1 : Int32) → ZW G mX12_isNumber fX12_isNumber lX12_isNumber 3 [zo G 84, .int v1, .int v2, .int v3, .int (v4 + 1), .null, .null] [] S I L bc bs Q))))) ∧ (¬ (1 : Int32) = 0 → vp_in (((50 : Int32) * v1) + (1 : Int32)) 150 ∧ (((I 105 (((50 : Int32) * v1) + (1 : Int32)).toNatClampNeg) = 0 → ZW G mX12_isNumber fX12_isNumber lX12_isNumber 3 [zo G 84, .int v1, .int v2, .int v3, .int (v4 + 1), .null, .null] [] S I L bc bs Q) ∧ (¬ (I 105 (((50 : Int32) * v1) + (1 : Int32)).toNatClampNeg) = 0 → vp_in ((50 : Int32) * v1) 150 ∧ (((1 : Int32) = 0 → ((¬ (I 105 ((50 : Int32) * v1).toNatClampNeg) = (2 : Int32) → ZC G mX12_writes fX12_writes lX12_writes [zo G 84, .int v3, .int (1 : Int32)] S I L 0 0 (fun w S' I29 L29 => w = none ∧ S = S' ∧ ZC G mX12_isForm fX12_isForm lX12_isForm [zo G 84, .int v2, .int (1 : Int32)] S I29 L29 0 0 (fun w S' I30 L30 => ∃ r30 : Int32, w = some (.int r30) ∧ S = S' ∧ ((r30 = 0 → ZW G mX12_isNumber fX12_isNumber lX12_isNumber 3 [zo G 84, .int v1, .int v2, .int v3, .int (v4 + 1), .null, .null] [] S I30 L30 bc bs Q) ∧ (¬ r30 = 0 → Q (some (.int (1 : Int32))) S I30 L30))))) ∧ ((I 105 ((50 : Int32) * v1).toNatClampNeg) = (2 : Int32) → ZW G mX12_isNumber fX12_isNumber lX12_isNumber 3 [zo G 84, .int v1, .int v2, .int v3, .int (v4 + 1), .null, .null] [] S I L bc bs Q))) ∧ (¬ (1 : Int32) = 0 → ((¬ (I 105 ((50 : Int32) * v1).toNatClampNeg) = (1 : Int32) → ZC G mX12_writes fX12_writes lX12_writes [zo G 84, .int v3, .int (1 : Int32)] S I L 0 0 (fun w S' I31 L31 => w = none ∧ S = S' ∧ ZC G mX12_isForm fX12_isForm lX12_isForm [zo G 84, .int v2, .int (1 : Int32)] S I31 L31 0 0 (fun w S' I32 L32 => ∃ r32 : Int32, w = some (.int r32) ∧ S = S' ∧ ((r32 = 0 → ZW G mX12_isNumber fX12_isNumber lX12_isNumber 3 [zo G 84, .int v1, .int v2, .int v3, .int (v4 + 1), .null, .null] [] S I32 L32 bc bs Q) ∧ (¬ r32 = 0 → Q (some (.int (1 : Int32))) S I32 L32))))) ∧ ((I 105 ((50 : Int32) * v1).toNatClampNeg) = (1 : Int32) → ZW G mX12_isNumber fX12_isNumber lX12_isNumber 3 [zo G 84, .int v1, .int v2, .int v3, .int (v4 + 1), .null, .null] [] S I L bc bs Q))))))))))))))) : ZW G mX12_isNumber fX12_isNumber lX12_isNumber 3 [zo G 84, .int v1, .int v2, .int v3, .int v4, .null, .null] [] S I L bc bs Q := by
  refine zr_iload dX12_isNumber_3 rfl ?_
  refine zr_iconst (v := 4) dX12_isNumber_5 (by decide) ?_
  refine zr_icge (tgt := 106) dX12_isNumber_6 (by decide) (fun hb => ?_) (fun hb => ?_)
  · have k := k.1 hb
    refine zr_iconst (v := 0) dX12_isNumber_106 (by decide) ?_
    exact zr_ireturn dX12_isNumber_107 rfl rfl k
  · have k := k.2 hb
    refine zr_iload dX12_isNumber_9 rfl ?_
    refine zr_iconst (v := 2) dX12_isNumber_11 (by decide) ?_
    refine zr_irem dX12_isNumber_12 (by decide) ?_
    refine zr_iconst (v := 1) dX12_isNumber_13 (by decide) ?_
    refine zr_icne (tgt := 21) dX12_isNumber_14 (by decide) (fun hb => ?_) (fun hb => ?_)
    · have k := k.1 hb
      refine zr_iconst (v := 0) dX12_isNumber_21 (by decide) ?_
      refine zr_istore dX12_isNumber_22 (Nat.le_of_ble_eq_true rfl) rfl ?_
      refine zr_iload dX12_isNumber_24 rfl ?_
      refine zr_iconst (v := 1) dX12_isNumber_26 (by decide) ?_
      refine zr_icle (tgt := 34) dX12_isNumber_27 (by decide) (fun hb => ?_) (fun hb => ?_)
      · have k := k.1 hb
        refine zr_iconst (v := 0) dX12_isNumber_34 (by decide) ?_
        refine zr_istore dX12_isNumber_35 (Nat.le_of_ble_eq_true rfl) rfl ?_
        refine zr_iload dX12_isNumber_37 rfl ?_
        refine zr_ifeq (tgt := 56) dX12_isNumber_39 (by decide) (fun hb => ?_) (fun hb => ?_)
        · have k := k.1 hb
          refine zr_aload_n dX12_isNumber_56 rfl rfl ?_
          refine zr_getR dX12_isNumber_57 zf_X12_75 rfl (hS.has (a := 84) rfl rfl) (hS.ref (a := 105) rfl) ?_
          refine zr_bipush (v := 50) dX12_isNumber_60 (by decide) ?_
          refine zr_iload_n dX12_isNumber_62 rfl rfl ?_
          refine zr_imul dX12_isNumber_63 ?_
          obtain ⟨hi1, k⟩ := k
          refine zr_ialdv (x := (I 105 ((50 : Int32) * v1).toNatClampNeg)) dX12_isNumber_64 (hS.has (a := 105) rfl rfl) hi1 rfl ?_
          refine zr_iload dX12_isNumber_65 rfl ?_
          refine zr_ifeq (tgt := 74) dX12_isNumber_67 (by decide) (fun hb => ?_) (fun hb => ?_)
          · have k := k.1 hb
            refine zr_iconst (v := 2) dX12_isNumber_74 (by decide) ?_
            refine zr_icne (tgt := 81) dX12_isNumber_75 (by decide) (fun hb => ?_) (fun hb => ?_)
            · have k := k.1 hb
              refine zr_aload_n dX12_isNumber_81 rfl rfl ?_
              refine zr_iload_n dX12_isNumber_82 rfl rfl ?_
              refine zr_iload dX12_isNumber_83 rfl ?_
              refine zr_callV (As := [.int v3, .int (0 : Int32)]) (fr' := fX12_writes) (lo' := lX12_writes) (bc' := 0) (bs' := 0) (bcr := bc) (bsr := bs) dX12_isNumber_85 zs_X12_311 zi_X12_writes zcl_12 (hS.has (a := 84) rfl rfl) rfl rfl (Nat.le_of_ble_eq_true rfl) (Nat.le_of_ble_eq_true rfl) (Nat.le_of_ble_eq_true rfl) (Nat.le_refl _) (Nat.le_refl _) ?_
              refine ZC.mono (fun w S' I1 L1 k => ?_) k
              obtain ⟨rfl, rfl, k⟩ := k
              show ZW G mX12_isNumber fX12_isNumber lX12_isNumber 88 [zo G 84, .int v1, .int v2, .int v3, .int v4, .int (0 : Int32), .int (0 : Int32)] [] S I1 L1 bc bs Q
              refine zr_aload_n dX12_isNumber_88 rfl rfl ?_
              refine zr_iload_n dX12_isNumber_89 rfl rfl ?_
              refine zr_iload dX12_isNumber_90 rfl ?_
              refine zr_callV (As := [.int v2, .int (0 : Int32)]) (fr' := fX12_isForm) (lo' := lX12_isForm) (bc' := 0) (bs' := 0) (bcr := bc) (bsr := bs) dX12_isNumber_92 zs_X12_315 zi_X12_isForm zcl_12 (hS.has (a := 84) rfl rfl) rfl rfl (Nat.le_of_ble_eq_true rfl) (Nat.le_of_ble_eq_true rfl) (Nat.le_of_ble_eq_true rfl) (Nat.le_refl _) (Nat.le_refl _) ?_
              refine ZC.mono (fun w S' I2 L2 k => ?_) k
              obtain ⟨r2, rfl, rfl, k⟩ := k
              show ZW G mX12_isNumber fX12_isNumber lX12_isNumber 95 [zo G 84, .int v1, .int v2, .int v3, .int v4, .int (0 : Int32), .int (0 : Int32)] [.int r2] S I2 L2 bc bs Q
              refine zr_ifeq (tgt := 100) dX12_isNumber_95 (by decide) (fun hb => ?_) (fun hb => ?_)
              · have k := k.1 hb
                refine zr_iinc (v := (v4 + 1)) dX12_isNumber_100 rfl rfl (Nat.le_of_ble_eq_true rfl) rfl ?_
                refine zr_goto (tgt := 3) dX12_isNumber_103 (by decide) ?_
                exact zr_mask [true, true, true, true, true, false, false] rfl k
              · have k := k.2 hb
                refine zr_iconst (v := 1) dX12_isNumber_98 (by decide) ?_
                exact zr_ireturn dX12_isNumber_99 rfl rfl k
            · have k := k.2 hb
              refine zr_goto (tgt := 100) dX12_isNumber_78 (by decide) ?_
              refine zr_iinc (v := (v4 + 1)) dX12_isNumber_100 rfl rfl (Nat.le_of_ble_eq_true rfl) rfl ?_
              refine zr_goto (tgt := 3) dX12_isNumber_103 (by decide) ?_
              exact zr_mask [true, true, true, true, true, false, false] rfl k
          · have k := k.2 hb
            refine zr_iconst (v := 1) dX12_isNumber_70 (by decide) ?_
            refine zr_goto (tgt := 75) dX12_isNumber_71 (by decide) ?_
            refine zr_icne (tgt := 81) dX12_isNumber_75 (by decide) (fun hb => ?_) (fun hb => ?_)
            · have k := k.1 hb
              refine zr_aload_n dX12_isNumber_81 rfl rfl ?_
              refine zr_iload_n dX12_isNumber_82 rfl rfl ?_
              refine zr_iload dX12_isNumber_83 rfl ?_
              refine zr_callV (As := [.int v3, .int (0 : Int32)]) (fr' := fX12_writes) (lo' := lX12_writes) (bc' := 0) (bs' := 0) (bcr := bc) (bsr := bs) dX12_isNumber_85 zs_X12_311 zi_X12_writes zcl_12 (hS.has (a := 84) rfl rfl) rfl rfl (Nat.le_of_ble_eq_true rfl) (Nat.le_of_ble_eq_true rfl) (Nat.le_of_ble_eq_true rfl) (Nat.le_refl _) (Nat.le_refl _) ?_
              refine ZC.mono (fun w S' I3 L3 k => ?_) k
              obtain ⟨rfl, rfl, k⟩ := k
              show ZW G mX12_isNumber fX12_isNumber lX12_isNumber 88 [zo G 84, .int v1, .int v2, .int v3, .int v4, .int (0 : Int32), .int (0 : Int32)] [] S I3 L3 bc bs Q
              refine zr_aload_n dX12_isNumber_88 rfl rfl ?_
              refine zr_iload_n dX12_isNumber_89 rfl rfl ?_
              refine zr_iload dX12_isNumber_90 rfl ?_
              refine zr_callV (As := [.int v2, .int (0 : Int32)]) (fr' := fX12_isForm) (lo' := lX12_isForm) (bc' := 0) (bs' := 0) (bcr := bc) (bsr := bs) dX12_isNumber_92 zs_X12_315 zi_X12_isForm zcl_12 (hS.has (a := 84) rfl rfl) rfl rfl (Nat.le_of_ble_eq_true rfl) (Nat.le_of_ble_eq_true rfl) (Nat.le_of_ble_eq_true rfl) (Nat.le_refl _) (Nat.le_refl _) ?_
              refine ZC.mono (fun w S' I4 L4 k => ?_) k
              obtain ⟨r4, rfl, rfl, k⟩ := k
              show ZW G mX12_isNumber fX12_isNumber lX12_isNumber 95 [zo G 84, .int v1, .int v2, .int v3, .int v4, .int (0 : Int32), .int (0 : Int32)] [.int r4] S I4 L4 bc bs Q
              refine zr_ifeq (tgt := 100) dX12_isNumber_95 (by decide) (fun hb => ?_) (fun hb => ?_)
              · have k := k.1 hb
                refine zr_iinc (v := (v4 + 1)) dX12_isNumber_100 rfl rfl (Nat.le_of_ble_eq_true rfl) rfl ?_
                refine zr_goto (tgt := 3) dX12_isNumber_103 (by decide) ?_
                exact zr_mask [true, true, true, true, true, false, false] rfl k
              · have k := k.2 hb
                refine zr_iconst (v := 1) dX12_isNumber_98 (by decide) ?_
                exact zr_ireturn dX12_isNumber_99 rfl rfl k
            · have k := k.2 hb
              refine zr_goto (tgt := 100) dX12_isNumber_78 (by decide) ?_
              refine zr_iinc (v := (v4 + 1)) dX12_isNumber_100 rfl rfl (Nat.le_of_ble_eq_true rfl) rfl ?_
              refine zr_goto (tgt := 3) dX12_isNumber_103 (by decide) ?_
              exact zr_mask [true, true, true, true, true, false, false] rfl k
        · have k := k.2 hb
          refine zr_aload_n dX12_isNumber_42 rfl rfl ?_
          refine zr_getR dX12_isNumber_43 zf_X12_75 rfl (hS.has (a := 84) rfl rfl) (hS.ref (a := 105) rfl) ?_
          refine zr_bipush (v := 50) dX12_isNumber_46 (by decide) ?_
          refine zr_iload_n dX12_isNumber_48 rfl rfl ?_
          refine zr_imul dX12_isNumber_49 ?_
          refine zr_iconst (v := 1) dX12_isNumber_50 (by decide) ?_
          refine zr_iadd dX12_isNumber_51 ?_
          obtain ⟨hi2, k⟩ := k
          refine zr_ialdv (x := (I 105 (((50 : Int32) * v1) + (1 : Int32)).toNatClampNeg)) dX12_isNumber_52 (hS.has (a := 105) rfl rfl) hi2 rfl ?_
          refine zr_ifeq (tgt := 100) dX12_isNumber_53 (by decide) (fun hb => ?_) (fun hb => ?_)
          · have k := k.1 hb
            refine zr_iinc (v := (v4 + 1)) dX12_isNumber_100 rfl rfl (Nat.le_of_ble_eq_true rfl) rfl ?_
            refine zr_goto (tgt := 3) dX12_isNumber_103 (by decide) ?_
            exact zr_mask [true, true, true, true, true, false, false] rfl k
          · have k := k.2 hb
            refine zr_aload_n dX12_isNumber_56 rfl rfl ?_
            refine zr_getR dX12_isNumber_57 zf_X12_75 rfl (hS.has (a := 84) rfl rfl) (hS.ref (a := 105) rfl) ?_
            refine zr_bipush (v := 50) dX12_isNumber_60 (by decide) ?_
            refine zr_iload_n dX12_isNumber_62 rfl rfl ?_
            refine zr_imul dX12_isNumber_63 ?_
            obtain ⟨hi3, k⟩ := k
            refine zr_ialdv (x := (I 105 ((50 : Int32) * v1).toNatClampNeg)) dX12_isNumber_64 (hS.has (a := 105) rfl rfl) hi3 rfl ?_
            refine zr_iload dX12_isNumber_65 rfl ?_
            refine zr_ifeq (tgt := 74) dX12_isNumber_67 (by decide) (fun hb => ?_) (fun hb => ?_)
            · have k := k.1 hb
              refine zr_iconst (v := 2) dX12_isNumber_74 (by decide) ?_
              refine zr_icne (tgt := 81) dX12_isNumber_75 (by decide) (fun hb => ?_) (fun hb => ?_)
              · have k := k.1 hb
                refine zr_aload_n dX12_isNumber_81 rfl rfl ?_
                refine zr_iload_n dX12_isNumber_82 rfl rfl ?_
                refine zr_iload dX12_isNumber_83 rfl ?_
                refine zr_callV (As := [.int v3, .int (0 : Int32)]) (fr' := fX12_writes) (lo' := lX12_writes) (bc' := 0) (bs' := 0) (bcr := bc) (bsr := bs) dX12_isNumber_85 zs_X12_311 zi_X12_writes zcl_12 (hS.has (a := 84) rfl rfl) rfl rfl (Nat.le_of_ble_eq_true rfl) (Nat.le_of_ble_eq_true rfl) (Nat.le_of_ble_eq_true rfl) (Nat.le_refl _) (Nat.le_refl _) ?_
                refine ZC.mono (fun w S' I5 L5 k => ?_) k
                obtain ⟨rfl, rfl, k⟩ := k
                show ZW G mX12_isNumber fX12_isNumber lX12_isNumber 88 [zo G 84, .int v1, .int v2, .int v3, .int v4, .int (0 : Int32), .int (0 : Int32)] [] S I5 L5 bc bs Q
                refine zr_aload_n dX12_isNumber_88 rfl rfl ?_
                refine zr_iload_n dX12_isNumber_89 rfl rfl ?_
                refine zr_iload dX12_isNumber_90 rfl ?_
                refine zr_callV (As := [.int v2, .int (0 : Int32)]) (fr' := fX12_isForm) (lo' := lX12_isForm) (bc' := 0) (bs' := 0) (bcr := bc) (bsr := bs) dX12_isNumber_92 zs_X12_315 zi_X12_isForm zcl_12 (hS.has (a := 84) rfl rfl) rfl rfl (Nat.le_of_ble_eq_true rfl) (Nat.le_of_ble_eq_true rfl) (Nat.le_of_ble_eq_true rfl) (Nat.le_refl _) (Nat.le_refl _) ?_
                refine ZC.mono (fun w S' I6 L6 k => ?_) k
                obtain ⟨r6, rfl, rfl, k⟩ := k
                show ZW G mX12_isNumber fX12_isNumber lX12_isNumber 95 [zo G 84, .int v1, .int v2, .int v3, .int v4, .int (0 : Int32), .int (0 : Int32)] [.int r6] S I6 L6 bc bs Q
                refine zr_ifeq (tgt := 100) dX12_isNumber_95 (by decide) (fun hb => ?_) (fun hb => ?_)
                · have k := k.1 hb
                  refine zr_iinc (v := (v4 + 1)) dX12_isNumber_100 rfl rfl (Nat.le_of_ble_eq_true rfl) rfl ?_
                  refine zr_goto (tgt := 3) dX12_isNumber_103 (by decide) ?_
                  exact zr_mask [true, true, true, true, true, false, false] rfl k
                · have k := k.2 hb
                  refine zr_iconst (v := 1) dX12_isNumber_98 (by decide) ?_
                  exact zr_ireturn dX12_isNumber_99 rfl rfl k
              · have k := k.2 hb
                refine zr_goto (tgt := 100) dX12_isNumber_78 (by decide) ?_
                refine zr_iinc (v := (v4 + 1)) dX12_isNumber_100 rfl rfl (Nat.le_of_ble_eq_true rfl) rfl ?_
                refine zr_goto (tgt := 3) dX12_isNumber_103 (by decide) ?_
                exact zr_mask [true, true, true, true, true, false, false] rfl k
            · have k := k.2 hb
              refine zr_iconst (v := 1) dX12_isNumber_70 (by decide) ?_
              refine zr_goto (tgt := 75) dX12_isNumber_71 (by decide) ?_
              refine zr_icne (tgt := 81) dX12_isNumber_75 (by decide) (fun hb => ?_) (fun hb => ?_)
              · have k := k.1 hb
                refine zr_aload_n dX12_isNumber_81 rfl rfl ?_
                refine zr_iload_n dX12_isNumber_82 rfl rfl ?_
                refine zr_iload dX12_isNumber_83 rfl ?_
                refine zr_callV (As := [.int v3, .int (0 : Int32)]) (fr' := fX12_writes) (lo' := lX12_writes) (bc' := 0) (bs' := 0) (bcr := bc) (bsr := bs) dX12_isNumber_85 zs_X12_311 zi_X12_writes zcl_12 (hS.has (a := 84) rfl rfl) rfl rfl (Nat.le_of_ble_eq_true rfl) (Nat.le_of_ble_eq_true rfl) (Nat.le_of_ble_eq_true rfl) (Nat.le_refl _) (Nat.le_refl _) ?_
                refine ZC.mono (fun w S' I7 L7 k => ?_) k
                obtain ⟨rfl, rfl, k⟩ := k
                show ZW G mX12_isNumber fX12_isNumber lX12_isNumber 88 [zo G 84, .int v1, .int v2, .int v3, .int v4, .int (0 : Int32), .int (0 : Int32)] [] S I7 L7 bc bs Q
                refine zr_aload_n dX12_isNumber_88 rfl rfl ?_
                refine zr_iload_n dX12_isNumber_89 rfl rfl ?_
                refine zr_iload dX12_isNumber_90 rfl ?_
                refine zr_callV (As := [.int v2, .int (0 : Int32)]) (fr' := fX12_isForm) (lo' := lX12_isForm) (bc' := 0) (bs' := 0) (bcr := bc) (bsr := bs) dX12_isNumber_92 zs_X12_315 zi_X12_isForm zcl_12 (hS.has (a := 84) rfl rfl) rfl rfl (Nat.le_of_ble_eq_true rfl) (Nat.le_of_ble_eq_true rfl) (Nat.le_of_ble_eq_true rfl) (Nat.le_refl _) (Nat.le_refl _) ?_
                refine ZC.mono (fun w S' I8 L8 k => ?_) k
                obtain ⟨r8, rfl, rfl, k⟩ := k
                show ZW G mX12_isNumber fX12_isNumber lX12_isNumber 95 [zo G 84, .int v1, .int v2, .int v3, .int v4, .int (0 : Int32), .int (0 : Int32)] [.int r8] S I8 L8 bc bs Q
                refine zr_ifeq (tgt := 100) dX12_isNumber_95 (by decide) (fun hb => ?_) (fun hb => ?_)
                · have k := k.1 hb
                  refine zr_iinc (v := (v4 + 1)) dX12_isNumber_100 rfl rfl (Nat.le_of_ble_eq_true rfl) rfl ?_
                  refine zr_goto (tgt := 3) dX12_isNumber_103 (by decide) ?_
                  exact zr_mask [true, true, true, true, true, false, false] rfl k
                · have k := k.2 hb
                  refine zr_iconst (v := 1) dX12_isNumber_98 (by decide) ?_
                  exact zr_ireturn dX12_isNumber_99 rfl rfl k
              · have k := k.2 hb
                refine zr_goto (tgt := 100) dX12_isNumber_78 (by decide) ?_
                refine zr_iinc (v := (v4 + 1)) dX12_isNumber_100 rfl rfl (Nat.le_of_ble_eq_true rfl) rfl ?_
                refine zr_goto (tgt := 3) dX12_isNumber_103 (by decide) ?_
                exact zr_mask [true, true, true, true, true, false, false] rfl k
      · have k := k.2 hb
        refine zr_iconst (v := 1) dX12_isNumber_30 (by decide) ?_
        refine zr_goto (tgt := 35) dX12_isNumber_31 (by decide) ?_
        refine zr_istore dX12_isNumber_35 (Nat.le_of_ble_eq_true rfl) rfl ?_
        refine zr_iload dX12_isNumber_37 rfl ?_
        refine zr_ifeq (tgt := 56) dX12_isNumber_39 (by decide) (fun hb => ?_) (fun hb => ?_)
        · have k := k.1 hb
          refine zr_aload_n dX12_isNumber_56 rfl rfl ?_
          refine zr_getR dX12_isNumber_57 zf_X12_75 rfl (hS.has (a := 84) rfl rfl) (hS.ref (a := 105) rfl) ?_
          refine zr_bipush (v := 50) dX12_isNumber_60 (by decide) ?_
          refine zr_iload_n dX12_isNumber_62 rfl rfl ?_
          refine zr_imul dX12_isNumber_63 ?_
          obtain ⟨hi4, k⟩ := k
          refine zr_ialdv (x := (I 105 ((50 : Int32) * v1).toNatClampNeg)) dX12_isNumber_64 (hS.has (a := 105) rfl rfl) hi4 rfl ?_
          refine zr_iload dX12_isNumber_65 rfl ?_
          refine zr_ifeq (tgt := 74) dX12_isNumber_67 (by decide) (fun hb => ?_) (fun hb => ?_)
          · have k := k.1 hb
            refine zr_iconst (v := 2) dX12_isNumber_74 (by decide) ?_
            refine zr_icne (tgt := 81) dX12_isNumber_75 (by decide) (fun hb => ?_) (fun hb => ?_)
            · have k := k.1 hb
              refine zr_aload_n dX12_isNumber_81 rfl rfl ?_
              refine zr_iload_n dX12_isNumber_82 rfl rfl ?_
              refine zr_iload dX12_isNumber_83 rfl ?_
              refine zr_callV (As := [.int v3, .int (0 : Int32)]) (fr' := fX12_writes) (lo' := lX12_writes) (bc' := 0) (bs' := 0) (bcr := bc) (bsr := bs) dX12_isNumber_85 zs_X12_311 zi_X12_writes zcl_12 (hS.has (a := 84) rfl rfl) rfl rfl (Nat.le_of_ble_eq_true rfl) (Nat.le_of_ble_eq_true rfl) (Nat.le_of_ble_eq_true rfl) (Nat.le_refl _) (Nat.le_refl _) ?_
              refine ZC.mono (fun w S' I9 L9 k => ?_) k
              obtain ⟨rfl, rfl, k⟩ := k
              show ZW G mX12_isNumber fX12_isNumber lX12_isNumber 88 [zo G 84, .int v1, .int v2, .int v3, .int v4, .int (0 : Int32), .int (1 : Int32)] [] S I9 L9 bc bs Q
              refine zr_aload_n dX12_isNumber_88 rfl rfl ?_
              refine zr_iload_n dX12_isNumber_89 rfl rfl ?_
              refine zr_iload dX12_isNumber_90 rfl ?_
              refine zr_callV (As := [.int v2, .int (1 : Int32)]) (fr' := fX12_isForm) (lo' := lX12_isForm) (bc' := 0) (bs' := 0) (bcr := bc) (bsr := bs) dX12_isNumber_92 zs_X12_315 zi_X12_isForm zcl_12 (hS.has (a := 84) rfl rfl) rfl rfl (Nat.le_of_ble_eq_true rfl) (Nat.le_of_ble_eq_true rfl) (Nat.le_of_ble_eq_true rfl) (Nat.le_refl _) (Nat.le_refl _) ?_
              refine ZC.mono (fun w S' I10 L10 k => ?_) k
              obtain ⟨r10, rfl, rfl, k⟩ := k
              show ZW G mX12_isNumber fX12_isNumber lX12_isNumber 95 [zo G 84, .int v1, .int v2, .int v3, .int v4, .int (0 : Int32), .int (1 : Int32)] [.int r10] S I10 L10 bc bs Q
              refine zr_ifeq (tgt := 100) dX12_isNumber_95 (by decide) (fun hb => ?_) (fun hb => ?_)
              · have k := k.1 hb
                refine zr_iinc (v := (v4 + 1)) dX12_isNumber_100 rfl rfl (Nat.le_of_ble_eq_true rfl) rfl ?_
                refine zr_goto (tgt := 3) dX12_isNumber_103 (by decide) ?_
                exact zr_mask [true, true, true, true, true, false, false] rfl k
              · have k := k.2 hb
                refine zr_iconst (v := 1) dX12_isNumber_98 (by decide) ?_
                exact zr_ireturn dX12_isNumber_99 rfl rfl k
            · have k := k.2 hb
              refine zr_goto (tgt := 100) dX12_isNumber_78 (by decide) ?_
              refine zr_iinc (v := (v4 + 1)) dX12_isNumber_100 rfl rfl (Nat.le_of_ble_eq_true rfl) rfl ?_
              refine zr_goto (tgt := 3) dX12_isNumber_103 (by decide) ?_
              exact zr_mask [true, true, true, true, true, false, false] rfl k
          · have k := k.2 hb
            refine zr_iconst (v := 1) dX12_isNumber_70 (by decide) ?_
            refine zr_goto (tgt := 75) dX12_isNumber_71 (by decide) ?_
            refine zr_icne (tgt := 81) dX12_isNumber_75 (by decide) (fun hb => ?_) (fun hb => ?_)
            · have k := k.1 hb
              refine zr_aload_n dX12_isNumber_81 rfl rfl ?_
              refine zr_iload_n dX12_isNumber_82 rfl rfl ?_
              refine zr_iload dX12_isNumber_83 rfl ?_
              refine zr_callV (As := [.int v3, .int (0 : Int32)]) (fr' := fX12_writes) (lo' := lX12_writes) (bc' := 0) (bs' := 0) (bcr := bc) (bsr := bs) dX12_isNumber_85 zs_X12_311 zi_X12_writes zcl_12 (hS.has (a := 84) rfl rfl) rfl rfl (Nat.le_of_ble_eq_true rfl) (Nat.le_of_ble_eq_true rfl) (Nat.le_of_ble_eq_true rfl) (Nat.le_refl _) (Nat.le_refl _) ?_
              refine ZC.mono (fun w S' I11 L11 k => ?_) k
              obtain ⟨rfl, rfl, k⟩ := k
              show ZW G mX12_isNumber fX12_isNumber lX12_isNumber 88 [zo G 84, .int v1, .int v2, .int v3, .int v4, .int (0 : Int32), .int (1 : Int32)] [] S I11 L11 bc bs Q
              refine zr_aload_n dX12_isNumber_88 rfl rfl ?_
              refine zr_iload_n dX12_isNumber_89 rfl rfl ?_
              refine zr_iload dX12_isNumber_90 rfl ?_
              refine zr_callV (As := [.int v2, .int (1 : Int32)]) (fr' := fX12_isForm) (lo' := lX12_isForm) (bc' := 0) (bs' := 0) (bcr := bc) (bsr := bs) dX12_isNumber_92 zs_X12_315 zi_X12_isForm zcl_12 (hS.has (a := 84) rfl rfl) rfl rfl (Nat.le_of_ble_eq_true rfl) (Nat.le_of_ble_eq_true rfl) (Nat.le_of_ble_eq_true rfl) (Nat.le_refl _) (Nat.le_refl _) ?_
              refine ZC.mono (fun w S' I12 L12 k => ?_) k
              obtain ⟨r12, rfl, rfl, k⟩ := k
              show ZW G mX12_isNumber fX12_isNumber lX12_isNumber 95 [zo G 84, .int v1, .int v2, .int v3, .int v4, .int (0 : Int32), .int (1 : Int32)] [.int r12] S I12 L12 bc bs Q
              refine zr_ifeq (tgt := 100) dX12_isNumber_95 (by decide) (fun hb => ?_) (fun hb => ?_)
              · have k := k.1 hb
                refine zr_iinc (v := (v4 + 1)) dX12_isNumber_100 rfl rfl (Nat.le_of_ble_eq_true rfl) rfl ?_
                refine zr_goto (tgt := 3) dX12_isNumber_103 (by decide) ?_
                exact zr_mask [true, true, true, true, true, false, false] rfl k
              · have k := k.2 hb
                refine zr_iconst (v := 1) dX12_isNumber_98 (by decide) ?_
                exact zr_ireturn dX12_isNumber_99 rfl rfl k
            · have k := k.2 hb
              refine zr_goto (tgt := 100) dX12_isNumber_78 (by decide) ?_
              refine zr_iinc (v := (v4 + 1)) dX12_isNumber_100 rfl rfl (Nat.le_of_ble_eq_true rfl) rfl ?_
              refine zr_goto (tgt := 3) dX12_isNumber_103 (by decide) ?_
              exact zr_mask [true, true, true, true, true, false, false] rfl k
        · have k := k.2 hb
          refine zr_aload_n dX12_isNumber_42 rfl rfl ?_
          refine zr_getR dX12_isNumber_43 zf_X12_75 rfl (hS.has (a := 84) rfl rfl) (hS.ref (a := 105) rfl) ?_
          refine zr_bipush (v := 50) dX12_isNumber_46 (by decide) ?_
          refine zr_iload_n dX12_isNumber_48 rfl rfl ?_
          refine zr_imul dX12_isNumber_49 ?_
          refine zr_iconst (v := 1) dX12_isNumber_50 (by decide) ?_
          refine zr_iadd dX12_isNumber_51 ?_
          obtain ⟨hi5, k⟩ := k
          refine zr_ialdv (x := (I 105 (((50 : Int32) * v1) + (1 : Int32)).toNatClampNeg)) dX12_isNumber_52 (hS.has (a := 105) rfl rfl) hi5 rfl ?_
          refine zr_ifeq (tgt := 100) dX12_isNumber_53 (by decide) (fun hb => ?_) (fun hb => ?_)
          · have k := k.1 hb
            refine zr_iinc (v := (v4 + 1)) dX12_isNumber_100 rfl rfl (Nat.le_of_ble_eq_true rfl) rfl ?_
            refine zr_goto (tgt := 3) dX12_isNumber_103 (by decide) ?_
            exact zr_mask [true, true, true, true, true, false, false] rfl k
          · have k := k.2 hb
            refine zr_aload_n dX12_isNumber_56 rfl rfl ?_
            refine zr_getR dX12_isNumber_57 zf_X12_75 rfl (hS.has (a := 84) rfl rfl) (hS.ref (a := 105) rfl) ?_
            refine zr_bipush (v := 50) dX12_isNumber_60 (by decide) ?_
            refine zr_iload_n dX12_isNumber_62 rfl rfl ?_
            refine zr_imul dX12_isNumber_63 ?_
            obtain ⟨hi6, k⟩ := k
            refine zr_ialdv (x := (I 105 ((50 : Int32) * v1).toNatClampNeg)) dX12_isNumber_64 (hS.has (a := 105) rfl rfl) hi6 rfl ?_
            refine zr_iload dX12_isNumber_65 rfl ?_
            refine zr_ifeq (tgt := 74) dX12_isNumber_67 (by decide) (fun hb => ?_) (fun hb => ?_)
            · have k := k.1 hb
              refine zr_iconst (v := 2) dX12_isNumber_74 (by decide) ?_
              refine zr_icne (tgt := 81) dX12_isNumber_75 (by decide) (fun hb => ?_) (fun hb => ?_)
              · have k := k.1 hb
                refine zr_aload_n dX12_isNumber_81 rfl rfl ?_
                refine zr_iload_n dX12_isNumber_82 rfl rfl ?_
                refine zr_iload dX12_isNumber_83 rfl ?_
                refine zr_callV (As := [.int v3, .int (0 : Int32)]) (fr' := fX12_writes) (lo' := lX12_writes) (bc' := 0) (bs' := 0) (bcr := bc) (bsr := bs) dX12_isNumber_85 zs_X12_311 zi_X12_writes zcl_12 (hS.has (a := 84) rfl rfl) rfl rfl (Nat.le_of_ble_eq_true rfl) (Nat.le_of_ble_eq_true rfl) (Nat.le_of_ble_eq_true rfl) (Nat.le_refl _) (Nat.le_refl _) ?_
                refine ZC.mono (fun w S' I13 L13 k => ?_) k
                obtain ⟨rfl, rfl, k⟩ := k
                show ZW G mX12_isNumber fX12_isNumber lX12_isNumber 88 [zo G 84, .int v1, .int v2, .int v3, .int v4, .int (0 : Int32), .int (1 : Int32)] [] S I13 L13 bc bs Q
                refine zr_aload_n dX12_isNumber_88 rfl rfl ?_
                refine zr_iload_n dX12_isNumber_89 rfl rfl ?_
                refine zr_iload dX12_isNumber_90 rfl ?_
                refine zr_callV (As := [.int v2, .int (1 : Int32)]) (fr' := fX12_isForm) (lo' := lX12_isForm) (bc' := 0) (bs' := 0) (bcr := bc) (bsr := bs) dX12_isNumber_92 zs_X12_315 zi_X12_isForm zcl_12 (hS.has (a := 84) rfl rfl) rfl rfl (Nat.le_of_ble_eq_true rfl) (Nat.le_of_ble_eq_true rfl) (Nat.le_of_ble_eq_true rfl) (Nat.le_refl _) (Nat.le_refl _) ?_
                refine ZC.mono (fun w S' I14 L14 k => ?_) k
                obtain ⟨r14, rfl, rfl, k⟩ := k
                show ZW G mX12_isNumber fX12_isNumber lX12_isNumber 95 [zo G 84, .int v1, .int v2, .int v3, .int v4, .int (0 : Int32), .int (1 : Int32)] [.int r14] S I14 L14 bc bs Q
                refine zr_ifeq (tgt := 100) dX12_isNumber_95 (by decide) (fun hb => ?_) (fun hb => ?_)
                · have k := k.1 hb
                  refine zr_iinc (v := (v4 + 1)) dX12_isNumber_100 rfl rfl (Nat.le_of_ble_eq_true rfl) rfl ?_
                  refine zr_goto (tgt := 3) dX12_isNumber_103 (by decide) ?_
                  exact zr_mask [true, true, true, true, true, false, false] rfl k
                · have k := k.2 hb
                  refine zr_iconst (v := 1) dX12_isNumber_98 (by decide) ?_
                  exact zr_ireturn dX12_isNumber_99 rfl rfl k
              · have k := k.2 hb
                refine zr_goto (tgt := 100) dX12_isNumber_78 (by decide) ?_
                refine zr_iinc (v := (v4 + 1)) dX12_isNumber_100 rfl rfl (Nat.le_of_ble_eq_true rfl) rfl ?_
                refine zr_goto (tgt := 3) dX12_isNumber_103 (by decide) ?_
                exact zr_mask [true, true, true, true, true, false, false] rfl k
            · have k := k.2 hb
              refine zr_iconst (v := 1) dX12_isNumber_70 (by decide) ?_
              refine zr_goto (tgt := 75) dX12_isNumber_71 (by decide) ?_
              refine zr_icne (tgt := 81) dX12_isNumber_75 (by decide) (fun hb => ?_) (fun hb => ?_)
              · have k := k.1 hb
                refine zr_aload_n dX12_isNumber_81 rfl rfl ?_
                refine zr_iload_n dX12_isNumber_82 rfl rfl ?_
                refine zr_iload dX12_isNumber_83 rfl ?_
                refine zr_callV (As := [.int v3, .int (0 : Int32)]) (fr' := fX12_writes) (lo' := lX12_writes) (bc' := 0) (bs' := 0) (bcr := bc) (bsr := bs) dX12_isNumber_85 zs_X12_311 zi_X12_writes zcl_12 (hS.has (a := 84) rfl rfl) rfl rfl (Nat.le_of_ble_eq_true rfl) (Nat.le_of_ble_eq_true rfl) (Nat.le_of_ble_eq_true rfl) (Nat.le_refl _) (Nat.le_refl _) ?_
                refine ZC.mono (fun w S' I15 L15 k => ?_) k
                obtain ⟨rfl, rfl, k⟩ := k
                show ZW G mX12_isNumber fX12_isNumber lX12_isNumber 88 [zo G 84, .int v1, .int v2, .int v3, .int v4, .int (0 : Int32), .int (1 : Int32)] [] S I15 L15 bc bs Q
                refine zr_aload_n dX12_isNumber_88 rfl rfl ?_
                refine zr_iload_n dX12_isNumber_89 rfl rfl ?_
                refine zr_iload dX12_isNumber_90 rfl ?_
                refine zr_callV (As := [.int v2, .int (1 : Int32)]) (fr' := fX12_isForm) (lo' := lX12_isForm) (bc' := 0) (bs' := 0) (bcr := bc) (bsr := bs) dX12_isNumber_92 zs_X12_315 zi_X12_isForm zcl_12 (hS.has (a := 84) rfl rfl) rfl rfl (Nat.le_of_ble_eq_true rfl) (Nat.le_of_ble_eq_true rfl) (Nat.le_of_ble_eq_true rfl) (Nat.le_refl _) (Nat.le_refl _) ?_
                refine ZC.mono (fun w S' I16 L16 k => ?_) k
                obtain ⟨r16, rfl, rfl, k⟩ := k
                show ZW G mX12_isNumber fX12_isNumber lX12_isNumber 95 [zo G 84, .int v1, .int v2, .int v3, .int v4, .int (0 : Int32), .int (1 : Int32)] [.int r16] S I16 L16 bc bs Q
                refine zr_ifeq (tgt := 100) dX12_isNumber_95 (by decide) (fun hb => ?_) (fun hb => ?_)
                · have k := k.1 hb
                  refine zr_iinc (v := (v4 + 1)) dX12_isNumber_100 rfl rfl (Nat.le_of_ble_eq_true rfl) rfl ?_
                  refine zr_goto (tgt := 3) dX12_isNumber_103 (by decide) ?_
                  exact zr_mask [true, true, true, true, true, false, false] rfl k
                · have k := k.2 hb
                  refine zr_iconst (v := 1) dX12_isNumber_98 (by decide) ?_
                  exact zr_ireturn dX12_isNumber_99 rfl rfl k
              · have k := k.2 hb
                refine zr_goto (tgt := 100) dX12_isNumber_78 (by decide) ?_
                refine zr_iinc (v := (v4 + 1)) dX12_isNumber_100 rfl rfl (Nat.le_of_ble_eq_true rfl) rfl ?_
                refine zr_goto (tgt := 3) dX12_isNumber_103 (by decide) ?_
                exact zr_mask [true, true, true, true, true, false, false] rfl k
    · have k := k.2 hb
      refine zr_iconst (v := 1) dX12_isNumber_17 (by decide) ?_
      refine zr_goto (tgt := 22) dX12_isNumber_18 (by decide) ?_
      refine zr_istore dX12_isNumber_22 (Nat.le_of_ble_eq_true rfl) rfl ?_
      refine zr_iload dX12_isNumber_24 rfl ?_
      refine zr_iconst (v := 1) dX12_isNumber_26 (by decide) ?_
      refine zr_icle (tgt := 34) dX12_isNumber_27 (by decide) (fun hb => ?_) (fun hb => ?_)
      · have k := k.1 hb
        refine zr_iconst (v := 0) dX12_isNumber_34 (by decide) ?_
        refine zr_istore dX12_isNumber_35 (Nat.le_of_ble_eq_true rfl) rfl ?_
        refine zr_iload dX12_isNumber_37 rfl ?_
        refine zr_ifeq (tgt := 56) dX12_isNumber_39 (by decide) (fun hb => ?_) (fun hb => ?_)
        · have k := k.1 hb
          refine zr_aload_n dX12_isNumber_56 rfl rfl ?_
          refine zr_getR dX12_isNumber_57 zf_X12_75 rfl (hS.has (a := 84) rfl rfl) (hS.ref (a := 105) rfl) ?_
          refine zr_bipush (v := 50) dX12_isNumber_60 (by decide) ?_
          refine zr_iload_n dX12_isNumber_62 rfl rfl ?_
          refine zr_imul dX12_isNumber_63 ?_
          obtain ⟨hi7, k⟩ := k
          refine zr_ialdv (x := (I 105 ((50 : Int32) * v1).toNatClampNeg)) dX12_isNumber_64 (hS.has (a := 105) rfl rfl) hi7 rfl ?_
          refine zr_iload dX12_isNumber_65 rfl ?_
          refine zr_ifeq (tgt := 74) dX12_isNumber_67 (by decide) (fun hb => ?_) (fun hb => ?_)
          · have k := k.1 hb
            refine zr_iconst (v := 2) dX12_isNumber_74 (by decide) ?_
            refine zr_icne (tgt := 81) dX12_isNumber_75 (by decide) (fun hb => ?_) (fun hb => ?_)
            · have k := k.1 hb
              refine zr_aload_n dX12_isNumber_81 rfl rfl ?_
              refine zr_iload_n dX12_isNumber_82 rfl rfl ?_
              refine zr_iload dX12_isNumber_83 rfl ?_
              refine zr_callV (As := [.int v3, .int (1 : Int32)]) (fr' := fX12_writes) (lo' := lX12_writes) (bc' := 0) (bs' := 0) (bcr := bc) (bsr := bs) dX12_isNumber_85 zs_X12_311 zi_X12_writes zcl_12 (hS.has (a := 84) rfl rfl) rfl rfl (Nat.le_of_ble_eq_true rfl) (Nat.le_of_ble_eq_true rfl) (Nat.le_of_ble_eq_true rfl) (Nat.le_refl _) (Nat.le_refl _) ?_
              refine ZC.mono (fun w S' I17 L17 k => ?_) k
              obtain ⟨rfl, rfl, k⟩ := k
              show ZW G mX12_isNumber fX12_isNumber lX12_isNumber 88 [zo G 84, .int v1, .int v2, .int v3, .int v4, .int (1 : Int32), .int (0 : Int32)] [] S I17 L17 bc bs Q
              refine zr_aload_n dX12_isNumber_88 rfl rfl ?_
              refine zr_iload_n dX12_isNumber_89 rfl rfl ?_
              refine zr_iload dX12_isNumber_90 rfl ?_
              refine zr_callV (As := [.int v2, .int (0 : Int32)]) (fr' := fX12_isForm) (lo' := lX12_isForm) (bc' := 0) (bs' := 0) (bcr := bc) (bsr := bs) dX12_isNumber_92 zs_X12_315 zi_X12_isForm zcl_12 (hS.has (a := 84) rfl rfl) rfl rfl (Nat.le_of_ble_eq_true rfl) (Nat.le_of_ble_eq_true rfl) (Nat.le_of_ble_eq_true rfl) (Nat.le_refl _) (Nat.le_refl _) ?_
              refine ZC.mono (fun w S' I18 L18 k => ?_) k
              obtain ⟨r18, rfl, rfl, k⟩ := k
              show ZW G mX12_isNumber fX12_isNumber lX12_isNumber 95 [zo G 84, .int v1, .int v2, .int v3, .int v4, .int (1 : Int32), .int (0 : Int32)] [.int r18] S I18 L18 bc bs Q
              refine zr_ifeq (tgt := 100) dX12_isNumber_95 (by decide) (fun hb => ?_) (fun hb => ?_)
              · have k := k.1 hb
                refine zr_iinc (v := (v4 + 1)) dX12_isNumber_100 rfl rfl (Nat.le_of_ble_eq_true rfl) rfl ?_
                refine zr_goto (tgt := 3) dX12_isNumber_103 (by decide) ?_
                exact zr_mask [true, true, true, true, true, false, false] rfl k
              · have k := k.2 hb
                refine zr_iconst (v := 1) dX12_isNumber_98 (by decide) ?_
                exact zr_ireturn dX12_isNumber_99 rfl rfl k
            · have k := k.2 hb
              refine zr_goto (tgt := 100) dX12_isNumber_78 (by decide) ?_
              refine zr_iinc (v := (v4 + 1)) dX12_isNumber_100 rfl rfl (Nat.le_of_ble_eq_true rfl) rfl ?_
              refine zr_goto (tgt := 3) dX12_isNumber_103 (by decide) ?_
              exact zr_mask [true, true, true, true, true, false, false] rfl k
          · have k := k.2 hb
            refine zr_iconst (v := 1) dX12_isNumber_70 (by decide) ?_
            refine zr_goto (tgt := 75) dX12_isNumber_71 (by decide) ?_
            refine zr_icne (tgt := 81) dX12_isNumber_75 (by decide) (fun hb => ?_) (fun hb => ?_)
            · have k := k.1 hb
              refine zr_aload_n dX12_isNumber_81 rfl rfl ?_
              refine zr_iload_n dX12_isNumber_82 rfl rfl ?_
              refine zr_iload dX12_isNumber_83 rfl ?_
              refine zr_callV (As := [.int v3, .int (1 : Int32)]) (fr' := fX12_writes) (lo' := lX12_writes) (bc' := 0) (bs' := 0) (bcr := bc) (bsr := bs) dX12_isNumber_85 zs_X12_311 zi_X12_writes zcl_12 (hS.has (a := 84) rfl rfl) rfl rfl (Nat.le_of_ble_eq_true rfl) (Nat.le_of_ble_eq_true rfl) (Nat.le_of_ble_eq_true rfl) (Nat.le_refl _) (Nat.le_refl _) ?_
              refine ZC.mono (fun w S' I19 L19 k => ?_) k
              obtain ⟨rfl, rfl, k⟩ := k
              show ZW G mX12_isNumber fX12_isNumber lX12_isNumber 88 [zo G 84, .int v1, .int v2, .int v3, .int v4, .int (1 : Int32), .int (0 : Int32)] [] S I19 L19 bc bs Q
              refine zr_aload_n dX12_isNumber_88 rfl rfl ?_
              refine zr_iload_n dX12_isNumber_89 rfl rfl ?_
              refine zr_iload dX12_isNumber_90 rfl ?_
              refine zr_callV (As := [.int v2, .int (0 : Int32)]) (fr' := fX12_isForm) (lo' := lX12_isForm) (bc' := 0) (bs' := 0) (bcr := bc) (bsr := bs) dX12_isNumber_92 zs_X12_315 zi_X12_isForm zcl_12 (hS.has (a := 84) rfl rfl) rfl rfl (Nat.le_of_ble_eq_true rfl) (Nat.le_of_ble_eq_true rfl) (Nat.le_of_ble_eq_true rfl) (Nat.le_refl _) (Nat.le_refl _) ?_
              refine ZC.mono (fun w S' I20 L20 k => ?_) k
              obtain ⟨r20, rfl, rfl, k⟩ := k
              show ZW G mX12_isNumber fX12_isNumber lX12_isNumber 95 [zo G 84, .int v1, .int v2, .int v3, .int v4, .int (1 : Int32), .int (0 : Int32)] [.int r20] S I20 L20 bc bs Q
              refine zr_ifeq (tgt := 100) dX12_isNumber_95 (by decide) (fun hb => ?_) (fun hb => ?_)
              · have k := k.1 hb
                refine zr_iinc (v := (v4 + 1)) dX12_isNumber_100 rfl rfl (Nat.le_of_ble_eq_true rfl) rfl ?_
                refine zr_goto (tgt := 3) dX12_isNumber_103 (by decide) ?_
                exact zr_mask [true, true, true, true, true, false, false] rfl k
              · have k := k.2 hb
                refine zr_iconst (v := 1) dX12_isNumber_98 (by decide) ?_
                exact zr_ireturn dX12_isNumber_99 rfl rfl k
            · have k := k.2 hb
              refine zr_goto (tgt := 100) dX12_isNumber_78 (by decide) ?_
              refine zr_iinc (v := (v4 + 1)) dX12_isNumber_100 rfl rfl (Nat.le_of_ble_eq_true rfl) rfl ?_
              refine zr_goto (tgt := 3) dX12_isNumber_103 (by decide) ?_
              exact zr_mask [true, true, true, true, true, false, false] rfl k
        · have k := k.2 hb
          refine zr_aload_n dX12_isNumber_42 rfl rfl ?_
          refine zr_getR dX12_isNumber_43 zf_X12_75 rfl (hS.has (a := 84) rfl rfl) (hS.ref (a := 105) rfl) ?_
          refine zr_bipush (v := 50) dX12_isNumber_46 (by decide) ?_
          refine zr_iload_n dX12_isNumber_48 rfl rfl ?_
          refine zr_imul dX12_isNumber_49 ?_
          refine zr_iconst (v := 1) dX12_isNumber_50 (by decide) ?_
          refine zr_iadd dX12_isNumber_51 ?_
          obtain ⟨hi8, k⟩ := k
          refine zr_ialdv (x := (I 105 (((50 : Int32) * v1) + (1 : Int32)).toNatClampNeg)) dX12_isNumber_52 (hS.has (a := 105) rfl rfl) hi8 rfl ?_
          refine zr_ifeq (tgt := 100) dX12_isNumber_53 (by decide) (fun hb => ?_) (fun hb => ?_)
          · have k := k.1 hb
            refine zr_iinc (v := (v4 + 1)) dX12_isNumber_100 rfl rfl (Nat.le_of_ble_eq_true rfl) rfl ?_
            refine zr_goto (tgt := 3) dX12_isNumber_103 (by decide) ?_
            exact zr_mask [true, true, true, true, true, false, false] rfl k
          · have k := k.2 hb
            refine zr_aload_n dX12_isNumber_56 rfl rfl ?_
            refine zr_getR dX12_isNumber_57 zf_X12_75 rfl (hS.has (a := 84) rfl rfl) (hS.ref (a := 105) rfl) ?_
            refine zr_bipush (v := 50) dX12_isNumber_60 (by decide) ?_
            refine zr_iload_n dX12_isNumber_62 rfl rfl ?_
            refine zr_imul dX12_isNumber_63 ?_
            obtain ⟨hi9, k⟩ := k
            refine zr_ialdv (x := (I 105 ((50 : Int32) * v1).toNatClampNeg)) dX12_isNumber_64 (hS.has (a := 105) rfl rfl) hi9 rfl ?_
            refine zr_iload dX12_isNumber_65 rfl ?_
            refine zr_ifeq (tgt := 74) dX12_isNumber_67 (by decide) (fun hb => ?_) (fun hb => ?_)
            · have k := k.1 hb
              refine zr_iconst (v := 2) dX12_isNumber_74 (by decide) ?_
              refine zr_icne (tgt := 81) dX12_isNumber_75 (by decide) (fun hb => ?_) (fun hb => ?_)
              · have k := k.1 hb
                refine zr_aload_n dX12_isNumber_81 rfl rfl ?_
                refine zr_iload_n dX12_isNumber_82 rfl rfl ?_
                refine zr_iload dX12_isNumber_83 rfl ?_
                refine zr_callV (As := [.int v3, .int (1 : Int32)]) (fr' := fX12_writes) (lo' := lX12_writes) (bc' := 0) (bs' := 0) (bcr := bc) (bsr := bs) dX12_isNumber_85 zs_X12_311 zi_X12_writes zcl_12 (hS.has (a := 84) rfl rfl) rfl rfl (Nat.le_of_ble_eq_true rfl) (Nat.le_of_ble_eq_true rfl) (Nat.le_of_ble_eq_true rfl) (Nat.le_refl _) (Nat.le_refl _) ?_
                refine ZC.mono (fun w S' I21 L21 k => ?_) k
                obtain ⟨rfl, rfl, k⟩ := k
                show ZW G mX12_isNumber fX12_isNumber lX12_isNumber 88 [zo G 84, .int v1, .int v2, .int v3, .int v4, .int (1 : Int32), .int (0 : Int32)] [] S I21 L21 bc bs Q
                refine zr_aload_n dX12_isNumber_88 rfl rfl ?_
                refine zr_iload_n dX12_isNumber_89 rfl rfl ?_
                refine zr_iload dX12_isNumber_90 rfl ?_
                refine zr_callV (As := [.int v2, .int (0 : Int32)]) (fr' := fX12_isForm) (lo' := lX12_isForm) (bc' := 0) (bs' := 0) (bcr := bc) (bsr := bs) dX12_isNumber_92 zs_X12_315 zi_X12_isForm zcl_12 (hS.has (a := 84) rfl rfl) rfl rfl (Nat.le_of_ble_eq_true rfl) (Nat.le_of_ble_eq_true rfl) (Nat.le_of_ble_eq_true rfl) (Nat.le_refl _) (Nat.le_refl _) ?_
                refine ZC.mono (fun w S' I22 L22 k => ?_) k
                obtain ⟨r22, rfl, rfl, k⟩ := k
                show ZW G mX12_isNumber fX12_isNumber lX12_isNumber 95 [zo G 84, .int v1, .int v2, .int v3, .int v4, .int (1 : Int32), .int (0 : Int32)] [.int r22] S I22 L22 bc bs Q
                refine zr_ifeq (tgt := 100) dX12_isNumber_95 (by decide) (fun hb => ?_) (fun hb => ?_)
                · have k := k.1 hb
                  refine zr_iinc (v := (v4 + 1)) dX12_isNumber_100 rfl rfl (Nat.le_of_ble_eq_true rfl) rfl ?_
                  refine zr_goto (tgt := 3) dX12_isNumber_103 (by decide) ?_
                  exact zr_mask [true, true, true, true, true, false, false] rfl k
                · have k := k.2 hb
                  refine zr_iconst (v := 1) dX12_isNumber_98 (by decide) ?_
                  exact zr_ireturn dX12_isNumber_99 rfl rfl k
              · have k := k.2 hb
                refine zr_goto (tgt := 100) dX12_isNumber_78 (by decide) ?_
                refine zr_iinc (v := (v4 + 1)) dX12_isNumber_100 rfl rfl (Nat.le_of_ble_eq_true rfl) rfl ?_
                refine zr_goto (tgt := 3) dX12_isNumber_103 (by decide) ?_
                exact zr_mask [true, true, true, true, true, false, false] rfl k
            · have k := k.2 hb
              refine zr_iconst (v := 1) dX12_isNumber_70 (by decide) ?_
              refine zr_goto (tgt := 75) dX12_isNumber_71 (by decide) ?_
              refine zr_icne (tgt := 81) dX12_isNumber_75 (by decide) (fun hb => ?_) (fun hb => ?_)
              · have k := k.1 hb
                refine zr_aload_n dX12_isNumber_81 rfl rfl ?_
                refine zr_iload_n dX12_isNumber_82 rfl rfl ?_
                refine zr_iload dX12_isNumber_83 rfl ?_
                refine zr_callV (As := [.int v3, .int (1 : Int32)]) (fr' := fX12_writes) (lo' := lX12_writes) (bc' := 0) (bs' := 0) (bcr := bc) (bsr := bs) dX12_isNumber_85 zs_X12_311 zi_X12_writes zcl_12 (hS.has (a := 84) rfl rfl) rfl rfl (Nat.le_of_ble_eq_true rfl) (Nat.le_of_ble_eq_true rfl) (Nat.le_of_ble_eq_true rfl) (Nat.le_refl _) (Nat.le_refl _) ?_
                refine ZC.mono (fun w S' I23 L23 k => ?_) k
                obtain ⟨rfl, rfl, k⟩ := k
                show ZW G mX12_isNumber fX12_isNumber lX12_isNumber 88 [zo G 84, .int v1, .int v2, .int v3, .int v4, .int (1 : Int32), .int (0 : Int32)] [] S I23 L23 bc bs Q
                refine zr_aload_n dX12_isNumber_88 rfl rfl ?_
                refine zr_iload_n dX12_isNumber_89 rfl rfl ?_
                refine zr_iload dX12_isNumber_90 rfl ?_
                refine zr_callV (As := [.int v2, .int (0 : Int32)]) (fr' := fX12_isForm) (lo' := lX12_isForm) (bc' := 0) (bs' := 0) (bcr := bc) (bsr := bs) dX12_isNumber_92 zs_X12_315 zi_X12_isForm zcl_12 (hS.has (a := 84) rfl rfl) rfl rfl (Nat.le_of_ble_eq_true rfl) (Nat.le_of_ble_eq_true rfl) (Nat.le_of_ble_eq_true rfl) (Nat.le_refl _) (Nat.le_refl _) ?_
                refine ZC.mono (fun w S' I24 L24 k => ?_) k
                obtain ⟨r24, rfl, rfl, k⟩ := k
                show ZW G mX12_isNumber fX12_isNumber lX12_isNumber 95 [zo G 84, .int v1, .int v2, .int v3, .int v4, .int (1 : Int32), .int (0 : Int32)] [.int r24] S I24 L24 bc bs Q
                refine zr_ifeq (tgt := 100) dX12_isNumber_95 (by decide) (fun hb => ?_) (fun hb => ?_)
                · have k := k.1 hb
                  refine zr_iinc (v := (v4 + 1)) dX12_isNumber_100 rfl rfl (Nat.le_of_ble_eq_true rfl) rfl ?_
                  refine zr_goto (tgt := 3) dX12_isNumber_103 (by decide) ?_
                  exact zr_mask [true, true, true, true, true, false, false] rfl k
                · have k := k.2 hb
                  refine zr_iconst (v := 1) dX12_isNumber_98 (by decide) ?_
                  exact zr_ireturn dX12_isNumber_99 rfl rfl k
              · have k := k.2 hb
                refine zr_goto (tgt := 100) dX12_isNumber_78 (by decide) ?_
                refine zr_iinc (v := (v4 + 1)) dX12_isNumber_100 rfl rfl (Nat.le_of_ble_eq_true rfl) rfl ?_
                refine zr_goto (tgt := 3) dX12_isNumber_103 (by decide) ?_
                exact zr_mask [true, true, true, true, true, false, false] rfl k
      · have k := k.2 hb
        refine zr_iconst (v := 1) dX12_isNumber_30 (by decide) ?_
        refine zr_goto (tgt := 35) dX12_isNumber_31 (by decide) ?_
        refine zr_istore dX12_isNumber_35 (Nat.le_of_ble_eq_true rfl) rfl ?_
        refine zr_iload dX12_isNumber_37 rfl ?_
        refine zr_ifeq (tgt := 56) dX12_isNumber_39 (by decide) (fun hb => ?_) (fun hb => ?_)
        · have k := k.1 hb
          refine zr_aload_n dX12_isNumber_56 rfl rfl ?_
          refine zr_getR dX12_isNumber_57 zf_X12_75 rfl (hS.has (a := 84) rfl rfl) (hS.ref (a := 105) rfl) ?_
          refine zr_bipush (v := 50) dX12_isNumber_60 (by decide) ?_
          refine zr_iload_n dX12_isNumber_62 rfl rfl ?_
          refine zr_imul dX12_isNumber_63 ?_
          obtain ⟨hi10, k⟩ := k
          refine zr_ialdv (x := (I 105 ((50 : Int32) * v1).toNatClampNeg)) dX12_isNumber_64 (hS.has (a := 105) rfl rfl) hi10 rfl ?_
          refine zr_iload dX12_isNumber_65 rfl ?_
          refine zr_ifeq (tgt := 74) dX12_isNumber_67 (by decide) (fun hb => ?_) (fun hb => ?_)
          · have k := k.1 hb
            refine zr_iconst (v := 2) dX12_isNumber_74 (by decide) ?_
            refine zr_icne (tgt := 81) dX12_isNumber_75 (by decide) (fun hb => ?_) (fun hb => ?_)
            · have k := k.1 hb
              refine zr_aload_n dX12_isNumber_81 rfl rfl ?_
              refine zr_iload_n dX12_isNumber_82 rfl rfl ?_
              refine zr_iload dX12_isNumber_83 rfl ?_
              refine zr_callV (As := [.int v3, .int (1 : Int32)]) (fr' := fX12_writes) (lo' := lX12_writes) (bc' := 0) (bs' := 0) (bcr := bc) (bsr := bs) dX12_isNumber_85 zs_X12_311 zi_X12_writes zcl_12 (hS.has (a := 84) rfl rfl) rfl rfl (Nat.le_of_ble_eq_true rfl) (Nat.le_of_ble_eq_true rfl) (Nat.le_of_ble_eq_true rfl) (Nat.le_refl _) (Nat.le_refl _) ?_
              refine ZC.mono (fun w S' I25 L25 k => ?_) k
              obtain ⟨rfl, rfl, k⟩ := k
              show ZW G mX12_isNumber fX12_isNumber lX12_isNumber 88 [zo G 84, .int v1, .int v2, .int v3, .int v4, .int (1 : Int32), .int (1 : Int32)] [] S I25 L25 bc bs Q
              refine zr_aload_n dX12_isNumber_88 rfl rfl ?_
              refine zr_iload_n dX12_isNumber_89 rfl rfl ?_
              refine zr_iload dX12_isNumber_90 rfl ?_
              refine zr_callV (As := [.int v2, .int (1 : Int32)]) (fr' := fX12_isForm) (lo' := lX12_isForm) (bc' := 0) (bs' := 0) (bcr := bc) (bsr := bs) dX12_isNumber_92 zs_X12_315 zi_X12_isForm zcl_12 (hS.has (a := 84) rfl rfl) rfl rfl (Nat.le_of_ble_eq_true rfl) (Nat.le_of_ble_eq_true rfl) (Nat.le_of_ble_eq_true rfl) (Nat.le_refl _) (Nat.le_refl _) ?_
              refine ZC.mono (fun w S' I26 L26 k => ?_) k
              obtain ⟨r26, rfl, rfl, k⟩ := k
              show ZW G mX12_isNumber fX12_isNumber lX12_isNumber 95 [zo G 84, .int v1, .int v2, .int v3, .int v4, .int (1 : Int32), .int (1 : Int32)] [.int r26] S I26 L26 bc bs Q
              refine zr_ifeq (tgt := 100) dX12_isNumber_95 (by decide) (fun hb => ?_) (fun hb => ?_)
              · have k := k.1 hb
                refine zr_iinc (v := (v4 + 1)) dX12_isNumber_100 rfl rfl (Nat.le_of_ble_eq_true rfl) rfl ?_
                refine zr_goto (tgt := 3) dX12_isNumber_103 (by decide) ?_
                exact zr_mask [true, true, true, true, true, false, false] rfl k
              · have k := k.2 hb
                refine zr_iconst (v := 1) dX12_isNumber_98 (by decide) ?_
                exact zr_ireturn dX12_isNumber_99 rfl rfl k
            · have k := k.2 hb
              refine zr_goto (tgt := 100) dX12_isNumber_78 (by decide) ?_
              refine zr_iinc (v := (v4 + 1)) dX12_isNumber_100 rfl rfl (Nat.le_of_ble_eq_true rfl) rfl ?_
              refine zr_goto (tgt := 3) dX12_isNumber_103 (by decide) ?_
              exact zr_mask [true, true, true, true, true, false, false] rfl k
          · have k := k.2 hb
            refine zr_iconst (v := 1) dX12_isNumber_70 (by decide) ?_
            refine zr_goto (tgt := 75) dX12_isNumber_71 (by decide) ?_
            refine zr_icne (tgt := 81) dX12_isNumber_75 (by decide) (fun hb => ?_) (fun hb => ?_)
            · have k := k.1 hb
              refine zr_aload_n dX12_isNumber_81 rfl rfl ?_
              refine zr_iload_n dX12_isNumber_82 rfl rfl ?_
              refine zr_iload dX12_isNumber_83 rfl ?_
              refine zr_callV (As := [.int v3, .int (1 : Int32)]) (fr' := fX12_writes) (lo' := lX12_writes) (bc' := 0) (bs' := 0) (bcr := bc) (bsr := bs) dX12_isNumber_85 zs_X12_311 zi_X12_writes zcl_12 (hS.has (a := 84) rfl rfl) rfl rfl (Nat.le_of_ble_eq_true rfl) (Nat.le_of_ble_eq_true rfl) (Nat.le_of_ble_eq_true rfl) (Nat.le_refl _) (Nat.le_refl _) ?_
              refine ZC.mono (fun w S' I27 L27 k => ?_) k
              obtain ⟨rfl, rfl, k⟩ := k
              show ZW G mX12_isNumber fX12_isNumber lX12_isNumber 88 [zo G 84, .int v1, .int v2, .int v3, .int v4, .int (1 : Int32), .int (1 : Int32)] [] S I27 L27 bc bs Q
              refine zr_aload_n dX12_isNumber_88 rfl rfl ?_
              refine zr_iload_n dX12_isNumber_89 rfl rfl ?_
              refine zr_iload dX12_isNumber_90 rfl ?_
              refine zr_callV (As := [.int v2, .int (1 : Int32)]) (fr' := fX12_isForm) (lo' := lX12_isForm) (bc' := 0) (bs' := 0) (bcr := bc) (bsr := bs) dX12_isNumber_92 zs_X12_315 zi_X12_isForm zcl_12 (hS.has (a := 84) rfl rfl) rfl rfl (Nat.le_of_ble_eq_true rfl) (Nat.le_of_ble_eq_true rfl) (Nat.le_of_ble_eq_true rfl) (Nat.le_refl _) (Nat.le_refl _) ?_
              refine ZC.mono (fun w S' I28 L28 k => ?_) k
              obtain ⟨r28, rfl, rfl, k⟩ := k
              show ZW G mX12_isNumber fX12_isNumber lX12_isNumber 95 [zo G 84, .int v1, .int v2, .int v3, .int v4, .int (1 : Int32), .int (1 : Int32)] [.int r28] S I28 L28 bc bs Q
              refine zr_ifeq (tgt := 100) dX12_isNumber_95 (by decide) (fun hb => ?_) (fun hb => ?_)
              · have k := k.1 hb
                refine zr_iinc (v := (v4 + 1)) dX12_isNumber_100 rfl rfl (Nat.le_of_ble_eq_true rfl) rfl ?_
                refine zr_goto (tgt := 3) dX12_isNumber_103 (by decide) ?_
                exact zr_mask [true, true, true, true, true, false, false] rfl k
              · have k := k.2 hb
                refine zr_iconst (v := 1) dX12_isNumber_98 (by decide) ?_
                exact zr_ireturn dX12_isNumber_99 rfl rfl k
            · have k := k.2 hb
              refine zr_goto (tgt := 100) dX12_isNumber_78 (by decide) ?_
              refine zr_iinc (v := (v4 + 1)) dX12_isNumber_100 rfl rfl (Nat.le_of_ble_eq_true rfl) rfl ?_
              refine zr_goto (tgt := 3) dX12_isNumber_103 (by decide) ?_
              exact zr_mask [true, true, true, true, true, false, false] rfl k
        · have k := k.2 hb
          refine zr_aload_n dX12_isNumber_42 rfl rfl ?_
          refine zr_getR dX12_isNumber_43 zf_X12_75 rfl (hS.has (a := 84) rfl rfl) (hS.ref (a := 105) rfl) ?_
          refine zr_bipush (v := 50) dX12_isNumber_46 (by decide) ?_
          refine zr_iload_n dX12_isNumber_48 rfl rfl ?_
          refine zr_imul dX12_isNumber_49 ?_
          refine zr_iconst (v := 1) dX12_isNumber_50 (by decide) ?_
          refine zr_iadd dX12_isNumber_51 ?_
          obtain ⟨hi11, k⟩ := k
          refine zr_ialdv (x := (I 105 (((50 : Int32) * v1) + (1 : Int32)).toNatClampNeg)) dX12_isNumber_52 (hS.has (a := 105) rfl rfl) hi11 rfl ?_
          refine zr_ifeq (tgt := 100) dX12_isNumber_53 (by decide) (fun hb => ?_) (fun hb => ?_)
          · have k := k.1 hb
            refine zr_iinc (v := (v4 + 1)) dX12_isNumber_100 rfl rfl (Nat.le_of_ble_eq_true rfl) rfl ?_
            refine zr_goto (tgt := 3) dX12_isNumber_103 (by decide) ?_
            exact zr_mask [true, true, true, true, true, false, false] rfl k
          · have k := k.2 hb
            refine zr_aload_n dX12_isNumber_56 rfl rfl ?_
            refine zr_getR dX12_isNumber_57 zf_X12_75 rfl (hS.has (a := 84) rfl rfl) (hS.ref (a := 105) rfl) ?_
            refine zr_bipush (v := 50) dX12_isNumber_60 (by decide) ?_
            refine zr_iload_n dX12_isNumber_62 rfl rfl ?_
            refine zr_imul dX12_isNumber_63 ?_
            obtain ⟨hi12, k⟩ := k
            refine zr_ialdv (x := (I 105 ((50 : Int32) * v1).toNatClampNeg)) dX12_isNumber_64 (hS.has (a := 105) rfl rfl) hi12 rfl ?_
            refine zr_iload dX12_isNumber_65 rfl ?_
            refine zr_ifeq (tgt := 74) dX12_isNumber_67 (by decide) (fun hb => ?_) (fun hb => ?_)
            · have k := k.1 hb
              refine zr_iconst (v := 2) dX12_isNumber_74 (by decide) ?_
              refine zr_icne (tgt := 81) dX12_isNumber_75 (by decide) (fun hb => ?_) (fun hb => ?_)
              · have k := k.1 hb
                refine zr_aload_n dX12_isNumber_81 rfl rfl ?_
                refine zr_iload_n dX12_isNumber_82 rfl rfl ?_
                refine zr_iload dX12_isNumber_83 rfl ?_
                refine zr_callV (As := [.int v3, .int (1 : Int32)]) (fr' := fX12_writes) (lo' := lX12_writes) (bc' := 0) (bs' := 0) (bcr := bc) (bsr := bs) dX12_isNumber_85 zs_X12_311 zi_X12_writes zcl_12 (hS.has (a := 84) rfl rfl) rfl rfl (Nat.le_of_ble_eq_true rfl) (Nat.le_of_ble_eq_true rfl) (Nat.le_of_ble_eq_true rfl) (Nat.le_refl _) (Nat.le_refl _) ?_
                refine ZC.mono (fun w S' I29 L29 k => ?_) k
                obtain ⟨rfl, rfl, k⟩ := k
                show ZW G mX12_isNumber fX12_isNumber lX12_isNumber 88 [zo G 84, .int v1, .int v2, .int v3, .int v4, .int (1 : Int32), .int (1 : Int32)] [] S I29 L29 bc bs Q
                refine zr_aload_n dX12_isNumber_88 rfl rfl ?_
                refine zr_iload_n dX12_isNumber_89 rfl rfl ?_
                refine zr_iload dX12_isNumber_90 rfl ?_
                refine zr_callV (As := [.int v2, .int (1 : Int32)]) (fr' := fX12_isForm) (lo' := lX12_isForm) (bc' := 0) (bs' := 0) (bcr := bc) (bsr := bs) dX12_isNumber_92 zs_X12_315 zi_X12_isForm zcl_12 (hS.has (a := 84) rfl rfl) rfl rfl (Nat.le_of_ble_eq_true rfl) (Nat.le_of_ble_eq_true rfl) (Nat.le_of_ble_eq_true rfl) (Nat.le_refl _) (Nat.le_refl _) ?_
                refine ZC.mono (fun w S' I30 L30 k => ?_) k
                obtain ⟨r30, rfl, rfl, k⟩ := k
                show ZW G mX12_isNumber fX12_isNumber lX12_isNumber 95 [zo G 84, .int v1, .int v2, .int v3, .int v4, .int (1 : Int32), .int (1 : Int32)] [.int r30] S I30 L30 bc bs Q
                refine zr_ifeq (tgt := 100) dX12_isNumber_95 (by decide) (fun hb => ?_) (fun hb => ?_)
                · have k := k.1 hb
                  refine zr_iinc (v := (v4 + 1)) dX12_isNumber_100 rfl rfl (Nat.le_of_ble_eq_true rfl) rfl ?_
                  refine zr_goto (tgt := 3) dX12_isNumber_103 (by decide) ?_
                  exact zr_mask [true, true, true, true, true, false, false] rfl k
                · have k := k.2 hb
                  refine zr_iconst (v := 1) dX12_isNumber_98 (by decide) ?_
                  exact zr_ireturn dX12_isNumber_99 rfl rfl k
              · have k := k.2 hb
                refine zr_goto (tgt := 100) dX12_isNumber_78 (by decide) ?_
                refine zr_iinc (v := (v4 + 1)) dX12_isNumber_100 rfl rfl (Nat.le_of_ble_eq_true rfl) rfl ?_
                refine zr_goto (tgt := 3) dX12_isNumber_103 (by decide) ?_
                exact zr_mask [true, true, true, true, true, false, false] rfl k
            · have k := k.2 hb
              refine zr_iconst (v := 1) dX12_isNumber_70 (by decide) ?_
              refine zr_goto (tgt := 75) dX12_isNumber_71 (by decide) ?_
              refine zr_icne (tgt := 81) dX12_isNumber_75 (by decide) (fun hb => ?_) (fun hb => ?_)
              · have k := k.1 hb
                refine zr_aload_n dX12_isNumber_81 rfl rfl ?_
                refine zr_iload_n dX12_isNumber_82 rfl rfl ?_
                refine zr_iload dX12_isNumber_83 rfl ?_
                refine zr_callV (As := [.int v3, .int (1 : Int32)]) (fr' := fX12_writes) (lo' := lX12_writes) (bc' := 0) (bs' := 0) (bcr := bc) (bsr := bs) dX12_isNumber_85 zs_X12_311 zi_X12_writes zcl_12 (hS.has (a := 84) rfl rfl) rfl rfl (Nat.le_of_ble_eq_true rfl) (Nat.le_of_ble_eq_true rfl) (Nat.le_of_ble_eq_true rfl) (Nat.le_refl _) (Nat.le_refl _) ?_
                refine ZC.mono (fun w S' I31 L31 k => ?_) k
                obtain ⟨rfl, rfl, k⟩ := k
                show ZW G mX12_isNumber fX12_isNumber lX12_isNumber 88 [zo G 84, .int v1, .int v2, .int v3, .int v4, .int (1 : Int32), .int (1 : Int32)] [] S I31 L31 bc bs Q
                refine zr_aload_n dX12_isNumber_88 rfl rfl ?_
                refine zr_iload_n dX12_isNumber_89 rfl rfl ?_
                refine zr_iload dX12_isNumber_90 rfl ?_
                refine zr_callV (As := [.int v2, .int (1 : Int32)]) (fr' := fX12_isForm) (lo' := lX12_isForm) (bc' := 0) (bs' := 0) (bcr := bc) (bsr := bs) dX12_isNumber_92 zs_X12_315 zi_X12_isForm zcl_12 (hS.has (a := 84) rfl rfl) rfl rfl (Nat.le_of_ble_eq_true rfl) (Nat.le_of_ble_eq_true rfl) (Nat.le_of_ble_eq_true rfl) (Nat.le_refl _) (Nat.le_refl _) ?_
                refine ZC.mono (fun w S' I32 L32 k => ?_) k
                obtain ⟨r32, rfl, rfl, k⟩ := k
                show ZW G mX12_isNumber fX12_isNumber lX12_isNumber 95 [zo G 84, .int v1, .int v2, .int v3, .int v4, .int (1 : Int32), .int (1 : Int32)] [.int r32] S I32 L32 bc bs Q
                refine zr_ifeq (tgt := 100) dX12_isNumber_95 (by decide) (fun hb => ?_) (fun hb => ?_)
                · have k := k.1 hb
                  refine zr_iinc (v := (v4 + 1)) dX12_isNumber_100 rfl rfl (Nat.le_of_ble_eq_true rfl) rfl ?_
                  refine zr_goto (tgt := 3) dX12_isNumber_103 (by decide) ?_
                  exact zr_mask [true, true, true, true, true, false, false] rfl k
                · have k := k.2 hb
                  refine zr_iconst (v := 1) dX12_isNumber_98 (by decide) ?_
                  exact zr_ireturn dX12_isNumber_99 rfl rfl k
              · have k := k.2 hb
                refine zr_goto (tgt := 100) dX12_isNumber_78 (by decide) ?_
                refine zr_iinc (v := (v4 + 1)) dX12_isNumber_100 rfl rfl (Nat.le_of_ble_eq_true rfl) rfl ?_
                refine zr_goto (tgt := 3) dX12_isNumber_103 (by decide) ?_
                exact zr_mask [true, true, true, true, true, false, false] rfl k
set_option maxHeartbeats 2000000 in
theorem vX12_numbers_0 {G : Gp} {bc bs : Nat} {Q : zPost} {S : zSh} {I : zFI} {L : zFL} {v1 : Int32} {v2 : Int32} (hS : zStd S)  (k : ZC G mX12_markOf fX12_markOf lX12_markOf [zo G 84, .int v2] S I L 0 0 (fun w S' I1 L1 => ∃ r1 : Int32, w = some (.int r1) ∧ S = S' ∧ ZW G mX12_numbers fX12_numbers lX12_numbers 12 [zo G 84, .int v1, .int v2, .int r1, .long (0 : Int64), .null, .int (1 : Int32)] [] S I1 L1 bc bs Q)) : ZW G mX12_numbers fX12_numbers lX12_numbers 0 [zo G 84, .int v1, .int v2, .null, .null, .null, .null] [] S I L bc bs Q := by
  refine zr_aload_n dX12_numbers_0 rfl rfl ?_
  refine zr_iload_n dX12_numbers_1 rfl rfl ?_
  refine zr_callV (As := [.int v2]) (fr' := fX12_markOf) (lo' := lX12_markOf) (bc' := 0) (bs' := 0) (bcr := bc) (bsr := bs) dX12_numbers_2 zs_X12_221 zi_X12_markOf zcl_12 (hS.has (a := 84) rfl rfl) rfl rfl (Nat.le_of_ble_eq_true rfl) (Nat.le_of_ble_eq_true rfl) (Nat.le_of_ble_eq_true rfl) (Nat.le_refl _) (Nat.le_refl _) ?_
  refine ZC.mono (fun w S' I1 L1 k => ?_) k
  obtain ⟨r1, rfl, rfl, k⟩ := k
  show ZW G mX12_numbers fX12_numbers lX12_numbers 5 [zo G 84, .int v1, .int v2, .null, .null, .null, .null] [.int r1] S I1 L1 bc bs Q
  refine zr_istore_n dX12_numbers_5 rfl (Nat.le_of_ble_eq_true rfl) rfl ?_
  refine zr_lconst (v := 0) dX12_numbers_6 (by decide) ?_
  refine zr_lstore dX12_numbers_7 (Nat.le_of_ble_eq_true rfl) rfl ?_
  refine zr_iconst (v := 1) dX12_numbers_9 (by decide) ?_
  refine zr_istore dX12_numbers_10 (Nat.le_of_ble_eq_true rfl) rfl ?_
  exact k
set_option maxHeartbeats 2000000 in
theorem vX12_numbers_12 {G : Gp} {bc bs : Nat} {Q : zPost} {S : zSh} {I : zFI} {L : zFL} {v1 : Int32} {v2 : Int32} {v3 : Int32} {v4 : Int64} {v6 : Int32} (hS : zStd S)  (k : (((40 : Int32) ≤ v6 → Q (some (.long v4)) S I L) ∧ (¬ (40 : Int32) ≤ v6 → ((v3 = (-1 : Int32) → ZW G mX12_numbers fX12_numbers lX12_numbers 12 [zo G 84, .int v1, .int v2, .int v3, .long (v4 ||| ((1 : Int64) <<< (v6.toInt64 &&& 63))), .null, .int (v6 + 1)] [] S I L bc bs Q) ∧ (¬ v3 = (-1 : Int32) → vp_in v3 200 ∧ (((I 101 v3.toNatClampNeg) = 0 → ZW G mX12_numbers fX12_numbers lX12_numbers 12 [zo G 84, .int v1, .int v2, .int v3, .long (v4 ||| ((1 : Int64) <<< (v6.toInt64 &&& 63))), .null, .int (v6 + 1)] [] S I L bc bs Q) ∧ (¬ (I 101 v3.toNatClampNeg) = 0 → ZC G mX12_isNumber fX12_isNumber lX12_isNumber [zo G 84, .int v1, .int v3, .int v6] S I L 0 0 (fun w S' I1 L1 => ∃ r1 : Int32, w = some (.int r1) ∧ S = S' ∧ ((r1 = 0 → ZW G mX12_numbers fX12_numbers lX12_numbers 12 [zo G 84, .int v1, .int v2, .int v3, .long v4, .null, .int (v6 + 1)] [] S I1 L1 bc bs Q) ∧ (¬ r1 = 0 → ZW G mX12_numbers fX12_numbers lX12_numbers 12 [zo G 84, .int v1, .int v2, .int v3, .long (v4 ||| ((1 : Int64) <<< (v6.toInt64 &&& 63))), .null, .int (v6 + 1)] [] S I1 L1 bc bs Q)))))))))) : ZW G mX12_numbers fX12_numbers lX12_numbers 12 [zo G 84, .int v1, .int v2, .int v3, .long v4, .null, .int v6] [] S I L bc bs Q := by
  refine zr_iload dX12_numbers_12 rfl ?_
  refine zr_bipush (v := 40) dX12_numbers_14 (by decide) ?_
  refine zr_icge (tgt := 59) dX12_numbers_16 (by decide) (fun hb => ?_) (fun hb => ?_)
  · have k := k.1 hb
    refine zr_lload dX12_numbers_59 rfl ?_
    exact zr_lreturn dX12_numbers_61 rfl k
  · have k := k.2 hb
    refine zr_iload_n dX12_numbers_19 rfl rfl ?_
    refine zr_iconst (v := -1) dX12_numbers_20 (by decide) ?_
    refine zr_iceq (tgt := 44) dX12_numbers_21 (by decide) (fun hb => ?_) (fun hb => ?_)
    · have k := k.1 hb
      refine zr_lload dX12_numbers_44 rfl ?_
      refine zr_lconst (v := 1) dX12_numbers_46 (by decide) ?_
      refine zr_iload dX12_numbers_47 rfl ?_
      refine zr_lshl dX12_numbers_49 rfl ?_
      refine zr_lor dX12_numbers_50 ?_
      refine zr_lstore dX12_numbers_51 (Nat.le_of_ble_eq_true rfl) rfl ?_
      refine zr_iinc (v := (v6 + 1)) dX12_numbers_53 rfl rfl (Nat.le_of_ble_eq_true rfl) rfl ?_
      refine zr_goto (tgt := 12) dX12_numbers_56 (by decide) ?_
      exact k
    · have k := k.2 hb
      refine zr_aload_n dX12_numbers_24 rfl rfl ?_
      refine zr_getR dX12_numbers_25 zf_X12_63 rfl (hS.has (a := 84) rfl rfl) (hS.ref (a := 101) rfl) ?_
      refine zr_iload_n dX12_numbers_28 rfl rfl ?_
      obtain ⟨hi1, k⟩ := k
      refine zr_ialdv (x := (I 101 v3.toNatClampNeg)) dX12_numbers_29 (hS.has (a := 101) rfl rfl) hi1 rfl ?_
      refine zr_ifeq (tgt := 44) dX12_numbers_30 (by decide) (fun hb => ?_) (fun hb => ?_)
      · have k := k.1 hb
        refine zr_lload dX12_numbers_44 rfl ?_
        refine zr_lconst (v := 1) dX12_numbers_46 (by decide) ?_
        refine zr_iload dX12_numbers_47 rfl ?_
        refine zr_lshl dX12_numbers_49 rfl ?_
        refine zr_lor dX12_numbers_50 ?_
        refine zr_lstore dX12_numbers_51 (Nat.le_of_ble_eq_true rfl) rfl ?_
        refine zr_iinc (v := (v6 + 1)) dX12_numbers_53 rfl rfl (Nat.le_of_ble_eq_true rfl) rfl ?_
        refine zr_goto (tgt := 12) dX12_numbers_56 (by decide) ?_
        exact k
      · have k := k.2 hb
        refine zr_aload_n dX12_numbers_33 rfl rfl ?_
        refine zr_iload_n dX12_numbers_34 rfl rfl ?_
        refine zr_iload_n dX12_numbers_35 rfl rfl ?_
        refine zr_iload dX12_numbers_36 rfl ?_
        refine zr_callV (As := [.int v1, .int v3, .int v6]) (fr' := fX12_isNumber) (lo' := lX12_isNumber) (bc' := 0) (bs' := 0) (bcr := bc) (bsr := bs) dX12_numbers_38 zs_X12_319 zi_X12_isNumber zcl_12 (hS.has (a := 84) rfl rfl) rfl rfl (Nat.le_of_ble_eq_true rfl) (Nat.le_of_ble_eq_true rfl) (Nat.le_of_ble_eq_true rfl) (Nat.le_refl _) (Nat.le_refl _) ?_
        refine ZC.mono (fun w S' I1 L1 k => ?_) k
        obtain ⟨r1, rfl, rfl, k⟩ := k
        show ZW G mX12_numbers fX12_numbers lX12_numbers 41 [zo G 84, .int v1, .int v2, .int v3, .long v4, .null, .int v6] [.int r1] S I1 L1 bc bs Q
        refine zr_ifeq (tgt := 53) dX12_numbers_41 (by decide) (fun hb => ?_) (fun hb => ?_)
        · have k := k.1 hb
          refine zr_iinc (v := (v6 + 1)) dX12_numbers_53 rfl rfl (Nat.le_of_ble_eq_true rfl) rfl ?_
          refine zr_goto (tgt := 12) dX12_numbers_56 (by decide) ?_
          exact k
        · have k := k.2 hb
          refine zr_lload dX12_numbers_44 rfl ?_
          refine zr_lconst (v := 1) dX12_numbers_46 (by decide) ?_
          refine zr_iload dX12_numbers_47 rfl ?_
          refine zr_lshl dX12_numbers_49 rfl ?_
          refine zr_lor dX12_numbers_50 ?_
          refine zr_lstore dX12_numbers_51 (Nat.le_of_ble_eq_true rfl) rfl ?_
          refine zr_iinc (v := (v6 + 1)) dX12_numbers_53 rfl rfl (Nat.le_of_ble_eq_true rfl) rfl ?_
          refine zr_goto (tgt := 12) dX12_numbers_56 (by decide) ?_
          exact k
set_option maxHeartbeats 2000000 in
theorem vX12_reads__0 {G : Gp} {bc bs : Nat} {Q : zPost} {S : zSh} {I : zFI} {L : zFL} {v1 : Int32} {v2 : Int32} (hS : zStd S)  (k : (((p_X12_isIn v1 (0 : Int32) (1 : Int32)) = 0 → Q (some (.long (-1 : Int64))) S (u2 I 84 0 (0 : Int32)) L) ∧ (¬ (p_X12_isIn v1 (0 : Int32) (1 : Int32)) = 0 → (¬ v2 < 0 → ¬ ((u2 I 84 0 (0 : Int32)) 84 13) ≤ v2 → vp_in v2 48) ∧ (((p_X12_isJoint (u2 I 84 0 (0 : Int32)) v2) = 0 → Q (some (.long (-1 : Int64))) S (u2 I 84 0 (0 : Int32)) L) ∧ (¬ (p_X12_isJoint (u2 I 84 0 (0 : Int32)) v2) = 0 → ZC G mX12_numbers fX12_numbers lX12_numbers [zo G 84, .int v1, .int v2] S (u2 I 84 0 (0 : Int32)) L 0 0 (fun w S' I1 L1 => ∃ r1 : Int64, w = some (.long r1) ∧ S = S' ∧ Q (some (.long r1)) S I1 L1)))))) : ZW G mX12_reads_ fX12_reads_ lX12_reads_ 0 [zo G 84, .int v1, .int v2] [] S I L bc bs Q := by
  refine zr_aload_n dX12_reads__0 rfl rfl ?_
  refine zr_iconst (v := 0) dX12_reads__1 (by decide) ?_
  refine zr_putI dX12_reads__2 zf_X12_188 rfl (hS.has (a := 84) rfl rfl) rfl rfl ?_
  refine zr_aload_n dX12_reads__5 rfl rfl ?_
  refine zr_iload_n dX12_reads__6 rfl rfl ?_
  refine zr_iconst (v := 0) dX12_reads__7 (by decide) ?_
  refine zr_iconst (v := 1) dX12_reads__8 (by decide) ?_
  refine zr_callV (As := [.int v1, .int (0 : Int32), .int (1 : Int32)]) (fr' := fX12_isIn) (lo' := lX12_isIn) (bc' := 0) (bs' := 0) (bcr := bc) (bsr := bs) dX12_reads__9 zs_X12_201 zi_X12_isIn zcl_12 (hS.has (a := 84) rfl rfl) rfl rfl (Nat.le_of_ble_eq_true rfl) (Nat.le_of_ble_eq_true rfl) (Nat.le_of_ble_eq_true rfl) (Nat.le_refl _) (Nat.le_refl _) ?_
  refine sp_X12_isIn hS  ?_
  show ZW G mX12_reads_ fX12_reads_ lX12_reads_ 12 [zo G 84, .int v1, .int v2] [.int (p_X12_isIn v1 (0 : Int32) (1 : Int32))] S (u2 I 84 0 (0 : Int32)) L bc bs Q
  refine zr_ifeq (tgt := 32) dX12_reads__12 (by decide) (fun hb => ?_) (fun hb => ?_)
  · have k := k.1 hb
    refine zr_ldc2_w dX12_reads__32 zk_X12_326 ?_
    exact zr_lreturn dX12_reads__35 rfl k
  · have k := k.2 hb
    refine zr_aload_n dX12_reads__15 rfl rfl ?_
    refine zr_iload_n dX12_reads__16 rfl rfl ?_
    refine zr_callV (As := [.int v2]) (fr' := fX12_isJoint) (lo' := lX12_isJoint) (bc' := 0) (bs' := 0) (bcr := bc) (bsr := bs) dX12_reads__17 zs_X12_286 zi_X12_isJoint zcl_12 (hS.has (a := 84) rfl rfl) rfl rfl (Nat.le_of_ble_eq_true rfl) (Nat.le_of_ble_eq_true rfl) (Nat.le_of_ble_eq_true rfl) (Nat.le_refl _) (Nat.le_refl _) ?_
    obtain ⟨hq0, k⟩ := k
    refine sp_X12_isJoint hS hq0 ?_
    show ZW G mX12_reads_ fX12_reads_ lX12_reads_ 20 [zo G 84, .int v1, .int v2] [.int (p_X12_isJoint (u2 I 84 0 (0 : Int32)) v2)] S (u2 I 84 0 (0 : Int32)) L bc bs Q
    refine zr_ifeq (tgt := 32) dX12_reads__20 (by decide) (fun hb => ?_) (fun hb => ?_)
    · have k := k.1 hb
      refine zr_ldc2_w dX12_reads__32 zk_X12_326 ?_
      exact zr_lreturn dX12_reads__35 rfl k
    · have k := k.2 hb
      refine zr_aload_n dX12_reads__23 rfl rfl ?_
      refine zr_iload_n dX12_reads__24 rfl rfl ?_
      refine zr_iload_n dX12_reads__25 rfl rfl ?_
      refine zr_callV (As := [.int v1, .int v2]) (fr' := fX12_numbers) (lo' := lX12_numbers) (bc' := 0) (bs' := 0) (bcr := bc) (bsr := bs) dX12_reads__26 zs_X12_322 zi_X12_numbers zcl_12 (hS.has (a := 84) rfl rfl) rfl rfl (Nat.le_of_ble_eq_true rfl) (Nat.le_of_ble_eq_true rfl) (Nat.le_of_ble_eq_true rfl) (Nat.le_refl _) (Nat.le_refl _) ?_
      refine ZC.mono (fun w S' I1 L1 k => ?_) k
      obtain ⟨r1, rfl, rfl, k⟩ := k
      show ZW G mX12_reads_ fX12_reads_ lX12_reads_ 29 [zo G 84, .int v1, .int v2] [.long r1] S I1 L1 bc bs Q
      refine zr_goto (tgt := 35) dX12_reads__29 (by decide) ?_
      exact zr_lreturn dX12_reads__35 rfl k
set_option maxHeartbeats 2000000 in
theorem vX12_isFit_0 {G : Gp} {bc bs : Nat} {Q : zPost} {S : zSh} {I : zFI} {L : zFL} {v1 : Int32} {v2 : Int32} {v3 : Int32} (hS : zStd S)  (k : vp_in v2 48 ∧ vp_in v3 48 ∧ (((I 94 v2.toNatClampNeg) = (I 94 v3.toNatClampNeg) → Q (some (.int (0 : Int32))) S I L) ∧ (¬ (I 94 v2.toNatClampNeg) = (I 94 v3.toNatClampNeg) → vp_in (I 94 v2.toNatClampNeg) 16 ∧ vp_in (I 94 v3.toNatClampNeg) 16 ∧ vp_in (((((50 : Int32) * v1) + (10 : Int32)) + ((4 : Int32) * (I 85 (I 94 v2.toNatClampNeg).toNatClampNeg))) + (I 85 (I 94 v3.toNatClampNeg).toNatClampNeg)) 150 ∧ (((I 105 (((((50 : Int32) * v1) + (10 : Int32)) + ((4 : Int32) * (I 85 (I 94 v2.toNatClampNeg).toNatClampNeg))) + (I 85 (I 94 v3.toNatClampNeg).toNatClampNeg)).toNatClampNeg) = 0 → Q (some (.int (0 : Int32))) S I L) ∧ (¬ (I 105 (((((50 : Int32) * v1) + (10 : Int32)) + ((4 : Int32) * (I 85 (I 94 v2.toNatClampNeg).toNatClampNeg))) + (I 85 (I 94 v3.toNatClampNeg).toNatClampNeg)).toNatClampNeg) = 0 → vp_in (((50 : Int32) * v1) + (2 : Int32)) 150 ∧ ((¬ (p_X12_isIn ((I 97 v3.toNatClampNeg) - (I 97 v2.toNatClampNeg)) (0 : Int32) (I 105 (((50 : Int32) * v1) + (2 : Int32)).toNatClampNeg)) = 0 → ZC G mX12_signsOf fX12_signsOf lX12_signsOf [zo G 84, .int v2] S I L 0 0 (fun w S' I1 L1 => ∃ r1 : Int32, w = some (.int r1) ∧ S = S' ∧ ((r1 ≤ 0 → ZC G mX12_numbers fX12_numbers lX12_numbers [zo G 84, .int v1, .int v2] S I1 L1 0 0 (fun w S' I2 L2 => ∃ r2 : Int64, w = some (.long r2) ∧ S = S' ∧ ZC G mX12_numbers fX12_numbers lX12_numbers [zo G 84, .int v1, .int v3] S I2 L2 0 0 (fun w S' I3 L3 => ∃ r3 : Int64, w = some (.long r3) ∧ S = S' ∧ (((lg_cmp (r2 &&& r3) (0 : Int64)) = 0 → Q (some (.int (0 : Int32))) S I3 L3) ∧ (¬ (lg_cmp (r2 &&& r3) (0 : Int64)) = 0 → Q (some (.int (1 : Int32))) S I3 L3))))) ∧ (¬ r1 ≤ 0 → ZC G mX12_signsOf fX12_signsOf lX12_signsOf [zo G 84, .int v3] S I1 L1 0 0 (fun w S' I4 L4 => ∃ r4 : Int32, w = some (.int r4) ∧ S = S' ∧ ((r4 ≤ 0 → ZC G mX12_numbers fX12_numbers lX12_numbers [zo G 84, .int v1, .int v2] S I4 L4 0 0 (fun w S' I5 L5 => ∃ r5 : Int64, w = some (.long r5) ∧ S = S' ∧ ZC G mX12_numbers fX12_numbers lX12_numbers [zo G 84, .int v1, .int v3] S I5 L5 0 0 (fun w S' I6 L6 => ∃ r6 : Int64, w = some (.long r6) ∧ S = S' ∧ (((lg_cmp (r5 &&& r6) (0 : Int64)) = 0 → Q (some (.int (0 : Int32))) S I6 L6) ∧ (¬ (lg_cmp (r5 &&& r6) (0 : Int64)) = 0 → Q (some (.int (1 : Int32))) S I6 L6))))) ∧ (¬ r4 ≤ 0 → ZC G mX12_sideOf fX12_sideOf lX12_sideOf [zo G 84, .int v2] S I4 L4 0 0 (fun w S' I7 L7 => ∃ r7 : Int32, w = some (.int r7) ∧ S = S' ∧ ZC G mX12_sideOf fX12_sideOf lX12_sideOf [zo G 84, .int v3] S I7 L7 0 0 (fun w S' I8 L8 => ∃ r8 : Int32, w = some (.int r8) ∧ S = S' ∧ ((r7 = r8 → ZC G mX12_numbers fX12_numbers lX12_numbers [zo G 84, .int v1, .int v2] S I8 L8 0 0 (fun w S' I9 L9 => ∃ r9 : Int64, w = some (.long r9) ∧ S = S' ∧ ZC G mX12_numbers fX12_numbers lX12_numbers [zo G 84, .int v1, .int v3] S I9 L9 0 0 (fun w S' I10 L10 => ∃ r10 : Int64, w = some (.long r10) ∧ S = S' ∧ (((lg_cmp (r9 &&& r10) (0 : Int64)) = 0 → Q (some (.int (0 : Int32))) S I10 L10) ∧ (¬ (lg_cmp (r9 &&& r10) (0 : Int64)) = 0 → Q (some (.int (1 : Int32))) S I10 L10))))) ∧ (¬ r7 = r8 → Q (some (.int (0 : Int32))) S I8 L8))))))))))) ∧ ((p_X12_isIn ((I 97 v3.toNatClampNeg) - (I 97 v2.toNatClampNeg)) (0 : Int32) (I 105 (((50 : Int32) * v1) + (2 : Int32)).toNatClampNeg)) = 0 → Q (some (.int (0 : Int32))) S I L))))))) : ZW G mX12_isFit fX12_isFit lX12_isFit 0 [zo G 84, .int v1, .int v2, .int v3, .null, .null, .null] [] S I L bc bs Q := by
  refine zr_aload_n dX12_isFit_0 rfl rfl ?_
  refine zr_getR dX12_isFit_1 zf_X12_42 rfl (hS.has (a := 84) rfl rfl) (hS.ref (a := 94) rfl) ?_
  refine zr_iload_n dX12_isFit_4 rfl rfl ?_
  obtain ⟨hi1, k⟩ := k
  refine zr_ialdv (x := (I 94 v2.toNatClampNeg)) dX12_isFit_5 (hS.has (a := 94) rfl rfl) hi1 rfl ?_
  refine zr_istore dX12_isFit_6 (Nat.le_of_ble_eq_true rfl) rfl ?_
  refine zr_aload_n dX12_isFit_8 rfl rfl ?_
  refine zr_getR dX12_isFit_9 zf_X12_42 rfl (hS.has (a := 84) rfl rfl) (hS.ref (a := 94) rfl) ?_
  refine zr_iload_n dX12_isFit_12 rfl rfl ?_
  obtain ⟨hi2, k⟩ := k
  refine zr_ialdv (x := (I 94 v3.toNatClampNeg)) dX12_isFit_13 (hS.has (a := 94) rfl rfl) hi2 rfl ?_
  refine zr_istore dX12_isFit_14 (Nat.le_of_ble_eq_true rfl) rfl ?_
  refine zr_aload_n dX12_isFit_16 rfl rfl ?_
  refine zr_getR dX12_isFit_17 zf_X12_51 rfl (hS.has (a := 84) rfl rfl) (hS.ref (a := 97) rfl) ?_
  refine zr_iload_n dX12_isFit_20 rfl rfl ?_
  refine zr_ialdv (x := (I 97 v3.toNatClampNeg)) dX12_isFit_21 (hS.has (a := 97) rfl rfl) hi2 rfl ?_
  refine zr_aload_n dX12_isFit_22 rfl rfl ?_
  refine zr_getR dX12_isFit_23 zf_X12_51 rfl (hS.has (a := 84) rfl rfl) (hS.ref (a := 97) rfl) ?_
  refine zr_iload_n dX12_isFit_26 rfl rfl ?_
  refine zr_ialdv (x := (I 97 v2.toNatClampNeg)) dX12_isFit_27 (hS.has (a := 97) rfl rfl) hi1 rfl ?_
  refine zr_isub dX12_isFit_28 ?_
  refine zr_istore dX12_isFit_29 (Nat.le_of_ble_eq_true rfl) rfl ?_
  refine zr_iload dX12_isFit_31 rfl ?_
  refine zr_iload dX12_isFit_33 rfl ?_
  refine zr_iceq (tgt := 92) dX12_isFit_35 (by decide) (fun hb => ?_) (fun hb => ?_)
  · have k := k.1 hb
    refine zr_iconst (v := 0) dX12_isFit_92 (by decide) ?_
    exact zr_ireturn dX12_isFit_93 rfl rfl k
  · have k := k.2 hb
    refine zr_aload_n dX12_isFit_38 rfl rfl ?_
    refine zr_getR dX12_isFit_39 zf_X12_75 rfl (hS.has (a := 84) rfl rfl) (hS.ref (a := 105) rfl) ?_
    refine zr_bipush (v := 50) dX12_isFit_42 (by decide) ?_
    refine zr_iload_n dX12_isFit_44 rfl rfl ?_
    refine zr_imul dX12_isFit_45 ?_
    refine zr_bipush (v := 10) dX12_isFit_46 (by decide) ?_
    refine zr_iadd dX12_isFit_48 ?_
    refine zr_iconst (v := 4) dX12_isFit_49 (by decide) ?_
    refine zr_aload_n dX12_isFit_50 rfl rfl ?_
    refine zr_getR dX12_isFit_51 zf_X12_13 rfl (hS.has (a := 84) rfl rfl) (hS.ref (a := 85) rfl) ?_
    refine zr_iload dX12_isFit_54 rfl ?_
    obtain ⟨hi3, k⟩ := k
    refine zr_ialdv (x := (I 85 (I 94 v2.toNatClampNeg).toNatClampNeg)) dX12_isFit_56 (hS.has (a := 85) rfl rfl) hi3 rfl ?_
    refine zr_imul dX12_isFit_57 ?_
    refine zr_iadd dX12_isFit_58 ?_
    refine zr_aload_n dX12_isFit_59 rfl rfl ?_
    refine zr_getR dX12_isFit_60 zf_X12_13 rfl (hS.has (a := 84) rfl rfl) (hS.ref (a := 85) rfl) ?_
    refine zr_iload dX12_isFit_63 rfl ?_
    obtain ⟨hi4, k⟩ := k
    refine zr_ialdv (x := (I 85 (I 94 v3.toNatClampNeg).toNatClampNeg)) dX12_isFit_65 (hS.has (a := 85) rfl rfl) hi4 rfl ?_
    refine zr_iadd dX12_isFit_66 ?_
    obtain ⟨hi5, k⟩ := k
    refine zr_ialdv (x := (I 105 (((((50 : Int32) * v1) + (10 : Int32)) + ((4 : Int32) * (I 85 (I 94 v2.toNatClampNeg).toNatClampNeg))) + (I 85 (I 94 v3.toNatClampNeg).toNatClampNeg)).toNatClampNeg)) dX12_isFit_67 (hS.has (a := 105) rfl rfl) hi5 rfl ?_
    refine zr_ifeq (tgt := 92) dX12_isFit_68 (by decide) (fun hb => ?_) (fun hb => ?_)
    · have k := k.1 hb
      refine zr_iconst (v := 0) dX12_isFit_92 (by decide) ?_
      exact zr_ireturn dX12_isFit_93 rfl rfl k
    · have k := k.2 hb
      refine zr_aload_n dX12_isFit_71 rfl rfl ?_
      refine zr_iload dX12_isFit_72 rfl ?_
      refine zr_iconst (v := 0) dX12_isFit_74 (by decide) ?_
      refine zr_aload_n dX12_isFit_75 rfl rfl ?_
      refine zr_getR dX12_isFit_76 zf_X12_75 rfl (hS.has (a := 84) rfl rfl) (hS.ref (a := 105) rfl) ?_
      refine zr_bipush (v := 50) dX12_isFit_79 (by decide) ?_
      refine zr_iload_n dX12_isFit_81 rfl rfl ?_
      refine zr_imul dX12_isFit_82 ?_
      refine zr_iconst (v := 2) dX12_isFit_83 (by decide) ?_
      refine zr_iadd dX12_isFit_84 ?_
      obtain ⟨hi6, k⟩ := k
      refine zr_ialdv (x := (I 105 (((50 : Int32) * v1) + (2 : Int32)).toNatClampNeg)) dX12_isFit_85 (hS.has (a := 105) rfl rfl) hi6 rfl ?_
      refine zr_callV (As := [.int ((I 97 v3.toNatClampNeg) - (I 97 v2.toNatClampNeg)), .int (0 : Int32), .int (I 105 (((50 : Int32) * v1) + (2 : Int32)).toNatClampNeg)]) (fr' := fX12_isIn) (lo' := lX12_isIn) (bc' := 0) (bs' := 0) (bcr := bc) (bsr := bs) dX12_isFit_86 zs_X12_201 zi_X12_isIn zcl_12 (hS.has (a := 84) rfl rfl) rfl rfl (Nat.le_of_ble_eq_true rfl) (Nat.le_of_ble_eq_true rfl) (Nat.le_of_ble_eq_true rfl) (Nat.le_refl _) (Nat.le_refl _) ?_
      refine sp_X12_isIn hS  ?_
      show ZW G mX12_isFit fX12_isFit lX12_isFit 89 [zo G 84, .int v1, .int v2, .int v3, .int (I 94 v2.toNatClampNeg), .int (I 94 v3.toNatClampNeg), .int ((I 97 v3.toNatClampNeg) - (I 97 v2.toNatClampNeg))] [.int (p_X12_isIn ((I 97 v3.toNatClampNeg) - (I 97 v2.toNatClampNeg)) (0 : Int32) (I 105 (((50 : Int32) * v1) + (2 : Int32)).toNatClampNeg))] S I L bc bs Q
      refine zr_ifne (tgt := 94) dX12_isFit_89 (by decide) (fun hb => ?_) (fun hb => ?_)
      · have k := k.1 hb
        refine zr_aload_n dX12_isFit_94 rfl rfl ?_
        refine zr_iload_n dX12_isFit_95 rfl rfl ?_
        refine zr_callV (As := [.int v2]) (fr' := fX12_signsOf) (lo' := lX12_signsOf) (bc' := 0) (bs' := 0) (bcr := bc) (bsr := bs) dX12_isFit_96 zs_X12_298 zi_X12_signsOf zcl_12 (hS.has (a := 84) rfl rfl) rfl rfl (Nat.le_of_ble_eq_true rfl) (Nat.le_of_ble_eq_true rfl) (Nat.le_of_ble_eq_true rfl) (Nat.le_refl _) (Nat.le_refl _) ?_
        refine ZC.mono (fun w S' I1 L1 k => ?_) k
        obtain ⟨r1, rfl, rfl, k⟩ := k
        show ZW G mX12_isFit fX12_isFit lX12_isFit 99 [zo G 84, .int v1, .int v2, .int v3, .int (I 94 v2.toNatClampNeg), .int (I 94 v3.toNatClampNeg), .int ((I 97 v3.toNatClampNeg) - (I 97 v2.toNatClampNeg))] [.int r1] S I1 L1 bc bs Q
        refine zr_ifle (tgt := 125) dX12_isFit_99 (by decide) (fun hb => ?_) (fun hb => ?_)
        · have k := k.1 hb
          refine zr_aload_n dX12_isFit_125 rfl rfl ?_
          refine zr_iload_n dX12_isFit_126 rfl rfl ?_
          refine zr_iload_n dX12_isFit_127 rfl rfl ?_
          refine zr_callV (As := [.int v1, .int v2]) (fr' := fX12_numbers) (lo' := lX12_numbers) (bc' := 0) (bs' := 0) (bcr := bc) (bsr := bs) dX12_isFit_128 zs_X12_322 zi_X12_numbers zcl_12 (hS.has (a := 84) rfl rfl) rfl rfl (Nat.le_of_ble_eq_true rfl) (Nat.le_of_ble_eq_true rfl) (Nat.le_of_ble_eq_true rfl) (Nat.le_refl _) (Nat.le_refl _) ?_
          refine ZC.mono (fun w S' I2 L2 k => ?_) k
          obtain ⟨r2, rfl, rfl, k⟩ := k
          show ZW G mX12_isFit fX12_isFit lX12_isFit 131 [zo G 84, .int v1, .int v2, .int v3, .int (I 94 v2.toNatClampNeg), .int (I 94 v3.toNatClampNeg), .int ((I 97 v3.toNatClampNeg) - (I 97 v2.toNatClampNeg))] [.long r2] S I2 L2 bc bs Q
          refine zr_aload_n dX12_isFit_131 rfl rfl ?_
          refine zr_iload_n dX12_isFit_132 rfl rfl ?_
          refine zr_iload_n dX12_isFit_133 rfl rfl ?_
          refine zr_callV (As := [.int v1, .int v3]) (fr' := fX12_numbers) (lo' := lX12_numbers) (bc' := 0) (bs' := 0) (bcr := bc) (bsr := bs) dX12_isFit_134 zs_X12_322 zi_X12_numbers zcl_12 (hS.has (a := 84) rfl rfl) rfl rfl (Nat.le_of_ble_eq_true rfl) (Nat.le_of_ble_eq_true rfl) (Nat.le_of_ble_eq_true rfl) (Nat.le_refl _) (Nat.le_refl _) ?_
          refine ZC.mono (fun w S' I3 L3 k => ?_) k
          obtain ⟨r3, rfl, rfl, k⟩ := k
          show ZW G mX12_isFit fX12_isFit lX12_isFit 137 [zo G 84, .int v1, .int v2, .int v3, .int (I 94 v2.toNatClampNeg), .int (I 94 v3.toNatClampNeg), .int ((I 97 v3.toNatClampNeg) - (I 97 v2.toNatClampNeg))] [.long r3, .long r2] S I3 L3 bc bs Q
          refine zr_land dX12_isFit_137 ?_
          refine zr_lconst (v := 0) dX12_isFit_138 (by decide) ?_
          refine zr_lcmp dX12_isFit_139 ?_
          refine zr_ifeq (tgt := 147) dX12_isFit_140 (by decide) (fun hb => ?_) (fun hb => ?_)
          · have k := k.1 hb
            refine zr_iconst (v := 0) dX12_isFit_147 (by decide) ?_
            exact zr_ireturn dX12_isFit_148 rfl rfl k
          · have k := k.2 hb
            refine zr_iconst (v := 1) dX12_isFit_143 (by decide) ?_
            refine zr_goto (tgt := 148) dX12_isFit_144 (by decide) ?_
            exact zr_ireturn dX12_isFit_148 rfl rfl k
        · have k := k.2 hb
          refine zr_aload_n dX12_isFit_102 rfl rfl ?_
          refine zr_iload_n dX12_isFit_103 rfl rfl ?_
          refine zr_callV (As := [.int v3]) (fr' := fX12_signsOf) (lo' := lX12_signsOf) (bc' := 0) (bs' := 0) (bcr := bc) (bsr := bs) dX12_isFit_104 zs_X12_298 zi_X12_signsOf zcl_12 (hS.has (a := 84) rfl rfl) rfl rfl (Nat.le_of_ble_eq_true rfl) (Nat.le_of_ble_eq_true rfl) (Nat.le_of_ble_eq_true rfl) (Nat.le_refl _) (Nat.le_refl _) ?_
          refine ZC.mono (fun w S' I4 L4 k => ?_) k
          obtain ⟨r4, rfl, rfl, k⟩ := k
          show ZW G mX12_isFit fX12_isFit lX12_isFit 107 [zo G 84, .int v1, .int v2, .int v3, .int (I 94 v2.toNatClampNeg), .int (I 94 v3.toNatClampNeg), .int ((I 97 v3.toNatClampNeg) - (I 97 v2.toNatClampNeg))] [.int r4] S I4 L4 bc bs Q
          refine zr_ifle (tgt := 125) dX12_isFit_107 (by decide) (fun hb => ?_) (fun hb => ?_)
          · have k := k.1 hb
            refine zr_aload_n dX12_isFit_125 rfl rfl ?_
            refine zr_iload_n dX12_isFit_126 rfl rfl ?_
            refine zr_iload_n dX12_isFit_127 rfl rfl ?_
            refine zr_callV (As := [.int v1, .int v2]) (fr' := fX12_numbers) (lo' := lX12_numbers) (bc' := 0) (bs' := 0) (bcr := bc) (bsr := bs) dX12_isFit_128 zs_X12_322 zi_X12_numbers zcl_12 (hS.has (a := 84) rfl rfl) rfl rfl (Nat.le_of_ble_eq_true rfl) (Nat.le_of_ble_eq_true rfl) (Nat.le_of_ble_eq_true rfl) (Nat.le_refl _) (Nat.le_refl _) ?_
            refine ZC.mono (fun w S' I5 L5 k => ?_) k
            obtain ⟨r5, rfl, rfl, k⟩ := k
            show ZW G mX12_isFit fX12_isFit lX12_isFit 131 [zo G 84, .int v1, .int v2, .int v3, .int (I 94 v2.toNatClampNeg), .int (I 94 v3.toNatClampNeg), .int ((I 97 v3.toNatClampNeg) - (I 97 v2.toNatClampNeg))] [.long r5] S I5 L5 bc bs Q
            refine zr_aload_n dX12_isFit_131 rfl rfl ?_
            refine zr_iload_n dX12_isFit_132 rfl rfl ?_
            refine zr_iload_n dX12_isFit_133 rfl rfl ?_
            refine zr_callV (As := [.int v1, .int v3]) (fr' := fX12_numbers) (lo' := lX12_numbers) (bc' := 0) (bs' := 0) (bcr := bc) (bsr := bs) dX12_isFit_134 zs_X12_322 zi_X12_numbers zcl_12 (hS.has (a := 84) rfl rfl) rfl rfl (Nat.le_of_ble_eq_true rfl) (Nat.le_of_ble_eq_true rfl) (Nat.le_of_ble_eq_true rfl) (Nat.le_refl _) (Nat.le_refl _) ?_
            refine ZC.mono (fun w S' I6 L6 k => ?_) k
            obtain ⟨r6, rfl, rfl, k⟩ := k
            show ZW G mX12_isFit fX12_isFit lX12_isFit 137 [zo G 84, .int v1, .int v2, .int v3, .int (I 94 v2.toNatClampNeg), .int (I 94 v3.toNatClampNeg), .int ((I 97 v3.toNatClampNeg) - (I 97 v2.toNatClampNeg))] [.long r6, .long r5] S I6 L6 bc bs Q
            refine zr_land dX12_isFit_137 ?_
            refine zr_lconst (v := 0) dX12_isFit_138 (by decide) ?_
            refine zr_lcmp dX12_isFit_139 ?_
            refine zr_ifeq (tgt := 147) dX12_isFit_140 (by decide) (fun hb => ?_) (fun hb => ?_)
            · have k := k.1 hb
              refine zr_iconst (v := 0) dX12_isFit_147 (by decide) ?_
              exact zr_ireturn dX12_isFit_148 rfl rfl k
            · have k := k.2 hb
              refine zr_iconst (v := 1) dX12_isFit_143 (by decide) ?_
              refine zr_goto (tgt := 148) dX12_isFit_144 (by decide) ?_
              exact zr_ireturn dX12_isFit_148 rfl rfl k
          · have k := k.2 hb
            refine zr_aload_n dX12_isFit_110 rfl rfl ?_
            refine zr_iload_n dX12_isFit_111 rfl rfl ?_
            refine zr_callV (As := [.int v2]) (fr' := fX12_sideOf) (lo' := lX12_sideOf) (bc' := 0) (bs' := 0) (bcr := bc) (bsr := bs) dX12_isFit_112 zs_X12_301 zi_X12_sideOf zcl_12 (hS.has (a := 84) rfl rfl) rfl rfl (Nat.le_of_ble_eq_true rfl) (Nat.le_of_ble_eq_true rfl) (Nat.le_of_ble_eq_true rfl) (Nat.le_refl _) (Nat.le_refl _) ?_
            refine ZC.mono (fun w S' I7 L7 k => ?_) k
            obtain ⟨r7, rfl, rfl, k⟩ := k
            show ZW G mX12_isFit fX12_isFit lX12_isFit 115 [zo G 84, .int v1, .int v2, .int v3, .int (I 94 v2.toNatClampNeg), .int (I 94 v3.toNatClampNeg), .int ((I 97 v3.toNatClampNeg) - (I 97 v2.toNatClampNeg))] [.int r7] S I7 L7 bc bs Q
            refine zr_aload_n dX12_isFit_115 rfl rfl ?_
            refine zr_iload_n dX12_isFit_116 rfl rfl ?_
            refine zr_callV (As := [.int v3]) (fr' := fX12_sideOf) (lo' := lX12_sideOf) (bc' := 0) (bs' := 0) (bcr := bc) (bsr := bs) dX12_isFit_117 zs_X12_301 zi_X12_sideOf zcl_12 (hS.has (a := 84) rfl rfl) rfl rfl (Nat.le_of_ble_eq_true rfl) (Nat.le_of_ble_eq_true rfl) (Nat.le_of_ble_eq_true rfl) (Nat.le_refl _) (Nat.le_refl _) ?_
            refine ZC.mono (fun w S' I8 L8 k => ?_) k
            obtain ⟨r8, rfl, rfl, k⟩ := k
            show ZW G mX12_isFit fX12_isFit lX12_isFit 120 [zo G 84, .int v1, .int v2, .int v3, .int (I 94 v2.toNatClampNeg), .int (I 94 v3.toNatClampNeg), .int ((I 97 v3.toNatClampNeg) - (I 97 v2.toNatClampNeg))] [.int r8, .int r7] S I8 L8 bc bs Q
            refine zr_iceq (tgt := 125) dX12_isFit_120 (by decide) (fun hb => ?_) (fun hb => ?_)
            · have k := k.1 hb
              refine zr_aload_n dX12_isFit_125 rfl rfl ?_
              refine zr_iload_n dX12_isFit_126 rfl rfl ?_
              refine zr_iload_n dX12_isFit_127 rfl rfl ?_
              refine zr_callV (As := [.int v1, .int v2]) (fr' := fX12_numbers) (lo' := lX12_numbers) (bc' := 0) (bs' := 0) (bcr := bc) (bsr := bs) dX12_isFit_128 zs_X12_322 zi_X12_numbers zcl_12 (hS.has (a := 84) rfl rfl) rfl rfl (Nat.le_of_ble_eq_true rfl) (Nat.le_of_ble_eq_true rfl) (Nat.le_of_ble_eq_true rfl) (Nat.le_refl _) (Nat.le_refl _) ?_
              refine ZC.mono (fun w S' I9 L9 k => ?_) k
              obtain ⟨r9, rfl, rfl, k⟩ := k
              show ZW G mX12_isFit fX12_isFit lX12_isFit 131 [zo G 84, .int v1, .int v2, .int v3, .int (I 94 v2.toNatClampNeg), .int (I 94 v3.toNatClampNeg), .int ((I 97 v3.toNatClampNeg) - (I 97 v2.toNatClampNeg))] [.long r9] S I9 L9 bc bs Q
              refine zr_aload_n dX12_isFit_131 rfl rfl ?_
              refine zr_iload_n dX12_isFit_132 rfl rfl ?_
              refine zr_iload_n dX12_isFit_133 rfl rfl ?_
              refine zr_callV (As := [.int v1, .int v3]) (fr' := fX12_numbers) (lo' := lX12_numbers) (bc' := 0) (bs' := 0) (bcr := bc) (bsr := bs) dX12_isFit_134 zs_X12_322 zi_X12_numbers zcl_12 (hS.has (a := 84) rfl rfl) rfl rfl (Nat.le_of_ble_eq_true rfl) (Nat.le_of_ble_eq_true rfl) (Nat.le_of_ble_eq_true rfl) (Nat.le_refl _) (Nat.le_refl _) ?_
              refine ZC.mono (fun w S' I10 L10 k => ?_) k
              obtain ⟨r10, rfl, rfl, k⟩ := k
              show ZW G mX12_isFit fX12_isFit lX12_isFit 137 [zo G 84, .int v1, .int v2, .int v3, .int (I 94 v2.toNatClampNeg), .int (I 94 v3.toNatClampNeg), .int ((I 97 v3.toNatClampNeg) - (I 97 v2.toNatClampNeg))] [.long r10, .long r9] S I10 L10 bc bs Q
              refine zr_land dX12_isFit_137 ?_
              refine zr_lconst (v := 0) dX12_isFit_138 (by decide) ?_
              refine zr_lcmp dX12_isFit_139 ?_
              refine zr_ifeq (tgt := 147) dX12_isFit_140 (by decide) (fun hb => ?_) (fun hb => ?_)
              · have k := k.1 hb
                refine zr_iconst (v := 0) dX12_isFit_147 (by decide) ?_
                exact zr_ireturn dX12_isFit_148 rfl rfl k
              · have k := k.2 hb
                refine zr_iconst (v := 1) dX12_isFit_143 (by decide) ?_
                refine zr_goto (tgt := 148) dX12_isFit_144 (by decide) ?_
                exact zr_ireturn dX12_isFit_148 rfl rfl k
            · have k := k.2 hb
              refine zr_iconst (v := 0) dX12_isFit_123 (by decide) ?_
              exact zr_ireturn dX12_isFit_124 rfl rfl k
      · have k := k.2 hb
        refine zr_iconst (v := 0) dX12_isFit_92 (by decide) ?_
        exact zr_ireturn dX12_isFit_93 rfl rfl k
set_option maxHeartbeats 2000000 in
theorem vX12_fits_0 {G : Gp} {bc bs : Nat} {Q : zPost} {S : zSh} {I : zFI} {L : zFL} {v1 : Int32} {v2 : Int32} {v3 : Int32} (hS : zStd S)  (k : (((p_X12_isIn v1 (0 : Int32) (1 : Int32)) = 0 → Q (some (.int (-1 : Int32))) S (u2 I 84 0 (0 : Int32)) L) ∧ (¬ (p_X12_isIn v1 (0 : Int32) (1 : Int32)) = 0 → (¬ v2 < 0 → ¬ ((u2 I 84 0 (0 : Int32)) 84 13) ≤ v2 → vp_in v2 48) ∧ (((p_X12_isJoint (u2 I 84 0 (0 : Int32)) v2) = 0 → Q (some (.int (-1 : Int32))) S (u2 I 84 0 (0 : Int32)) L) ∧ (¬ (p_X12_isJoint (u2 I 84 0 (0 : Int32)) v2) = 0 → (¬ v3 < 0 → ¬ ((u2 I 84 0 (0 : Int32)) 84 13) ≤ v3 → vp_in v3 48) ∧ (((p_X12_isJoint (u2 I 84 0 (0 : Int32)) v3) = 0 → Q (some (.int (-1 : Int32))) S (u2 I 84 0 (0 : Int32)) L) ∧ (¬ (p_X12_isJoint (u2 I 84 0 (0 : Int32)) v3) = 0 → vp_in v2 48 ∧ ((¬ (I 96 v2.toNatClampNeg) = 0 → Q (some (.int (-1 : Int32))) S (u2 I 84 0 (0 : Int32)) L) ∧ ((I 96 v2.toNatClampNeg) = 0 → vp_in v3 48 ∧ (((I 96 v3.toNatClampNeg) = (1 : Int32) → ZC G mX12_isFit fX12_isFit lX12_isFit [zo G 84, .int v1, .int v2, .int v3] S (u2 I 84 0 (0 : Int32)) L 0 0 (fun w S' I1 L1 => ∃ r1 : Int32, w = some (.int r1) ∧ S = S' ∧ ((r1 = 0 → Q (some (.int (0 : Int32))) S I1 L1) ∧ (¬ r1 = 0 → Q (some (.int (1 : Int32))) S I1 L1)))) ∧ (¬ (I 96 v3.toNatClampNeg) = (1 : Int32) → Q (some (.int (-1 : Int32))) S (u2 I 84 0 (0 : Int32)) L))))))))))) : ZW G mX12_fits fX12_fits lX12_fits 0 [zo G 84, .int v1, .int v2, .int v3] [] S I L bc bs Q := by
  refine zr_aload_n dX12_fits_0 rfl rfl ?_
  refine zr_iconst (v := 0) dX12_fits_1 (by decide) ?_
  refine zr_putI dX12_fits_2 zf_X12_188 rfl (hS.has (a := 84) rfl rfl) rfl rfl ?_
  refine zr_aload_n dX12_fits_5 rfl rfl ?_
  refine zr_iload_n dX12_fits_6 rfl rfl ?_
  refine zr_iconst (v := 0) dX12_fits_7 (by decide) ?_
  refine zr_iconst (v := 1) dX12_fits_8 (by decide) ?_
  refine zr_callV (As := [.int v1, .int (0 : Int32), .int (1 : Int32)]) (fr' := fX12_isIn) (lo' := lX12_isIn) (bc' := 0) (bs' := 0) (bcr := bc) (bsr := bs) dX12_fits_9 zs_X12_201 zi_X12_isIn zcl_12 (hS.has (a := 84) rfl rfl) rfl rfl (Nat.le_of_ble_eq_true rfl) (Nat.le_of_ble_eq_true rfl) (Nat.le_of_ble_eq_true rfl) (Nat.le_refl _) (Nat.le_refl _) ?_
  refine sp_X12_isIn hS  ?_
  show ZW G mX12_fits fX12_fits lX12_fits 12 [zo G 84, .int v1, .int v2, .int v3] [.int (p_X12_isIn v1 (0 : Int32) (1 : Int32))] S (u2 I 84 0 (0 : Int32)) L bc bs Q
  refine zr_ifeq (tgt := 50) dX12_fits_12 (by decide) (fun hb => ?_) (fun hb => ?_)
  · have k := k.1 hb
    refine zr_iconst (v := -1) dX12_fits_50 (by decide) ?_
    exact zr_ireturn dX12_fits_51 rfl rfl k
  · have k := k.2 hb
    refine zr_aload_n dX12_fits_15 rfl rfl ?_
    refine zr_iload_n dX12_fits_16 rfl rfl ?_
    refine zr_callV (As := [.int v2]) (fr' := fX12_isJoint) (lo' := lX12_isJoint) (bc' := 0) (bs' := 0) (bcr := bc) (bsr := bs) dX12_fits_17 zs_X12_286 zi_X12_isJoint zcl_12 (hS.has (a := 84) rfl rfl) rfl rfl (Nat.le_of_ble_eq_true rfl) (Nat.le_of_ble_eq_true rfl) (Nat.le_of_ble_eq_true rfl) (Nat.le_refl _) (Nat.le_refl _) ?_
    obtain ⟨hq0, k⟩ := k
    refine sp_X12_isJoint hS hq0 ?_
    show ZW G mX12_fits fX12_fits lX12_fits 20 [zo G 84, .int v1, .int v2, .int v3] [.int (p_X12_isJoint (u2 I 84 0 (0 : Int32)) v2)] S (u2 I 84 0 (0 : Int32)) L bc bs Q
    refine zr_ifeq (tgt := 50) dX12_fits_20 (by decide) (fun hb => ?_) (fun hb => ?_)
    · have k := k.1 hb
      refine zr_iconst (v := -1) dX12_fits_50 (by decide) ?_
      exact zr_ireturn dX12_fits_51 rfl rfl k
    · have k := k.2 hb
      refine zr_aload_n dX12_fits_23 rfl rfl ?_
      refine zr_iload_n dX12_fits_24 rfl rfl ?_
      refine zr_callV (As := [.int v3]) (fr' := fX12_isJoint) (lo' := lX12_isJoint) (bc' := 0) (bs' := 0) (bcr := bc) (bsr := bs) dX12_fits_25 zs_X12_286 zi_X12_isJoint zcl_12 (hS.has (a := 84) rfl rfl) rfl rfl (Nat.le_of_ble_eq_true rfl) (Nat.le_of_ble_eq_true rfl) (Nat.le_of_ble_eq_true rfl) (Nat.le_refl _) (Nat.le_refl _) ?_
      obtain ⟨hq0, k⟩ := k
      refine sp_X12_isJoint hS hq0 ?_
      show ZW G mX12_fits fX12_fits lX12_fits 28 [zo G 84, .int v1, .int v2, .int v3] [.int (p_X12_isJoint (u2 I 84 0 (0 : Int32)) v3)] S (u2 I 84 0 (0 : Int32)) L bc bs Q
      refine zr_ifeq (tgt := 50) dX12_fits_28 (by decide) (fun hb => ?_) (fun hb => ?_)
      · have k := k.1 hb
        refine zr_iconst (v := -1) dX12_fits_50 (by decide) ?_
        exact zr_ireturn dX12_fits_51 rfl rfl k
      · have k := k.2 hb
        refine zr_aload_n dX12_fits_31 rfl rfl ?_
        refine zr_getR dX12_fits_32 zf_X12_48 rfl (hS.has (a := 84) rfl rfl) (hS.ref (a := 96) rfl) ?_
        refine zr_iload_n dX12_fits_35 rfl rfl ?_
        obtain ⟨hi1, k⟩ := k
        refine zr_ialdv (x := (I 96 v2.toNatClampNeg)) dX12_fits_36 (hS.has (a := 96) rfl rfl) hi1 rfl ?_
        refine zr_ifne (tgt := 50) dX12_fits_37 (by decide) (fun hb => ?_) (fun hb => ?_)
        · have k := k.1 hb
          refine zr_iconst (v := -1) dX12_fits_50 (by decide) ?_
          exact zr_ireturn dX12_fits_51 rfl rfl k
        · have k := k.2 hb
          refine zr_aload_n dX12_fits_40 rfl rfl ?_
          refine zr_getR dX12_fits_41 zf_X12_48 rfl (hS.has (a := 84) rfl rfl) (hS.ref (a := 96) rfl) ?_
          refine zr_iload_n dX12_fits_44 rfl rfl ?_
          obtain ⟨hi2, k⟩ := k
          refine zr_ialdv (x := (I 96 v3.toNatClampNeg)) dX12_fits_45 (hS.has (a := 96) rfl rfl) hi2 rfl ?_
          refine zr_iconst (v := 1) dX12_fits_46 (by decide) ?_
          refine zr_iceq (tgt := 52) dX12_fits_47 (by decide) (fun hb => ?_) (fun hb => ?_)
          · have k := k.1 hb
            refine zr_aload_n dX12_fits_52 rfl rfl ?_
            refine zr_iload_n dX12_fits_53 rfl rfl ?_
            refine zr_iload_n dX12_fits_54 rfl rfl ?_
            refine zr_iload_n dX12_fits_55 rfl rfl ?_
            refine zr_callV (As := [.int v1, .int v2, .int v3]) (fr' := fX12_isFit) (lo' := lX12_isFit) (bc' := 0) (bs' := 0) (bcr := bc) (bsr := bs) dX12_fits_56 zs_X12_328 zi_X12_isFit zcl_12 (hS.has (a := 84) rfl rfl) rfl rfl (Nat.le_of_ble_eq_true rfl) (Nat.le_of_ble_eq_true rfl) (Nat.le_of_ble_eq_true rfl) (Nat.le_refl _) (Nat.le_refl _) ?_
            refine ZC.mono (fun w S' I1 L1 k => ?_) k
            obtain ⟨r1, rfl, rfl, k⟩ := k
            show ZW G mX12_fits fX12_fits lX12_fits 59 [zo G 84, .int v1, .int v2, .int v3] [.int r1] S I1 L1 bc bs Q
            refine zr_ifeq (tgt := 66) dX12_fits_59 (by decide) (fun hb => ?_) (fun hb => ?_)
            · have k := k.1 hb
              refine zr_iconst (v := 0) dX12_fits_66 (by decide) ?_
              exact zr_ireturn dX12_fits_67 rfl rfl k
            · have k := k.2 hb
              refine zr_iconst (v := 1) dX12_fits_62 (by decide) ?_
              refine zr_goto (tgt := 67) dX12_fits_63 (by decide) ?_
              exact zr_ireturn dX12_fits_67 rfl rfl k
          · have k := k.2 hb
            refine zr_iconst (v := -1) dX12_fits_50 (by decide) ?_
            exact zr_ireturn dX12_fits_51 rfl rfl k
set_option maxHeartbeats 2000000 in
theorem vX12_findRows_0 {G : Gp} {bc bs : Nat} {Q : zPost} {S : zSh} {I : zFI} {L : zFL} {v1 : Int32} (hS : zStd S)  (k : ZW G mX12_findRows fX12_findRows lX12_findRows 12 [zo G 84, .int v1, .int (0 : Int32), .null] [] S (u2 (u2 I 84 42 (0 : Int32)) 84 43 (0 : Int32)) L bc bs Q) : ZW G mX12_findRows fX12_findRows lX12_findRows 0 [zo G 84, .int v1, .null, .null] [] S I L bc bs Q := by
  refine zr_aload_n dX12_findRows_0 rfl rfl ?_
  refine zr_iconst (v := 0) dX12_findRows_1 (by decide) ?_
  refine zr_putI dX12_findRows_2 zf_X12_331 rfl (hS.has (a := 84) rfl rfl) rfl rfl ?_
  refine zr_aload_n dX12_findRows_5 rfl rfl ?_
  refine zr_iconst (v := 0) dX12_findRows_6 (by decide) ?_
  refine zr_putI dX12_findRows_7 zf_X12_334 rfl (hS.has (a := 84) rfl rfl) rfl rfl ?_
  refine zr_iconst (v := 0) dX12_findRows_10 (by decide) ?_
  refine zr_istore_n dX12_findRows_11 rfl (Nat.le_of_ble_eq_true rfl) rfl ?_
  exact k
set_option maxHeartbeats 2000000 in
theorem vX12_findRows_12 {G : Gp} {bc bs : Nat} {Q : zPost} {S : zSh} {I : zFI} {L : zFL} {v1 : Int32} {v2 : Int32} (hS : zStd S)  (k : (((I 84 13) ≤ v2 → ZW G mX12_findRows fX12_findRows lX12_findRows 106 [zo G 84, .int v1, .int (0 : Int32), .null] [] S I L bc bs Q) ∧ (¬ (I 84 13) ≤ v2 → (¬ v2 < 0 → ¬ (I 84 13) ≤ v2 → vp_in v2 48) ∧ (((p_X12_isJoint I v2) = 0 → ZW G mX12_findRows fX12_findRows lX12_findRows 12 [zo G 84, .int v1, .int (v2 + 1), .null] [] S I L bc bs Q) ∧ (¬ (p_X12_isJoint I v2) = 0 → ((¬ v1 = (1 : Int32) → vp_in v2 48 ∧ ((¬ (I 96 v2.toNatClampNeg) = 0 → vp_in (I 84 43) 48 ∧ ZW G mX12_findRows fX12_findRows lX12_findRows 12 [zo G 84, .int v1, .int (v2 + 1), .null] [] S (u2 (u2 I 109 (I 84 43).toNatClampNeg v2) 84 43 ((I 84 43) + (1 : Int32))) L bc bs Q) ∧ ((I 96 v2.toNatClampNeg) = 0 → vp_in (I 84 42) 48 ∧ ZW G mX12_findRows fX12_findRows lX12_findRows 12 [zo G 84, .int v1, .int (v2 + 1), .null] [] S (u2 (u2 I 108 (I 84 42).toNatClampNeg v2) 84 42 ((I 84 42) + (1 : Int32))) L bc bs Q))) ∧ (v1 = (1 : Int32) → vp_in v2 96 ∧ (((I 119 v2.toNatClampNeg) = (-1 : Int32) → vp_in v2 48 ∧ ((¬ (I 96 v2.toNatClampNeg) = 0 → vp_in (I 84 43) 48 ∧ ZW G mX12_findRows fX12_findRows lX12_findRows 12 [zo G 84, .int v1, .int (v2 + 1), .null] [] S (u2 (u2 I 109 (I 84 43).toNatClampNeg v2) 84 43 ((I 84 43) + (1 : Int32))) L bc bs Q) ∧ ((I 96 v2.toNatClampNeg) = 0 → vp_in (I 84 42) 48 ∧ ZW G mX12_findRows fX12_findRows lX12_findRows 12 [zo G 84, .int v1, .int (v2 + 1), .null] [] S (u2 (u2 I 108 (I 84 42).toNatClampNeg v2) 84 42 ((I 84 42) + (1 : Int32))) L bc bs Q))) ∧ (¬ (I 119 v2.toNatClampNeg) = (-1 : Int32) → ZW G mX12_findRows fX12_findRows lX12_findRows 12 [zo G 84, .int v1, .int (v2 + 1), .null] [] S I L bc bs Q))))))))) : ZW G mX12_findRows fX12_findRows lX12_findRows 12 [zo G 84, .int v1, .int v2, .null] [] S I L bc bs Q := by
  refine zr_iload_n dX12_findRows_12 rfl rfl ?_
  refine zr_aload_n dX12_findRows_13 rfl rfl ?_
  refine zr_getIv (x := (I 84 13)) dX12_findRows_14 zf_X12_198 rfl (hS.has (a := 84) rfl rfl) rfl ?_
  refine zr_icge (tgt := 104) dX12_findRows_17 (by decide) (fun hb => ?_) (fun hb => ?_)
  · have k := k.1 hb
    refine zr_iconst (v := 0) dX12_findRows_104 (by decide) ?_
    refine zr_istore_n dX12_findRows_105 rfl (Nat.le_of_ble_eq_true rfl) rfl ?_
    exact k
  · have k := k.2 hb
    refine zr_aload_n dX12_findRows_20 rfl rfl ?_
    refine zr_iload_n dX12_findRows_21 rfl rfl ?_
    refine zr_callV (As := [.int v2]) (fr' := fX12_isJoint) (lo' := lX12_isJoint) (bc' := 0) (bs' := 0) (bcr := bc) (bsr := bs) dX12_findRows_22 zs_X12_286 zi_X12_isJoint zcl_12 (hS.has (a := 84) rfl rfl) rfl rfl (Nat.le_of_ble_eq_true rfl) (Nat.le_of_ble_eq_true rfl) (Nat.le_of_ble_eq_true rfl) (Nat.le_refl _) (Nat.le_refl _) ?_
    obtain ⟨hq0, k⟩ := k
    refine sp_X12_isJoint hS hq0 ?_
    show ZW G mX12_findRows fX12_findRows lX12_findRows 25 [zo G 84, .int v1, .int v2, .null] [.int (p_X12_isJoint I v2)] S I L bc bs Q
    refine zr_ifeq (tgt := 98) dX12_findRows_25 (by decide) (fun hb => ?_) (fun hb => ?_)
    · have k := k.1 hb
      refine zr_iinc (v := (v2 + 1)) dX12_findRows_98 rfl rfl (Nat.le_of_ble_eq_true rfl) rfl ?_
      refine zr_goto (tgt := 12) dX12_findRows_101 (by decide) ?_
      exact k
    · have k := k.2 hb
      refine zr_iload_n dX12_findRows_28 rfl rfl ?_
      refine zr_iconst (v := 1) dX12_findRows_29 (by decide) ?_
      refine zr_icne (tgt := 46) dX12_findRows_30 (by decide) (fun hb => ?_) (fun hb => ?_)
      · have k := k.1 hb
        refine zr_aload_n dX12_findRows_46 rfl rfl ?_
        refine zr_getR dX12_findRows_47 zf_X12_48 rfl (hS.has (a := 84) rfl rfl) (hS.ref (a := 96) rfl) ?_
        refine zr_iload_n dX12_findRows_50 rfl rfl ?_
        obtain ⟨hi1, k⟩ := k
        refine zr_ialdv (x := (I 96 v2.toNatClampNeg)) dX12_findRows_51 (hS.has (a := 96) rfl rfl) hi1 rfl ?_
        refine zr_ifne (tgt := 78) dX12_findRows_52 (by decide) (fun hb => ?_) (fun hb => ?_)
        · have k := k.1 hb
          refine zr_aload_n dX12_findRows_78 rfl rfl ?_
          refine zr_getR dX12_findRows_79 zf_X12_90 rfl (hS.has (a := 84) rfl rfl) (hS.ref (a := 109) rfl) ?_
          refine zr_aload_n dX12_findRows_82 rfl rfl ?_
          refine zr_getIv (x := (I 84 43)) dX12_findRows_83 zf_X12_334 rfl (hS.has (a := 84) rfl rfl) rfl ?_
          refine zr_iload_n dX12_findRows_86 rfl rfl ?_
          obtain ⟨hi2, k⟩ := k
          refine zr_iast dX12_findRows_87 (hS.has (a := 109) rfl rfl) hi2 ?_
          refine zr_aload_n dX12_findRows_88 rfl rfl ?_
          refine zr_aload_n dX12_findRows_89 rfl rfl ?_
          refine zr_getIv (x := (I 84 43)) dX12_findRows_90 zf_X12_334 rfl (hS.has (a := 84) rfl rfl) rfl ?_
          refine zr_iconst (v := 1) dX12_findRows_93 (by decide) ?_
          refine zr_iadd dX12_findRows_94 ?_
          refine zr_putI dX12_findRows_95 zf_X12_334 rfl (hS.has (a := 84) rfl rfl) rfl rfl ?_
          refine zr_iinc (v := (v2 + 1)) dX12_findRows_98 rfl rfl (Nat.le_of_ble_eq_true rfl) rfl ?_
          refine zr_goto (tgt := 12) dX12_findRows_101 (by decide) ?_
          exact k
        · have k := k.2 hb
          refine zr_aload_n dX12_findRows_55 rfl rfl ?_
          refine zr_getR dX12_findRows_56 zf_X12_87 rfl (hS.has (a := 84) rfl rfl) (hS.ref (a := 108) rfl) ?_
          refine zr_aload_n dX12_findRows_59 rfl rfl ?_
          refine zr_getIv (x := (I 84 42)) dX12_findRows_60 zf_X12_331 rfl (hS.has (a := 84) rfl rfl) rfl ?_
          refine zr_iload_n dX12_findRows_63 rfl rfl ?_
          obtain ⟨hi3, k⟩ := k
          refine zr_iast dX12_findRows_64 (hS.has (a := 108) rfl rfl) hi3 ?_
          refine zr_aload_n dX12_findRows_65 rfl rfl ?_
          refine zr_aload_n dX12_findRows_66 rfl rfl ?_
          refine zr_getIv (x := (I 84 42)) dX12_findRows_67 zf_X12_331 rfl (hS.has (a := 84) rfl rfl) rfl ?_
          refine zr_iconst (v := 1) dX12_findRows_70 (by decide) ?_
          refine zr_iadd dX12_findRows_71 ?_
          refine zr_putI dX12_findRows_72 zf_X12_331 rfl (hS.has (a := 84) rfl rfl) rfl rfl ?_
          refine zr_goto (tgt := 98) dX12_findRows_75 (by decide) ?_
          refine zr_iinc (v := (v2 + 1)) dX12_findRows_98 rfl rfl (Nat.le_of_ble_eq_true rfl) rfl ?_
          refine zr_goto (tgt := 12) dX12_findRows_101 (by decide) ?_
          exact k
      · have k := k.2 hb
        refine zr_aload_n dX12_findRows_33 rfl rfl ?_
        refine zr_getR dX12_findRows_34 zf_X12_126 rfl (hS.has (a := 84) rfl rfl) (hS.ref (a := 119) rfl) ?_
        refine zr_iload_n dX12_findRows_37 rfl rfl ?_
        obtain ⟨hi4, k⟩ := k
        refine zr_ialdv (x := (I 119 v2.toNatClampNeg)) dX12_findRows_38 (hS.has (a := 119) rfl rfl) hi4 rfl ?_
        refine zr_iconst (v := -1) dX12_findRows_39 (by decide) ?_
        refine zr_iceq (tgt := 46) dX12_findRows_40 (by decide) (fun hb => ?_) (fun hb => ?_)
        · have k := k.1 hb
          refine zr_aload_n dX12_findRows_46 rfl rfl ?_
          refine zr_getR dX12_findRows_47 zf_X12_48 rfl (hS.has (a := 84) rfl rfl) (hS.ref (a := 96) rfl) ?_
          refine zr_iload_n dX12_findRows_50 rfl rfl ?_
          obtain ⟨hi5, k⟩ := k
          refine zr_ialdv (x := (I 96 v2.toNatClampNeg)) dX12_findRows_51 (hS.has (a := 96) rfl rfl) hi5 rfl ?_
          refine zr_ifne (tgt := 78) dX12_findRows_52 (by decide) (fun hb => ?_) (fun hb => ?_)
          · have k := k.1 hb
            refine zr_aload_n dX12_findRows_78 rfl rfl ?_
            refine zr_getR dX12_findRows_79 zf_X12_90 rfl (hS.has (a := 84) rfl rfl) (hS.ref (a := 109) rfl) ?_
            refine zr_aload_n dX12_findRows_82 rfl rfl ?_
            refine zr_getIv (x := (I 84 43)) dX12_findRows_83 zf_X12_334 rfl (hS.has (a := 84) rfl rfl) rfl ?_
            refine zr_iload_n dX12_findRows_86 rfl rfl ?_
            obtain ⟨hi6, k⟩ := k
            refine zr_iast dX12_findRows_87 (hS.has (a := 109) rfl rfl) hi6 ?_
            refine zr_aload_n dX12_findRows_88 rfl rfl ?_
            refine zr_aload_n dX12_findRows_89 rfl rfl ?_
            refine zr_getIv (x := (I 84 43)) dX12_findRows_90 zf_X12_334 rfl (hS.has (a := 84) rfl rfl) rfl ?_
            refine zr_iconst (v := 1) dX12_findRows_93 (by decide) ?_
            refine zr_iadd dX12_findRows_94 ?_
            refine zr_putI dX12_findRows_95 zf_X12_334 rfl (hS.has (a := 84) rfl rfl) rfl rfl ?_
            refine zr_iinc (v := (v2 + 1)) dX12_findRows_98 rfl rfl (Nat.le_of_ble_eq_true rfl) rfl ?_
            refine zr_goto (tgt := 12) dX12_findRows_101 (by decide) ?_
            exact k
          · have k := k.2 hb
            refine zr_aload_n dX12_findRows_55 rfl rfl ?_
            refine zr_getR dX12_findRows_56 zf_X12_87 rfl (hS.has (a := 84) rfl rfl) (hS.ref (a := 108) rfl) ?_
            refine zr_aload_n dX12_findRows_59 rfl rfl ?_
            refine zr_getIv (x := (I 84 42)) dX12_findRows_60 zf_X12_331 rfl (hS.has (a := 84) rfl rfl) rfl ?_
            refine zr_iload_n dX12_findRows_63 rfl rfl ?_
            obtain ⟨hi7, k⟩ := k
            refine zr_iast dX12_findRows_64 (hS.has (a := 108) rfl rfl) hi7 ?_
            refine zr_aload_n dX12_findRows_65 rfl rfl ?_
            refine zr_aload_n dX12_findRows_66 rfl rfl ?_
            refine zr_getIv (x := (I 84 42)) dX12_findRows_67 zf_X12_331 rfl (hS.has (a := 84) rfl rfl) rfl ?_
            refine zr_iconst (v := 1) dX12_findRows_70 (by decide) ?_
            refine zr_iadd dX12_findRows_71 ?_
            refine zr_putI dX12_findRows_72 zf_X12_331 rfl (hS.has (a := 84) rfl rfl) rfl rfl ?_
            refine zr_goto (tgt := 98) dX12_findRows_75 (by decide) ?_
            refine zr_iinc (v := (v2 + 1)) dX12_findRows_98 rfl rfl (Nat.le_of_ble_eq_true rfl) rfl ?_
            refine zr_goto (tgt := 12) dX12_findRows_101 (by decide) ?_
            exact k
        · have k := k.2 hb
          refine zr_goto (tgt := 98) dX12_findRows_43 (by decide) ?_
          refine zr_iinc (v := (v2 + 1)) dX12_findRows_98 rfl rfl (Nat.le_of_ble_eq_true rfl) rfl ?_
          refine zr_goto (tgt := 12) dX12_findRows_101 (by decide) ?_
          exact k
set_option maxHeartbeats 2000000 in
theorem vX12_findRows_106 {G : Gp} {bc bs : Nat} {Q : zPost} {S : zSh} {I : zFI} {L : zFL} {v1 : Int32} {v2 : Int32} (hS : zStd S)  (k : (((I 84 42) ≤ v2 → ZW G mX12_findRows fX12_findRows lX12_findRows 210 [zo G 84, .int v1, .int (0 : Int32), .null] [] S I L bc bs Q) ∧ (¬ (I 84 42) ≤ v2 → vp_in v2 48 ∧ ZW G mX12_findRows fX12_findRows lX12_findRows 130 [zo G 84, .int v1, .int v2, .int (0 : Int32)] [] S (u2 (u2 I 111 v2.toNatClampNeg (-1 : Int32)) 114 v2.toNatClampNeg (0 : Int32)) L bc bs Q))) : ZW G mX12_findRows fX12_findRows lX12_findRows 106 [zo G 84, .int v1, .int v2, .null] [] S I L bc bs Q := by
  refine zr_iload_n dX12_findRows_106 rfl rfl ?_
  refine zr_aload_n dX12_findRows_107 rfl rfl ?_
  refine zr_getIv (x := (I 84 42)) dX12_findRows_108 zf_X12_331 rfl (hS.has (a := 84) rfl rfl) rfl ?_
  refine zr_icge (tgt := 208) dX12_findRows_111 (by decide) (fun hb => ?_) (fun hb => ?_)
  · have k := k.1 hb
    refine zr_iconst (v := 0) dX12_findRows_208 (by decide) ?_
    refine zr_istore_n dX12_findRows_209 rfl (Nat.le_of_ble_eq_true rfl) rfl ?_
    exact k
  · have k := k.2 hb
    refine zr_aload_n dX12_findRows_114 rfl rfl ?_
    refine zr_getR dX12_findRows_115 zf_X12_96 rfl (hS.has (a := 84) rfl rfl) (hS.ref (a := 111) rfl) ?_
    refine zr_iload_n dX12_findRows_118 rfl rfl ?_
    refine zr_iconst (v := -1) dX12_findRows_119 (by decide) ?_
    obtain ⟨hi8, k⟩ := k
    refine zr_iast dX12_findRows_120 (hS.has (a := 111) rfl rfl) hi8 ?_
    refine zr_aload_n dX12_findRows_121 rfl rfl ?_
    refine zr_getR dX12_findRows_122 zf_X12_105 rfl (hS.has (a := 84) rfl rfl) (hS.ref (a := 114) rfl) ?_
    refine zr_iload_n dX12_findRows_125 rfl rfl ?_
    refine zr_iconst (v := 0) dX12_findRows_126 (by decide) ?_
    refine zr_zast dX12_findRows_127 (hS.has (a := 114) rfl rfl) hi8 rfl ?_
    refine zr_iconst (v := 0) dX12_findRows_128 (by decide) ?_
    refine zr_istore_n dX12_findRows_129 rfl (Nat.le_of_ble_eq_true rfl) rfl ?_
    exact k
set_option maxHeartbeats 2000000 in
theorem vX12_findRows_130 {G : Gp} {bc bs : Nat} {Q : zPost} {S : zSh} {I : zFI} {L : zFL} {v1 : Int32} {v2 : Int32} {v3 : Int32} (hS : zStd S)  (k : (((I 84 43) ≤ v3 → ZW G mX12_findRows fX12_findRows lX12_findRows 106 [zo G 84, .int v1, .int (v2 + 1), .null] [] S I L bc bs Q) ∧ (¬ (I 84 43) ≤ v3 → vp_in v2 48 ∧ vp_in v3 48 ∧ ZC G mX12_isFit fX12_isFit lX12_isFit [zo G 84, .int v1, .int (I 108 v2.toNatClampNeg), .int (I 109 v3.toNatClampNeg)] S I L 0 0 (fun w S' I1 L1 => ∃ r1 : Int32, w = some (.int r1) ∧ S = S' ∧ ((r1 = 0 → vp_in (((48 : Int32) * v2) + v3) 2304 ∧ ZW G mX12_findRows fX12_findRows lX12_findRows 130 [zo G 84, .int v1, .int v2, .int (v3 + 1)] [] S (u2 I1 110 (((48 : Int32) * v2) + v3).toNatClampNeg (-1 : Int32)) L1 bc bs Q) ∧ (¬ r1 = 0 → vp_in (I1 109 v3.toNatClampNeg) 48 ∧ vp_in (I1 108 v2.toNatClampNeg) 48 ∧ vp_in (((48 : Int32) * v2) + v3) 2304 ∧ ZW G mX12_findRows fX12_findRows lX12_findRows 130 [zo G 84, .int v1, .int v2, .int (v3 + 1)] [] S (u2 I1 110 (((48 : Int32) * v2) + v3).toNatClampNeg ((I1 97 (I1 109 v3.toNatClampNeg).toNatClampNeg) - (I1 97 (I1 108 v2.toNatClampNeg).toNatClampNeg))) L1 bc bs Q)))))) : ZW G mX12_findRows fX12_findRows lX12_findRows 130 [zo G 84, .int v1, .int v2, .int v3] [] S I L bc bs Q := by
  refine zr_iload_n dX12_findRows_130 rfl rfl ?_
  refine zr_aload_n dX12_findRows_131 rfl rfl ?_
  refine zr_getIv (x := (I 84 43)) dX12_findRows_132 zf_X12_334 rfl (hS.has (a := 84) rfl rfl) rfl ?_
  refine zr_icge (tgt := 202) dX12_findRows_135 (by decide) (fun hb => ?_) (fun hb => ?_)
  · have k := k.1 hb
    refine zr_iinc (v := (v2 + 1)) dX12_findRows_202 rfl rfl (Nat.le_of_ble_eq_true rfl) rfl ?_
    refine zr_goto (tgt := 106) dX12_findRows_205 (by decide) ?_
    exact zr_mask [true, true, true, false] rfl k
  · have k := k.2 hb
    refine zr_aload_n dX12_findRows_138 rfl rfl ?_
    refine zr_getR dX12_findRows_139 zf_X12_93 rfl (hS.has (a := 84) rfl rfl) (hS.ref (a := 110) rfl) ?_
    refine zr_bipush (v := 48) dX12_findRows_142 (by decide) ?_
    refine zr_iload_n dX12_findRows_144 rfl rfl ?_
    refine zr_imul dX12_findRows_145 ?_
    refine zr_iload_n dX12_findRows_146 rfl rfl ?_
    refine zr_iadd dX12_findRows_147 ?_
    refine zr_aload_n dX12_findRows_148 rfl rfl ?_
    refine zr_iload_n dX12_findRows_149 rfl rfl ?_
    refine zr_aload_n dX12_findRows_150 rfl rfl ?_
    refine zr_getR dX12_findRows_151 zf_X12_87 rfl (hS.has (a := 84) rfl rfl) (hS.ref (a := 108) rfl) ?_
    refine zr_iload_n dX12_findRows_154 rfl rfl ?_
    obtain ⟨hi9, k⟩ := k
    refine zr_ialdv (x := (I 108 v2.toNatClampNeg)) dX12_findRows_155 (hS.has (a := 108) rfl rfl) hi9 rfl ?_
    refine zr_aload_n dX12_findRows_156 rfl rfl ?_
    refine zr_getR dX12_findRows_157 zf_X12_90 rfl (hS.has (a := 84) rfl rfl) (hS.ref (a := 109) rfl) ?_
    refine zr_iload_n dX12_findRows_160 rfl rfl ?_
    obtain ⟨hi10, k⟩ := k
    refine zr_ialdv (x := (I 109 v3.toNatClampNeg)) dX12_findRows_161 (hS.has (a := 109) rfl rfl) hi10 rfl ?_
    refine zr_callV (As := [.int v1, .int (I 108 v2.toNatClampNeg), .int (I 109 v3.toNatClampNeg)]) (fr' := fX12_isFit) (lo' := lX12_isFit) (bc' := 0) (bs' := 0) (bcr := bc) (bsr := bs) dX12_findRows_162 zs_X12_328 zi_X12_isFit zcl_12 (hS.has (a := 84) rfl rfl) rfl rfl (Nat.le_of_ble_eq_true rfl) (Nat.le_of_ble_eq_true rfl) (Nat.le_of_ble_eq_true rfl) (Nat.le_refl _) (Nat.le_refl _) ?_
    refine ZC.mono (fun w S' I1 L1 k => ?_) k
    obtain ⟨r1, rfl, rfl, k⟩ := k
    show ZW G mX12_findRows fX12_findRows lX12_findRows 165 [zo G 84, .int v1, .int v2, .int v3] [.int r1, .int (((48 : Int32) * v2) + v3), zo G 110] S I1 L1 bc bs Q
    refine zr_ifeq (tgt := 194) dX12_findRows_165 (by decide) (fun hb => ?_) (fun hb => ?_)
    · have k := k.1 hb
      refine zr_iconst (v := -1) dX12_findRows_194 (by decide) ?_
      obtain ⟨hi11, k⟩ := k
      refine zr_iast dX12_findRows_195 (hS.has (a := 110) rfl rfl) hi11 ?_
      refine zr_iinc (v := (v3 + 1)) dX12_findRows_196 rfl rfl (Nat.le_of_ble_eq_true rfl) rfl ?_
      refine zr_goto (tgt := 130) dX12_findRows_199 (by decide) ?_
      exact k
    · have k := k.2 hb
      refine zr_aload_n dX12_findRows_168 rfl rfl ?_
      refine zr_getR dX12_findRows_169 zf_X12_51 rfl (hS.has (a := 84) rfl rfl) (hS.ref (a := 97) rfl) ?_
      refine zr_aload_n dX12_findRows_172 rfl rfl ?_
      refine zr_getR dX12_findRows_173 zf_X12_90 rfl (hS.has (a := 84) rfl rfl) (hS.ref (a := 109) rfl) ?_
      refine zr_iload_n dX12_findRows_176 rfl rfl ?_
      refine zr_ialdv (x := (I1 109 v3.toNatClampNeg)) dX12_findRows_177 (hS.has (a := 109) rfl rfl) hi10 rfl ?_
      obtain ⟨hi12, k⟩ := k
      refine zr_ialdv (x := (I1 97 (I1 109 v3.toNatClampNeg).toNatClampNeg)) dX12_findRows_178 (hS.has (a := 97) rfl rfl) hi12 rfl ?_
      refine zr_aload_n dX12_findRows_179 rfl rfl ?_
      refine zr_getR dX12_findRows_180 zf_X12_51 rfl (hS.has (a := 84) rfl rfl) (hS.ref (a := 97) rfl) ?_
      refine zr_aload_n dX12_findRows_183 rfl rfl ?_
      refine zr_getR dX12_findRows_184 zf_X12_87 rfl (hS.has (a := 84) rfl rfl) (hS.ref (a := 108) rfl) ?_
      refine zr_iload_n dX12_findRows_187 rfl rfl ?_
      refine zr_ialdv (x := (I1 108 v2.toNatClampNeg)) dX12_findRows_188 (hS.has (a := 108) rfl rfl) hi9 rfl ?_
      obtain ⟨hi13, k⟩ := k
      refine zr_ialdv (x := (I1 97 (I1 108 v2.toNatClampNeg).toNatClampNeg)) dX12_findRows_189 (hS.has (a := 97) rfl rfl) hi13 rfl ?_
      refine zr_isub dX12_findRows_190 ?_
      refine zr_goto (tgt := 195) dX12_findRows_191 (by decide) ?_
      obtain ⟨hi14, k⟩ := k
      refine zr_iast dX12_findRows_195 (hS.has (a := 110) rfl rfl) hi14 ?_
      refine zr_iinc (v := (v3 + 1)) dX12_findRows_196 rfl rfl (Nat.le_of_ble_eq_true rfl) rfl ?_
      refine zr_goto (tgt := 130) dX12_findRows_199 (by decide) ?_
      exact k
set_option maxHeartbeats 2000000 in
theorem vX12_findRows_210 {G : Gp} {bc bs : Nat} {Q : zPost} {S : zSh} {I : zFI} {L : zFL} {v1 : Int32} {v2 : Int32} (hS : zStd S)  (k : (((I 84 43) ≤ v2 → Q none S (u2 (u2 (u2 (u2 I 84 50 (0 : Int32)) 84 51 (0 : Int32)) 84 52 (-1 : Int32)) 84 53 (-1 : Int32)) L) ∧ (¬ (I 84 43) ≤ v2 → vp_in v2 48 ∧ ZW G mX12_findRows fX12_findRows lX12_findRows 210 [zo G 84, .int v1, .int (v2 + 1), .null] [] S (u2 (u2 I 112 v2.toNatClampNeg (-1 : Int32)) 115 v2.toNatClampNeg (0 : Int32)) L bc bs Q))) : ZW G mX12_findRows fX12_findRows lX12_findRows 210 [zo G 84, .int v1, .int v2, .null] [] S I L bc bs Q := by
  refine zr_iload_n dX12_findRows_210 rfl rfl ?_
  refine zr_aload_n dX12_findRows_211 rfl rfl ?_
  refine zr_getIv (x := (I 84 43)) dX12_findRows_212 zf_X12_334 rfl (hS.has (a := 84) rfl rfl) rfl ?_
  refine zr_icge (tgt := 238) dX12_findRows_215 (by decide) (fun hb => ?_) (fun hb => ?_)
  · have k := k.1 hb
    refine zr_aload_n dX12_findRows_238 rfl rfl ?_
    refine zr_iconst (v := 0) dX12_findRows_239 (by decide) ?_
    refine zr_putI dX12_findRows_240 zf_X12_337 rfl (hS.has (a := 84) rfl rfl) rfl rfl ?_
    refine zr_aload_n dX12_findRows_243 rfl rfl ?_
    refine zr_iconst (v := 0) dX12_findRows_244 (by decide) ?_
    refine zr_putI dX12_findRows_245 zf_X12_340 rfl (hS.has (a := 84) rfl rfl) rfl rfl ?_
    refine zr_aload_n dX12_findRows_248 rfl rfl ?_
    refine zr_iconst (v := -1) dX12_findRows_249 (by decide) ?_
    refine zr_putI dX12_findRows_250 zf_X12_111 rfl (hS.has (a := 84) rfl rfl) rfl rfl ?_
    refine zr_aload_n dX12_findRows_253 rfl rfl ?_
    refine zr_iconst (v := -1) dX12_findRows_254 (by decide) ?_
    refine zr_putI dX12_findRows_255 zf_X12_114 rfl (hS.has (a := 84) rfl rfl) rfl rfl ?_
    exact zr_return_ dX12_findRows_258 rfl k
  · have k := k.2 hb
    refine zr_aload_n dX12_findRows_218 rfl rfl ?_
    refine zr_getR dX12_findRows_219 zf_X12_99 rfl (hS.has (a := 84) rfl rfl) (hS.ref (a := 112) rfl) ?_
    refine zr_iload_n dX12_findRows_222 rfl rfl ?_
    refine zr_iconst (v := -1) dX12_findRows_223 (by decide) ?_
    obtain ⟨hi15, k⟩ := k
    refine zr_iast dX12_findRows_224 (hS.has (a := 112) rfl rfl) hi15 ?_
    refine zr_aload_n dX12_findRows_225 rfl rfl ?_
    refine zr_getR dX12_findRows_226 zf_X12_108 rfl (hS.has (a := 84) rfl rfl) (hS.ref (a := 115) rfl) ?_
    refine zr_iload_n dX12_findRows_229 rfl rfl ?_
    refine zr_iconst (v := 0) dX12_findRows_230 (by decide) ?_
    refine zr_zast dX12_findRows_231 (hS.has (a := 115) rfl rfl) hi15 rfl ?_
    refine zr_iinc (v := (v2 + 1)) dX12_findRows_232 rfl rfl (Nat.le_of_ble_eq_true rfl) rfl ?_
    refine zr_goto (tgt := 210) dX12_findRows_235 (by decide) ?_
    exact k
set_option maxHeartbeats 2000000 in
theorem vX12_findFars_0 {G : Gp} {bc bs : Nat} {Q : zPost} {S : zSh} {I : zFI} {L : zFL}  (hS : zStd S)  (k : ZW G mX12_findFars fX12_findFars lX12_findFars 2 [zo G 84, .int (0 : Int32), .null, .null, .null, .null] [] S I L bc bs Q) : ZW G mX12_findFars fX12_findFars lX12_findFars 0 [zo G 84, .null, .null, .null, .null, .null] [] S I L bc bs Q := by
  refine zr_iconst (v := 0) dX12_findFars_0 (by decide) ?_
  refine zr_istore_n dX12_findFars_1 rfl (Nat.le_of_ble_eq_true rfl) rfl ?_
  exact k
set_option maxHeartbeats 2000000 in
theorem vX12_findFars_2 {G : Gp} {bc bs : Nat} {Q : zPost} {S : zSh} {I : zFI} {L : zFL} {v1 : Int32} (hS : zStd S)  (k : (((I 84 42) ≤ v1 → ZW G mX12_findFars fX12_findFars lX12_findFars 50 [zo G 84, .int (0 : Int32), .null, .null, .null, .null] [] S I L bc bs Q) ∧ (¬ (I 84 42) ≤ v1 → vp_in v1 48 ∧ ((¬ (I 114 v1.toNatClampNeg) = 0 → ZW G mX12_findFars fX12_findFars lX12_findFars 2 [zo G 84, .int (v1 + 1), .null, .null, .null, .null] [] S (u2 I 116 v1.toNatClampNeg (1000000 : Int32)) L bc bs Q) ∧ ((I 114 v1.toNatClampNeg) = 0 → ((¬ (I 111 v1.toNatClampNeg) = (-1 : Int32) → ZW G mX12_findFars fX12_findFars lX12_findFars 2 [zo G 84, .int (v1 + 1), .null, .null, .null, .null] [] S (u2 I 116 v1.toNatClampNeg (1000000 : Int32)) L bc bs Q) ∧ ((I 111 v1.toNatClampNeg) = (-1 : Int32) → ZW G mX12_findFars fX12_findFars lX12_findFars 2 [zo G 84, .int (v1 + 1), .null, .null, .null, .null] [] S (u2 I 116 v1.toNatClampNeg (0 : Int32)) L bc bs Q))))))) : ZW G mX12_findFars fX12_findFars lX12_findFars 2 [zo G 84, .int v1, .null, .null, .null, .null] [] S I L bc bs Q := by
  refine zr_iload_n dX12_findFars_2 rfl rfl ?_
  refine zr_aload_n dX12_findFars_3 rfl rfl ?_
  refine zr_getIv (x := (I 84 42)) dX12_findFars_4 zf_X12_331 rfl (hS.has (a := 84) rfl rfl) rfl ?_
  refine zr_icge (tgt := 48) dX12_findFars_7 (by decide) (fun hb => ?_) (fun hb => ?_)
  · have k := k.1 hb
    refine zr_iconst (v := 0) dX12_findFars_48 (by decide) ?_
    refine zr_istore_n dX12_findFars_49 rfl (Nat.le_of_ble_eq_true rfl) rfl ?_
    exact k
  · have k := k.2 hb
    refine zr_aload_n dX12_findFars_10 rfl rfl ?_
    refine zr_getR dX12_findFars_11 zf_X12_117 rfl (hS.has (a := 84) rfl rfl) (hS.ref (a := 116) rfl) ?_
    refine zr_iload_n dX12_findFars_14 rfl rfl ?_
    refine zr_aload_n dX12_findFars_15 rfl rfl ?_
    refine zr_getR dX12_findFars_16 zf_X12_105 rfl (hS.has (a := 84) rfl rfl) (hS.ref (a := 114) rfl) ?_
    refine zr_iload_n dX12_findFars_19 rfl rfl ?_
    obtain ⟨hi1, k⟩ := k
    refine zr_zaldv (x := (I 114 v1.toNatClampNeg)) dX12_findFars_20 (hS.has (a := 114) rfl rfl) hi1 rfl ?_
    refine zr_ifne (tgt := 38) dX12_findFars_21 (by decide) (fun hb => ?_) (fun hb => ?_)
    · have k := k.1 hb
      refine zr_ldc_w dX12_findFars_38 zk_X12_343 ?_
      refine zr_iast dX12_findFars_41 (hS.has (a := 116) rfl rfl) hi1 ?_
      refine zr_iinc (v := (v1 + 1)) dX12_findFars_42 rfl rfl (Nat.le_of_ble_eq_true rfl) rfl ?_
      refine zr_goto (tgt := 2) dX12_findFars_45 (by decide) ?_
      exact k
    · have k := k.2 hb
      refine zr_aload_n dX12_findFars_24 rfl rfl ?_
      refine zr_getR dX12_findFars_25 zf_X12_96 rfl (hS.has (a := 84) rfl rfl) (hS.ref (a := 111) rfl) ?_
      refine zr_iload_n dX12_findFars_28 rfl rfl ?_
      refine zr_ialdv (x := (I 111 v1.toNatClampNeg)) dX12_findFars_29 (hS.has (a := 111) rfl rfl) hi1 rfl ?_
      refine zr_iconst (v := -1) dX12_findFars_30 (by decide) ?_
      refine zr_icne (tgt := 38) dX12_findFars_31 (by decide) (fun hb => ?_) (fun hb => ?_)
      · have k := k.1 hb
        refine zr_ldc_w dX12_findFars_38 zk_X12_343 ?_
        refine zr_iast dX12_findFars_41 (hS.has (a := 116) rfl rfl) hi1 ?_
        refine zr_iinc (v := (v1 + 1)) dX12_findFars_42 rfl rfl (Nat.le_of_ble_eq_true rfl) rfl ?_
        refine zr_goto (tgt := 2) dX12_findFars_45 (by decide) ?_
        exact k
      · have k := k.2 hb
        refine zr_iconst (v := 0) dX12_findFars_34 (by decide) ?_
        refine zr_goto (tgt := 41) dX12_findFars_35 (by decide) ?_
        refine zr_iast dX12_findFars_41 (hS.has (a := 116) rfl rfl) hi1 ?_
        refine zr_iinc (v := (v1 + 1)) dX12_findFars_42 rfl rfl (Nat.le_of_ble_eq_true rfl) rfl ?_
        refine zr_goto (tgt := 2) dX12_findFars_45 (by decide) ?_
        exact k
set_option maxHeartbeats 2000000 in
theorem vX12_findFars_50 {G : Gp} {bc bs : Nat} {Q : zPost} {S : zSh} {I : zFI} {L : zFL} {v1 : Int32} (hS : zStd S)  (k : (((I 84 43) ≤ v1 → ZW G mX12_findFars fX12_findFars lX12_findFars 75 [zo G 84, .int (1 : Int32), .null, .null, .null, .null] [] S I L bc bs Q) ∧ (¬ (I 84 43) ≤ v1 → vp_in v1 48 ∧ ZW G mX12_findFars fX12_findFars lX12_findFars 50 [zo G 84, .int (v1 + 1), .null, .null, .null, .null] [] S (u2 I 117 v1.toNatClampNeg (1000000 : Int32)) L bc bs Q))) : ZW G mX12_findFars fX12_findFars lX12_findFars 50 [zo G 84, .int v1, .null, .null, .null, .null] [] S I L bc bs Q := by
  refine zr_iload_n dX12_findFars_50 rfl rfl ?_
  refine zr_aload_n dX12_findFars_51 rfl rfl ?_
  refine zr_getIv (x := (I 84 43)) dX12_findFars_52 zf_X12_334 rfl (hS.has (a := 84) rfl rfl) rfl ?_
  refine zr_icge (tgt := 73) dX12_findFars_55 (by decide) (fun hb => ?_) (fun hb => ?_)
  · have k := k.1 hb
    refine zr_iconst (v := 1) dX12_findFars_73 (by decide) ?_
    refine zr_istore_n dX12_findFars_74 rfl (Nat.le_of_ble_eq_true rfl) rfl ?_
    exact k
  · have k := k.2 hb
    refine zr_aload_n dX12_findFars_58 rfl rfl ?_
    refine zr_getR dX12_findFars_59 zf_X12_120 rfl (hS.has (a := 84) rfl rfl) (hS.ref (a := 117) rfl) ?_
    refine zr_iload_n dX12_findFars_62 rfl rfl ?_
    refine zr_ldc_w dX12_findFars_63 zk_X12_343 ?_
    obtain ⟨hi2, k⟩ := k
    refine zr_iast dX12_findFars_66 (hS.has (a := 117) rfl rfl) hi2 ?_
    refine zr_iinc (v := (v1 + 1)) dX12_findFars_67 rfl rfl (Nat.le_of_ble_eq_true rfl) rfl ?_
    refine zr_goto (tgt := 50) dX12_findFars_70 (by decide) ?_
    exact k
set_option maxHeartbeats 2000000 in
theorem vX12_findFars_75 {G : Gp} {bc bs : Nat} {Q : zPost} {S : zSh} {I : zFI} {L : zFL} {v1 : Int32} (hS : zStd S)  (k : ((v1 = 0 → Q none S I L) ∧ (¬ v1 = 0 → ZW G mX12_findFars fX12_findFars lX12_findFars 83 [zo G 84, .int (0 : Int32), .int (0 : Int32), .null, .null, .null] [] S I L bc bs Q))) : ZW G mX12_findFars fX12_findFars lX12_findFars 75 [zo G 84, .int v1, .null, .null, .null, .null] [] S I L bc bs Q := by
  refine zr_iload_n dX12_findFars_75 rfl rfl ?_
  refine zr_ifeq (tgt := 308) dX12_findFars_76 (by decide) (fun hb => ?_) (fun hb => ?_)
  · have k := k.1 hb
    exact zr_return_ dX12_findFars_308 rfl k
  · have k := k.2 hb
    refine zr_iconst (v := 0) dX12_findFars_79 (by decide) ?_
    refine zr_istore_n dX12_findFars_80 rfl (Nat.le_of_ble_eq_true rfl) rfl ?_
    refine zr_iconst (v := 0) dX12_findFars_81 (by decide) ?_
    refine zr_istore_n dX12_findFars_82 rfl (Nat.le_of_ble_eq_true rfl) rfl ?_
    exact k
set_option maxHeartbeats 2000000 in
theorem vX12_findFars_83 {G : Gp} {bc bs : Nat} {Q : zPost} {S : zSh} {I : zFI} {L : zFL} {v1 : Int32} {v2 : Int32} (hS : zStd S)  (k : (((I 84 42) ≤ v2 → ZW G mX12_findFars fX12_findFars lX12_findFars 75 [zo G 84, .int v1, .null, .null, .null, .null] [] S I L bc bs Q) ∧ (¬ (I 84 42) ≤ v2 → vp_in v2 48 ∧ ((¬ (I 114 v2.toNatClampNeg) = 0 → ZW G mX12_findFars fX12_findFars lX12_findFars 83 [zo G 84, .int v1, .int (v2 + 1), .null, .null, .null] [] S I L bc bs Q) ∧ ((I 114 v2.toNatClampNeg) = 0 → ((¬ (I 116 v2.toNatClampNeg) = (1000000 : Int32) → ZW G mX12_findFars fX12_findFars lX12_findFars 117 [zo G 84, .int v1, .int v2, .int (0 : Int32), .null, .null] [] S I L bc bs Q) ∧ ((I 116 v2.toNatClampNeg) = (1000000 : Int32) → ZW G mX12_findFars fX12_findFars lX12_findFars 83 [zo G 84, .int v1, .int (v2 + 1), .null, .null, .null] [] S I L bc bs Q))))))) : ZW G mX12_findFars fX12_findFars lX12_findFars 83 [zo G 84, .int v1, .int v2, .null, .null, .null] [] S I L bc bs Q := by
  refine zr_iload_n dX12_findFars_83 rfl rfl ?_
  refine zr_aload_n dX12_findFars_84 rfl rfl ?_
  refine zr_getIv (x := (I 84 42)) dX12_findFars_85 zf_X12_331 rfl (hS.has (a := 84) rfl rfl) rfl ?_
  refine zr_icge (tgt := 305) dX12_findFars_88 (by decide) (fun hb => ?_) (fun hb => ?_)
  · have k := k.1 hb
    refine zr_goto (tgt := 75) dX12_findFars_305 (by decide) ?_
    exact zr_mask [true, true, false, false, false, false] rfl k
  · have k := k.2 hb
    refine zr_aload_n dX12_findFars_91 rfl rfl ?_
    refine zr_getR dX12_findFars_92 zf_X12_105 rfl (hS.has (a := 84) rfl rfl) (hS.ref (a := 114) rfl) ?_
    refine zr_iload_n dX12_findFars_95 rfl rfl ?_
    obtain ⟨hi3, k⟩ := k
    refine zr_zaldv (x := (I 114 v2.toNatClampNeg)) dX12_findFars_96 (hS.has (a := 114) rfl rfl) hi3 rfl ?_
    refine zr_ifne (tgt := 299) dX12_findFars_97 (by decide) (fun hb => ?_) (fun hb => ?_)
    · have k := k.1 hb
      refine zr_iinc (v := (v2 + 1)) dX12_findFars_299 rfl rfl (Nat.le_of_ble_eq_true rfl) rfl ?_
      refine zr_goto (tgt := 83) dX12_findFars_302 (by decide) ?_
      exact k
    · have k := k.2 hb
      refine zr_aload_n dX12_findFars_100 rfl rfl ?_
      refine zr_getR dX12_findFars_101 zf_X12_117 rfl (hS.has (a := 84) rfl rfl) (hS.ref (a := 116) rfl) ?_
      refine zr_iload_n dX12_findFars_104 rfl rfl ?_
      refine zr_ialdv (x := (I 116 v2.toNatClampNeg)) dX12_findFars_105 (hS.has (a := 116) rfl rfl) hi3 rfl ?_
      refine zr_ldc_w dX12_findFars_106 zk_X12_343 ?_
      refine zr_icne (tgt := 115) dX12_findFars_109 (by decide) (fun hb => ?_) (fun hb => ?_)
      · have k := k.1 hb
        refine zr_iconst (v := 0) dX12_findFars_115 (by decide) ?_
        refine zr_istore_n dX12_findFars_116 rfl (Nat.le_of_ble_eq_true rfl) rfl ?_
        exact k
      · have k := k.2 hb
        refine zr_goto (tgt := 299) dX12_findFars_112 (by decide) ?_
        refine zr_iinc (v := (v2 + 1)) dX12_findFars_299 rfl rfl (Nat.le_of_ble_eq_true rfl) rfl ?_
        refine zr_goto (tgt := 83) dX12_findFars_302 (by decide) ?_
        exact k
set_option maxHeartbeats 2000000 in
theorem vX12_findFars_117 {G : Gp} {bc bs : Nat} {Q : zPost} {S : zSh} {I : zFI} {L : zFL} {v1 : Int32} {v2 : Int32} {v3 : Int32} (hS : zStd S)  (k : (((I 84 43) ≤ v3 → ZW G mX12_findFars fX12_findFars lX12_findFars 83 [zo G 84, .int v1, .int (v2 + 1), .null, .null, .null] [] S I L bc bs Q) ∧ (¬ (I 84 43) ≤ v3 → vp_in (((48 : Int32) * v2) + v3) 2304 ∧ (((I 110 (((48 : Int32) * v2) + v3).toNatClampNeg) = (-1 : Int32) → ZW G mX12_findFars fX12_findFars lX12_findFars 117 [zo G 84, .int v1, .int v2, .int (v3 + 1), .null, .null] [] S I L bc bs Q) ∧ (¬ (I 110 (((48 : Int32) * v2) + v3).toNatClampNeg) = (-1 : Int32) → vp_in v3 48 ∧ ((¬ (I 115 v3.toNatClampNeg) = 0 → ZW G mX12_findFars fX12_findFars lX12_findFars 117 [zo G 84, .int v1, .int v2, .int (v3 + 1), .null, .null] [] S I L bc bs Q) ∧ ((I 115 v3.toNatClampNeg) = 0 → vp_in v2 48 ∧ (((I 111 v2.toNatClampNeg) = v3 → ZW G mX12_findFars fX12_findFars lX12_findFars 117 [zo G 84, .int v1, .int v2, .int (v3 + 1), .null, .null] [] S I L bc bs Q) ∧ (¬ (I 111 v2.toNatClampNeg) = v3 → ((¬ v2 = (I 84 52) → ((((I 116 v2.toNatClampNeg) + (I 110 (((48 : Int32) * v2) + v3).toNatClampNeg)) < (I 117 v3.toNatClampNeg) → (((I 112 v3.toNatClampNeg) = (-1 : Int32) → ZW G mX12_findFars fX12_findFars lX12_findFars 117 [zo G 84, .int (1 : Int32), .int v2, .int (v3 + 1), .null, .null] [] S (u2 (u2 I 117 v3.toNatClampNeg ((I 116 v2.toNatClampNeg) + (I 110 (((48 : Int32) * v2) + v3).toNatClampNeg))) 118 v3.toNatClampNeg v2) L bc bs Q) ∧ (¬ (I 112 v3.toNatClampNeg) = (-1 : Int32) → vp_in (((48 : Int32) * (I 112 v3.toNatClampNeg)) + v3) 2304 ∧ vp_in (I 112 v3.toNatClampNeg) 48 ∧ (((I 116 (I 112 v3.toNatClampNeg).toNatClampNeg) ≤ (((u2 I 117 v3.toNatClampNeg ((I 116 v2.toNatClampNeg) + (I 110 (((48 : Int32) * v2) + v3).toNatClampNeg))) 117 v3.toNatClampNeg) - (I 110 (((48 : Int32) * (I 112 v3.toNatClampNeg)) + v3).toNatClampNeg)) → ZW G mX12_findFars fX12_findFars lX12_findFars 117 [zo G 84, .int (1 : Int32), .int v2, .int (v3 + 1), .null, .null] [] S (u2 (u2 I 117 v3.toNatClampNeg ((I 116 v2.toNatClampNeg) + (I 110 (((48 : Int32) * v2) + v3).toNatClampNeg))) 118 v3.toNatClampNeg v2) L bc bs Q) ∧ (¬ (I 116 (I 112 v3.toNatClampNeg).toNatClampNeg) ≤ (((u2 I 117 v3.toNatClampNeg ((I 116 v2.toNatClampNeg) + (I 110 (((48 : Int32) * v2) + v3).toNatClampNeg))) 117 v3.toNatClampNeg) - (I 110 (((48 : Int32) * (I 112 v3.toNatClampNeg)) + v3).toNatClampNeg)) → ZW G mX12_findFars fX12_findFars lX12_findFars 117 [zo G 84, .int (1 : Int32), .int v2, .int (v3 + 1), .null, .null] [] S (u2 (u2 (u2 I 117 v3.toNatClampNeg ((I 116 v2.toNatClampNeg) + (I 110 (((48 : Int32) * v2) + v3).toNatClampNeg))) 118 v3.toNatClampNeg v2) 116 (I 112 v3.toNatClampNeg).toNatClampNeg (((u2 I 117 v3.toNatClampNeg ((I 116 v2.toNatClampNeg) + (I 110 (((48 : Int32) * v2) + v3).toNatClampNeg))) 117 v3.toNatClampNeg) - (I 110 (((48 : Int32) * (I 112 v3.toNatClampNeg)) + v3).toNatClampNeg))) L bc bs Q))))) ∧ (¬ ((I 116 v2.toNatClampNeg) + (I 110 (((48 : Int32) * v2) + v3).toNatClampNeg)) < (I 117 v3.toNatClampNeg) → ZW G mX12_findFars fX12_findFars lX12_findFars 117 [zo G 84, .int v1, .int v2, .int (v3 + 1), .null, .null] [] S I L bc bs Q))) ∧ (v2 = (I 84 52) → ((v3 = (I 84 53) → ZW G mX12_findFars fX12_findFars lX12_findFars 117 [zo G 84, .int v1, .int v2, .int (v3 + 1), .null, .null] [] S I L bc bs Q) ∧ (¬ v3 = (I 84 53) → ((((I 116 v2.toNatClampNeg) + (I 110 (((48 : Int32) * v2) + v3).toNatClampNeg)) < (I 117 v3.toNatClampNeg) → (((I 112 v3.toNatClampNeg) = (-1 : Int32) → ZW G mX12_findFars fX12_findFars lX12_findFars 117 [zo G 84, .int (1 : Int32), .int v2, .int (v3 + 1), .null, .null] [] S (u2 (u2 I 117 v3.toNatClampNeg ((I 116 v2.toNatClampNeg) + (I 110 (((48 : Int32) * v2) + v3).toNatClampNeg))) 118 v3.toNatClampNeg v2) L bc bs Q) ∧ (¬ (I 112 v3.toNatClampNeg) = (-1 : Int32) → vp_in (((48 : Int32) * (I 112 v3.toNatClampNeg)) + v3) 2304 ∧ vp_in (I 112 v3.toNatClampNeg) 48 ∧ (((I 116 (I 112 v3.toNatClampNeg).toNatClampNeg) ≤ (((u2 I 117 v3.toNatClampNeg ((I 116 v2.toNatClampNeg) + (I 110 (((48 : Int32) * v2) + v3).toNatClampNeg))) 117 v3.toNatClampNeg) - (I 110 (((48 : Int32) * (I 112 v3.toNatClampNeg)) + v3).toNatClampNeg)) → ZW G mX12_findFars fX12_findFars lX12_findFars 117 [zo G 84, .int (1 : Int32), .int v2, .int (v3 + 1), .null, .null] [] S (u2 (u2 I 117 v3.toNatClampNeg ((I 116 v2.toNatClampNeg) + (I 110 (((48 : Int32) * v2) + v3).toNatClampNeg))) 118 v3.toNatClampNeg v2) L bc bs Q) ∧ (¬ (I 116 (I 112 v3.toNatClampNeg).toNatClampNeg) ≤ (((u2 I 117 v3.toNatClampNeg ((I 116 v2.toNatClampNeg) + (I 110 (((48 : Int32) * v2) + v3).toNatClampNeg))) 117 v3.toNatClampNeg) - (I 110 (((48 : Int32) * (I 112 v3.toNatClampNeg)) + v3).toNatClampNeg)) → ZW G mX12_findFars fX12_findFars lX12_findFars 117 [zo G 84, .int (1 : Int32), .int v2, .int (v3 + 1), .null, .null] [] S (u2 (u2 (u2 I 117 v3.toNatClampNeg ((I 116 v2.toNatClampNeg) + (I 110 (((48 : Int32) * v2) + v3).toNatClampNeg))) 118 v3.toNatClampNeg v2) 116 (I 112 v3.toNatClampNeg).toNatClampNeg (((u2 I 117 v3.toNatClampNeg ((I 116 v2.toNatClampNeg) + (I 110 (((48 : Int32) * v2) + v3).toNatClampNeg))) 117 v3.toNatClampNeg) - (I 110 (((48 : Int32) * (I 112 v3.toNatClampNeg)) + v3).toNatClampNeg))) L bc bs Q))))) ∧ (¬ ((I 116 v2.toNatClampNeg) + (I 110 (((48 : Int32) * v2) + v3).toNatClampNeg)) < (I 117 v3.toNatClampNeg) → ZW G mX12_findFars fX12_findFars lX12_findFars 117 [zo G 84, .int v1, .int v2, .int (v3 + 1), .null, .null] [] S I L bc bs Q))))))))))))))) : ZW G mX12_findFars fX12_findFars lX12_findFars 117 [zo G 84, .int v1, .int v2, .int v3, .null, .null] [] S I L bc bs Q := by
  refine zr_iload_n dX12_findFars_117 rfl rfl ?_
  refine zr_aload_n dX12_findFars_118 rfl rfl ?_
  refine zr_getIv (x := (I 84 43)) dX12_findFars_119 zf_X12_334 rfl (hS.has (a := 84) rfl rfl) rfl ?_
  refine zr_icge (tgt := 299) dX12_findFars_122 (by decide) (fun hb => ?_) (fun hb => ?_)
  · have k := k.1 hb
    refine zr_iinc (v := (v2 + 1)) dX12_findFars_299 rfl rfl (Nat.le_of_ble_eq_true rfl) rfl ?_
    refine zr_goto (tgt := 83) dX12_findFars_302 (by decide) ?_
    exact zr_mask [true, true, true, false, false, false] rfl k
  · have k := k.2 hb
    refine zr_aload_n dX12_findFars_125 rfl rfl ?_
    refine zr_getR dX12_findFars_126 zf_X12_93 rfl (hS.has (a := 84) rfl rfl) (hS.ref (a := 110) rfl) ?_
    refine zr_bipush (v := 48) dX12_findFars_129 (by decide) ?_
    refine zr_iload_n dX12_findFars_131 rfl rfl ?_
    refine zr_imul dX12_findFars_132 ?_
    refine zr_iload_n dX12_findFars_133 rfl rfl ?_
    refine zr_iadd dX12_findFars_134 ?_
    obtain ⟨hi4, k⟩ := k
    refine zr_ialdv (x := (I 110 (((48 : Int32) * v2) + v3).toNatClampNeg)) dX12_findFars_135 (hS.has (a := 110) rfl rfl) hi4 rfl ?_
    refine zr_istore dX12_findFars_136 (Nat.le_of_ble_eq_true rfl) rfl ?_
    refine zr_iload dX12_findFars_138 rfl ?_
    refine zr_iconst (v := -1) dX12_findFars_140 (by decide) ?_
    refine zr_iceq (tgt := 293) dX12_findFars_141 (by decide) (fun hb => ?_) (fun hb => ?_)
    · have k := k.1 hb
      refine zr_iinc (v := (v3 + 1)) dX12_findFars_293 rfl rfl (Nat.le_of_ble_eq_true rfl) rfl ?_
      refine zr_goto (tgt := 117) dX12_findFars_296 (by decide) ?_
      exact zr_mask [true, true, true, true, false, false] rfl k
    · have k := k.2 hb
      refine zr_aload_n dX12_findFars_144 rfl rfl ?_
      refine zr_getR dX12_findFars_145 zf_X12_108 rfl (hS.has (a := 84) rfl rfl) (hS.ref (a := 115) rfl) ?_
      refine zr_iload_n dX12_findFars_148 rfl rfl ?_
      obtain ⟨hi5, k⟩ := k
      refine zr_zaldv (x := (I 115 v3.toNatClampNeg)) dX12_findFars_149 (hS.has (a := 115) rfl rfl) hi5 rfl ?_
      refine zr_ifne (tgt := 293) dX12_findFars_150 (by decide) (fun hb => ?_) (fun hb => ?_)
      · have k := k.1 hb
        refine zr_iinc (v := (v3 + 1)) dX12_findFars_293 rfl rfl (Nat.le_of_ble_eq_true rfl) rfl ?_
        refine zr_goto (tgt := 117) dX12_findFars_296 (by decide) ?_
        exact zr_mask [true, true, true, true, false, false] rfl k
      · have k := k.2 hb
        refine zr_aload_n dX12_findFars_153 rfl rfl ?_
        refine zr_getR dX12_findFars_154 zf_X12_96 rfl (hS.has (a := 84) rfl rfl) (hS.ref (a := 111) rfl) ?_
        refine zr_iload_n dX12_findFars_157 rfl rfl ?_
        obtain ⟨hi6, k⟩ := k
        refine zr_ialdv (x := (I 111 v2.toNatClampNeg)) dX12_findFars_158 (hS.has (a := 111) rfl rfl) hi6 rfl ?_
        refine zr_iload_n dX12_findFars_159 rfl rfl ?_
        refine zr_iceq (tgt := 293) dX12_findFars_160 (by decide) (fun hb => ?_) (fun hb => ?_)
        · have k := k.1 hb
          refine zr_iinc (v := (v3 + 1)) dX12_findFars_293 rfl rfl (Nat.le_of_ble_eq_true rfl) rfl ?_
          refine zr_goto (tgt := 117) dX12_findFars_296 (by decide) ?_
          exact zr_mask [true, true, true, true, false, false] rfl k
        · have k := k.2 hb
          refine zr_iload_n dX12_findFars_163 rfl rfl ?_
          refine zr_aload_n dX12_findFars_164 rfl rfl ?_
          refine zr_getIv (x := (I 84 52)) dX12_findFars_165 zf_X12_111 rfl (hS.has (a := 84) rfl rfl) rfl ?_
          refine zr_icne (tgt := 179) dX12_findFars_168 (by decide) (fun hb => ?_) (fun hb => ?_)
          · have k := k.1 hb
            refine zr_aload_n dX12_findFars_179 rfl rfl ?_
            refine zr_getR dX12_findFars_180 zf_X12_117 rfl (hS.has (a := 84) rfl rfl) (hS.ref (a := 116) rfl) ?_
            refine zr_iload_n dX12_findFars_183 rfl rfl ?_
            refine zr_ialdv (x := (I 116 v2.toNatClampNeg)) dX12_findFars_184 (hS.has (a := 116) rfl rfl) hi6 rfl ?_
            refine zr_iload dX12_findFars_185 rfl ?_
            refine zr_iadd dX12_findFars_187 ?_
            refine zr_aload_n dX12_findFars_188 rfl rfl ?_
            refine zr_getR dX12_findFars_189 zf_X12_120 rfl (hS.has (a := 84) rfl rfl) (hS.ref (a := 117) rfl) ?_
            refine zr_iload_n dX12_findFars_192 rfl rfl ?_
            refine zr_ialdv (x := (I 117 v3.toNatClampNeg)) dX12_findFars_193 (hS.has (a := 117) rfl rfl) hi5 rfl ?_
            refine zr_iclt (tgt := 200) dX12_findFars_194 (by decide) (fun hb => ?_) (fun hb => ?_)
            · have k := k.1 hb
              refine zr_aload_n dX12_findFars_200 rfl rfl ?_
              refine zr_getR dX12_findFars_201 zf_X12_120 rfl (hS.has (a := 84) rfl rfl) (hS.ref (a := 117) rfl) ?_
              refine zr_iload_n dX12_findFars_204 rfl rfl ?_
              refine zr_aload_n dX12_findFars_205 rfl rfl ?_
              refine zr_getR dX12_findFars_206 zf_X12_117 rfl (hS.has (a := 84) rfl rfl) (hS.ref (a := 116) rfl) ?_
              refine zr_iload_n dX12_findFars_209 rfl rfl ?_
              refine zr_ialdv (x := (I 116 v2.toNatClampNeg)) dX12_findFars_210 (hS.has (a := 116) rfl rfl) hi6 rfl ?_
              refine zr_iload dX12_findFars_211 rfl ?_
              refine zr_iadd dX12_findFars_213 ?_
              refine zr_iast dX12_findFars_214 (hS.has (a := 117) rfl rfl) hi5 ?_
              refine zr_aload_n dX12_findFars_215 rfl rfl ?_
              refine zr_getR dX12_findFars_216 zf_X12_123 rfl (hS.has (a := 84) rfl rfl) (hS.ref (a := 118) rfl) ?_
              refine zr_iload_n dX12_findFars_219 rfl rfl ?_
              refine zr_iload_n dX12_findFars_220 rfl rfl ?_
              refine zr_iast dX12_findFars_221 (hS.has (a := 118) rfl rfl) hi5 ?_
              refine zr_iconst (v := 1) dX12_findFars_222 (by decide) ?_
              refine zr_istore_n dX12_findFars_223 rfl (Nat.le_of_ble_eq_true rfl) rfl ?_
              refine zr_aload_n dX12_findFars_224 rfl rfl ?_
              refine zr_getR dX12_findFars_225 zf_X12_99 rfl (hS.has (a := 84) rfl rfl) (hS.ref (a := 112) rfl) ?_
              refine zr_iload_n dX12_findFars_228 rfl rfl ?_
              refine zr_ialdv (x := (I 112 v3.toNatClampNeg)) dX12_findFars_229 (hS.has (a := 112) rfl rfl) hi5 rfl ?_
              refine zr_istore dX12_findFars_230 (Nat.le_of_ble_eq_true rfl) rfl ?_
              refine zr_iload dX12_findFars_232 rfl ?_
              refine zr_iconst (v := -1) dX12_findFars_234 (by decide) ?_
              refine zr_iceq (tgt := 293) dX12_findFars_235 (by decide) (fun hb => ?_) (fun hb => ?_)
              · have k := k.1 hb
                refine zr_iinc (v := (v3 + 1)) dX12_findFars_293 rfl rfl (Nat.le_of_ble_eq_true rfl) rfl ?_
                refine zr_goto (tgt := 117) dX12_findFars_296 (by decide) ?_
                exact zr_mask [true, true, true, true, false, false] rfl k
              · have k := k.2 hb
                refine zr_aload_n dX12_findFars_238 rfl rfl ?_
                refine zr_getR dX12_findFars_239 zf_X12_120 rfl (hS.has (a := 84) rfl rfl) (hS.ref (a := 117) rfl) ?_
                refine zr_iload_n dX12_findFars_242 rfl rfl ?_
                refine zr_ialdv (x := ((u2 I 117 v3.toNatClampNeg ((I 116 v2.toNatClampNeg) + (I 110 (((48 : Int32) * v2) + v3).toNatClampNeg))) 117 v3.toNatClampNeg)) dX12_findFars_243 (hS.has (a := 117) rfl rfl) hi5 rfl ?_
                refine zr_aload_n dX12_findFars_244 rfl rfl ?_
                refine zr_getR dX12_findFars_245 zf_X12_93 rfl (hS.has (a := 84) rfl rfl) (hS.ref (a := 110) rfl) ?_
                refine zr_bipush (v := 48) dX12_findFars_248 (by decide) ?_
                refine zr_iload dX12_findFars_250 rfl ?_
                refine zr_imul dX12_findFars_252 ?_
                refine zr_iload_n dX12_findFars_253 rfl rfl ?_
                refine zr_iadd dX12_findFars_254 ?_
                obtain ⟨hi7, k⟩ := k
                refine zr_ialdv (x := (I 110 (((48 : Int32) * (I 112 v3.toNatClampNeg)) + v3).toNatClampNeg)) dX12_findFars_255 (hS.has (a := 110) rfl rfl) hi7 rfl ?_
                refine zr_isub dX12_findFars_256 ?_
                refine zr_aload_n dX12_findFars_257 rfl rfl ?_
                refine zr_getR dX12_findFars_258 zf_X12_117 rfl (hS.has (a := 84) rfl rfl) (hS.ref (a := 116) rfl) ?_
                refine zr_iload dX12_findFars_261 rfl ?_
                obtain ⟨hi8, k⟩ := k
                refine zr_ialdv (x := (I 116 (I 112 v3.toNatClampNeg).toNatClampNeg)) dX12_findFars_263 (hS.has (a := 116) rfl rfl) hi8 rfl ?_
                refine zr_icge (tgt := 293) dX12_findFars_264 (by decide) (fun hb => ?_) (fun hb => ?_)
                · have k := k.1 hb
                  refine zr_iinc (v := (v3 + 1)) dX12_findFars_293 rfl rfl (Nat.le_of_ble_eq_true rfl) rfl ?_
                  refine zr_goto (tgt := 117) dX12_findFars_296 (by decide) ?_
                  exact zr_mask [true, true, true, true, false, false] rfl k
                · have k := k.2 hb
                  refine zr_aload_n dX12_findFars_267 rfl rfl ?_
                  refine zr_getR dX12_findFars_268 zf_X12_117 rfl (hS.has (a := 84) rfl rfl) (hS.ref (a := 116) rfl) ?_
                  refine zr_iload dX12_findFars_271 rfl ?_
                  refine zr_aload_n dX12_findFars_273 rfl rfl ?_
                  refine zr_getR dX12_findFars_274 zf_X12_120 rfl (hS.has (a := 84) rfl rfl) (hS.ref (a := 117) rfl) ?_
                  refine zr_iload_n dX12_findFars_277 rfl rfl ?_
                  refine zr_ialdv (x := ((u2 I 117 v3.toNatClampNeg ((I 116 v2.toNatClampNeg) + (I 110 (((48 : Int32) * v2) + v3).toNatClampNeg))) 117 v3.toNatClampNeg)) dX12_findFars_278 (hS.has (a := 117) rfl rfl) hi5 rfl ?_
                  refine zr_aload_n dX12_findFars_279 rfl rfl ?_
                  refine zr_getR dX12_findFars_280 zf_X12_93 rfl (hS.has (a := 84) rfl rfl) (hS.ref (a := 110) rfl) ?_
                  refine zr_bipush (v := 48) dX12_findFars_283 (by decide) ?_
                  refine zr_iload dX12_findFars_285 rfl ?_
                  refine zr_imul dX12_findFars_287 ?_
                  refine zr_iload_n dX12_findFars_288 rfl rfl ?_
                  refine zr_iadd dX12_findFars_289 ?_
                  refine zr_ialdv (x := (I 110 (((48 : Int32) * (I 112 v3.toNatClampNeg)) + v3).toNatClampNeg)) dX12_findFars_290 (hS.has (a := 110) rfl rfl) hi7 rfl ?_
                  refine zr_isub dX12_findFars_291 ?_
                  refine zr_iast dX12_findFars_292 (hS.has (a := 116) rfl rfl) hi8 ?_
                  refine zr_iinc (v := (v3 + 1)) dX12_findFars_293 rfl rfl (Nat.le_of_ble_eq_true rfl) rfl ?_
                  refine zr_goto (tgt := 117) dX12_findFars_296 (by decide) ?_
                  exact zr_mask [true, true, true, true, false, false] rfl k
            · have k := k.2 hb
              refine zr_goto (tgt := 293) dX12_findFars_197 (by decide) ?_
              refine zr_iinc (v := (v3 + 1)) dX12_findFars_293 rfl rfl (Nat.le_of_ble_eq_true rfl) rfl ?_
              refine zr_goto (tgt := 117) dX12_findFars_296 (by decide) ?_
              exact zr_mask [true, true, true, true, false, false] rfl k
          · have k := k.2 hb
            refine zr_iload_n dX12_findFars_171 rfl rfl ?_
            refine zr_aload_n dX12_findFars_172 rfl rfl ?_
            refine zr_getIv (x := (I 84 53)) dX12_findFars_173 zf_X12_114 rfl (hS.has (a := 84) rfl rfl) rfl ?_
            refine zr_iceq (tgt := 293) dX12_findFars_176 (by decide) (fun hb => ?_) (fun hb => ?_)
            · have k := k.1 hb
              refine zr_iinc (v := (v3 + 1)) dX12_findFars_293 rfl rfl (Nat.le_of_ble_eq_true rfl) rfl ?_
              refine zr_goto (tgt := 117) dX12_findFars_296 (by decide) ?_
              exact zr_mask [true, true, true, true, false, false] rfl k
            · have k := k.2 hb
              refine zr_aload_n dX12_findFars_179 rfl rfl ?_
              refine zr_getR dX12_findFars_180 zf_X12_117 rfl (hS.has (a := 84) rfl rfl) (hS.ref (a := 116) rfl) ?_
              refine zr_iload_n dX12_findFars_183 rfl rfl ?_
              refine zr_ialdv (x := (I 116 v2.toNatClampNeg)) dX12_findFars_184 (hS.has (a := 116) rfl rfl) hi6 rfl ?_
              refine zr_iload dX12_findFars_185 rfl ?_
              refine zr_iadd dX12_findFars_187 ?_
              refine zr_aload_n dX12_findFars_188 rfl rfl ?_
              refine zr_getR dX12_findFars_189 zf_X12_120 rfl (hS.has (a := 84) rfl rfl) (hS.ref (a := 117) rfl) ?_
              refine zr_iload_n dX12_findFars_192 rfl rfl ?_
              refine zr_ialdv (x := (I 117 v3.toNatClampNeg)) dX12_findFars_193 (hS.has (a := 117) rfl rfl) hi5 rfl ?_
              refine zr_iclt (tgt := 200) dX12_findFars_194 (by decide) (fun hb => ?_) (fun hb => ?_)
              · have k := k.1 hb
                refine zr_aload_n dX12_findFars_200 rfl rfl ?_
                refine zr_getR dX12_findFars_201 zf_X12_120 rfl (hS.has (a := 84) rfl rfl) (hS.ref (a := 117) rfl) ?_
                refine zr_iload_n dX12_findFars_204 rfl rfl ?_
                refine zr_aload_n dX12_findFars_205 rfl rfl ?_
                refine zr_getR dX12_findFars_206 zf_X12_117 rfl (hS.has (a := 84) rfl rfl) (hS.ref (a := 116) rfl) ?_
                refine zr_iload_n dX12_findFars_209 rfl rfl ?_
                refine zr_ialdv (x := (I 116 v2.toNatClampNeg)) dX12_findFars_210 (hS.has (a := 116) rfl rfl) hi6 rfl ?_
                refine zr_iload dX12_findFars_211 rfl ?_
                refine zr_iadd dX12_findFars_213 ?_
                refine zr_iast dX12_findFars_214 (hS.has (a := 117) rfl rfl) hi5 ?_
                refine zr_aload_n dX12_findFars_215 rfl rfl ?_
                refine zr_getR dX12_findFars_216 zf_X12_123 rfl (hS.has (a := 84) rfl rfl) (hS.ref (a := 118) rfl) ?_
                refine zr_iload_n dX12_findFars_219 rfl rfl ?_
                refine zr_iload_n dX12_findFars_220 rfl rfl ?_
                refine zr_iast dX12_findFars_221 (hS.has (a := 118) rfl rfl) hi5 ?_
                refine zr_iconst (v := 1) dX12_findFars_222 (by decide) ?_
                refine zr_istore_n dX12_findFars_223 rfl (Nat.le_of_ble_eq_true rfl) rfl ?_
                refine zr_aload_n dX12_findFars_224 rfl rfl ?_
                refine zr_getR dX12_findFars_225 zf_X12_99 rfl (hS.has (a := 84) rfl rfl) (hS.ref (a := 112) rfl) ?_
                refine zr_iload_n dX12_findFars_228 rfl rfl ?_
                refine zr_ialdv (x := (I 112 v3.toNatClampNeg)) dX12_findFars_229 (hS.has (a := 112) rfl rfl) hi5 rfl ?_
                refine zr_istore dX12_findFars_230 (Nat.le_of_ble_eq_true rfl) rfl ?_
                refine zr_iload dX12_findFars_232 rfl ?_
                refine zr_iconst (v := -1) dX12_findFars_234 (by decide) ?_
                refine zr_iceq (tgt := 293) dX12_findFars_235 (by decide) (fun hb => ?_) (fun hb => ?_)
                · have k := k.1 hb
                  refine zr_iinc (v := (v3 + 1)) dX12_findFars_293 rfl rfl (Nat.le_of_ble_eq_true rfl) rfl ?_
                  refine zr_goto (tgt := 117) dX12_findFars_296 (by decide) ?_
                  exact zr_mask [true, true, true, true, false, false] rfl k
                · have k := k.2 hb
                  refine zr_aload_n dX12_findFars_238 rfl rfl ?_
                  refine zr_getR dX12_findFars_239 zf_X12_120 rfl (hS.has (a := 84) rfl rfl) (hS.ref (a := 117) rfl) ?_
                  refine zr_iload_n dX12_findFars_242 rfl rfl ?_
                  refine zr_ialdv (x := ((u2 I 117 v3.toNatClampNeg ((I 116 v2.toNatClampNeg) + (I 110 (((48 : Int32) * v2) + v3).toNatClampNeg))) 117 v3.toNatClampNeg)) dX12_findFars_243 (hS.has (a := 117) rfl rfl) hi5 rfl ?_
                  refine zr_aload_n dX12_findFars_244 rfl rfl ?_
                  refine zr_getR dX12_findFars_245 zf_X12_93 rfl (hS.has (a := 84) rfl rfl) (hS.ref (a := 110) rfl) ?_
                  refine zr_bipush (v := 48) dX12_findFars_248 (by decide) ?_
                  refine zr_iload dX12_findFars_250 rfl ?_
                  refine zr_imul dX12_findFars_252 ?_
                  refine zr_iload_n dX12_findFars_253 rfl rfl ?_
                  refine zr_iadd dX12_findFars_254 ?_
                  obtain ⟨hi9, k⟩ := k
                  refine zr_ialdv (x := (I 110 (((48 : Int32) * (I 112 v3.toNatClampNeg)) + v3).toNatClampNeg)) dX12_findFars_255 (hS.has (a := 110) rfl rfl) hi9 rfl ?_
                  refine zr_isub dX12_findFars_256 ?_
                  refine zr_aload_n dX12_findFars_257 rfl rfl ?_
                  refine zr_getR dX12_findFars_258 zf_X12_117 rfl (hS.has (a := 84) rfl rfl) (hS.ref (a := 116) rfl) ?_
                  refine zr_iload dX12_findFars_261 rfl ?_
                  obtain ⟨hi10, k⟩ := k
                  refine zr_ialdv (x := (I 116 (I 112 v3.toNatClampNeg).toNatClampNeg)) dX12_findFars_263 (hS.has (a := 116) rfl rfl) hi10 rfl ?_
                  refine zr_icge (tgt := 293) dX12_findFars_264 (by decide) (fun hb => ?_) (fun hb => ?_)
                  · have k := k.1 hb
                    refine zr_iinc (v := (v3 + 1)) dX12_findFars_293 rfl rfl (Nat.le_of_ble_eq_true rfl) rfl ?_
                    refine zr_goto (tgt := 117) dX12_findFars_296 (by decide) ?_
                    exact zr_mask [true, true, true, true, false, false] rfl k
                  · have k := k.2 hb
                    refine zr_aload_n dX12_findFars_267 rfl rfl ?_
                    refine zr_getR dX12_findFars_268 zf_X12_117 rfl (hS.has (a := 84) rfl rfl) (hS.ref (a := 116) rfl) ?_
                    refine zr_iload dX12_findFars_271 rfl ?_
                    refine zr_aload_n dX12_findFars_273 rfl rfl ?_
                    refine zr_getR dX12_findFars_274 zf_X12_120 rfl (hS.has (a := 84) rfl rfl) (hS.ref (a := 117) rfl) ?_
                    refine zr_iload_n dX12_findFars_277 rfl rfl ?_
                    refine zr_ialdv (x := ((u2 I 117 v3.toNatClampNeg ((I 116 v2.toNatClampNeg) + (I 110 (((48 : Int32) * v2) + v3).toNatClampNeg))) 117 v3.toNatClampNeg)) dX12_findFars_278 (hS.has (a := 117) rfl rfl) hi5 rfl ?_
                    refine zr_aload_n dX12_findFars_279 rfl rfl ?_
                    refine zr_getR dX12_findFars_280 zf_X12_93 rfl (hS.has (a := 84) rfl rfl) (hS.ref (a := 110) rfl) ?_
                    refine zr_bipush (v := 48) dX12_findFars_283 (by decide) ?_
                    refine zr_iload dX12_findFars_285 rfl ?_
                    refine zr_imul dX12_findFars_287 ?_
                    refine zr_iload_n dX12_findFars_288 rfl rfl ?_
                    refine zr_iadd dX12_findFars_289 ?_
                    refine zr_ialdv (x := (I 110 (((48 : Int32) * (I 112 v3.toNatClampNeg)) + v3).toNatClampNeg)) dX12_findFars_290 (hS.has (a := 110) rfl rfl) hi9 rfl ?_
                    refine zr_isub dX12_findFars_291 ?_
                    refine zr_iast dX12_findFars_292 (hS.has (a := 116) rfl rfl) hi10 ?_
                    refine zr_iinc (v := (v3 + 1)) dX12_findFars_293 rfl rfl (Nat.le_of_ble_eq_true rfl) rfl ?_
                    refine zr_goto (tgt := 117) dX12_findFars_296 (by decide) ?_
                    exact zr_mask [true, true, true, true, false, false] rfl k
              · have k := k.2 hb
                refine zr_goto (tgt := 293) dX12_findFars_197 (by decide) ?_
                refine zr_iinc (v := (v3 + 1)) dX12_findFars_293 rfl rfl (Nat.le_of_ble_eq_true rfl) rfl ?_
                refine zr_goto (tgt := 117) dX12_findFars_296 (by decide) ?_
                exact zr_mask [true, true, true, true, false, false] rfl k
set_option maxHeartbeats 2000000 in
theorem vX12_grows_0 {G : Gp} {bc bs : Nat} {Q : zPost} {S : zSh} {I : zFI} {L : zFL}  (hS : zStd S)  (k : ZC G mX12_findFars fX12_findFars lX12_findFars [zo G 84] S I L 0 0 (fun w S' I1 L1 => w = none ∧ S = S' ∧ ZW G mX12_grows fX12_grows lX12_grows 8 [zo G 84, .int (-1 : Int32), .int (0 : Int32), .null, .null] [] S I1 L1 bc bs Q)) : ZW G mX12_grows fX12_grows lX12_grows 0 [zo G 84, .null, .null, .null, .null] [] S I L bc bs Q := by
  refine zr_aload_n dX12_grows_0 rfl rfl ?_
  refine zr_callV (As := []) (fr' := fX12_findFars) (lo' := lX12_findFars) (bc' := 0) (bs' := 0) (bcr := bc) (bsr := bs) dX12_grows_1 zs_X12_344 zi_X12_findFars zcl_12 (hS.has (a := 84) rfl rfl) rfl rfl (Nat.le_of_ble_eq_true rfl) (Nat.le_of_ble_eq_true rfl) (Nat.le_of_ble_eq_true rfl) (Nat.le_refl _) (Nat.le_refl _) ?_
  refine ZC.mono (fun w S' I1 L1 k => ?_) k
  obtain ⟨rfl, rfl, k⟩ := k
  show ZW G mX12_grows fX12_grows lX12_grows 4 [zo G 84, .null, .null, .null, .null] [] S I1 L1 bc bs Q
  refine zr_iconst (v := -1) dX12_grows_4 (by decide) ?_
  refine zr_istore_n dX12_grows_5 rfl (Nat.le_of_ble_eq_true rfl) rfl ?_
  refine zr_iconst (v := 0) dX12_grows_6 (by decide) ?_
  refine zr_istore_n dX12_grows_7 rfl (Nat.le_of_ble_eq_true rfl) rfl ?_
  exact k
set_option maxHeartbeats 2000000 in
theorem vX12_grows_8 {G : Gp} {bc bs : Nat} {Q : zPost} {S : zSh} {I : zFI} {L : zFL} {v1 : Int32} {v2 : Int32} (hS : zStd S)  (k : (((I 84 43) ≤ v2 → ((¬ v1 = (-1 : Int32) → vp_in v1 48 ∧ ZW G mX12_grows fX12_grows lX12_grows 109 [zo G 84, .int v1, .int v1, .null, .null] [] S (u2 (u2 I 84 51 ((I 84 51) + (I 117 v1.toNatClampNeg))) 84 50 ((I 84 50) + (1 : Int32))) L bc bs Q) ∧ (v1 = (-1 : Int32) → Q (some (.int (0 : Int32))) S I L))) ∧ (¬ (I 84 43) ≤ v2 → vp_in v2 48 ∧ ((¬ (I 115 v2.toNatClampNeg) = 0 → ZW G mX12_grows fX12_grows lX12_grows 8 [zo G 84, .int v1, .int (v2 + 1), .null, .null] [] S I L bc bs Q) ∧ ((I 115 v2.toNatClampNeg) = 0 → ((¬ (I 112 v2.toNatClampNeg) = (-1 : Int32) → ZW G mX12_grows fX12_grows lX12_grows 8 [zo G 84, .int v1, .int (v2 + 1), .null, .null] [] S I L bc bs Q) ∧ ((I 112 v2.toNatClampNeg) = (-1 : Int32) → (((1000000 : Int32) ≤ (I 117 v2.toNatClampNeg) → ZW G mX12_grows fX12_grows lX12_grows 8 [zo G 84, .int v1, .int (v2 + 1), .null, .null] [] S I L bc bs Q) ∧ (¬ (1000000 : Int32) ≤ (I 117 v2.toNatClampNeg) → ((v1 = (-1 : Int32) → ZW G mX12_grows fX12_grows lX12_grows 8 [zo G 84, .int v2, .int (v2 + 1), .null, .null] [] S I L bc bs Q) ∧ (¬ v1 = (-1 : Int32) → vp_in v1 48 ∧ (((I 117 v1.toNatClampNeg) ≤ (I 117 v2.toNatClampNeg) → ZW G mX12_grows fX12_grows lX12_grows 8 [zo G 84, .int v1, .int (v2 + 1), .null, .null] [] S I L bc bs Q) ∧ (¬ (I 117 v1.toNatClampNeg) ≤ (I 117 v2.toNatClampNeg) → ZW G mX12_grows fX12_grows lX12_grows 8 [zo G 84, .int v2, .int (v2 + 1), .null, .null] [] S I L bc bs Q))))))))))))) : ZW G mX12_grows fX12_grows lX12_grows 8 [zo G 84, .int v1, .int v2, .null, .null] [] S I L bc bs Q := by
  refine zr_iload_n dX12_grows_8 rfl rfl ?_
  refine zr_aload_n dX12_grows_9 rfl rfl ?_
  refine zr_getIv (x := (I 84 43)) dX12_grows_10 zf_X12_334 rfl (hS.has (a := 84) rfl rfl) rfl ?_
  refine zr_icge (tgt := 75) dX12_grows_13 (by decide) (fun hb => ?_) (fun hb => ?_)
  · have k := k.1 hb
    refine zr_iload_n dX12_grows_75 rfl rfl ?_
    refine zr_iconst (v := -1) dX12_grows_76 (by decide) ?_
    refine zr_icne (tgt := 82) dX12_grows_77 (by decide) (fun hb => ?_) (fun hb => ?_)
    · have k := k.1 hb
      refine zr_aload_n dX12_grows_82 rfl rfl ?_
      refine zr_aload_n dX12_grows_83 rfl rfl ?_
      refine zr_getIv (x := (I 84 51)) dX12_grows_84 zf_X12_340 rfl (hS.has (a := 84) rfl rfl) rfl ?_
      refine zr_aload_n dX12_grows_87 rfl rfl ?_
      refine zr_getR dX12_grows_88 zf_X12_120 rfl (hS.has (a := 84) rfl rfl) (hS.ref (a := 117) rfl) ?_
      refine zr_iload_n dX12_grows_91 rfl rfl ?_
      obtain ⟨hi1, k⟩ := k
      refine zr_ialdv (x := (I 117 v1.toNatClampNeg)) dX12_grows_92 (hS.has (a := 117) rfl rfl) hi1 rfl ?_
      refine zr_iadd dX12_grows_93 ?_
      refine zr_putI dX12_grows_94 zf_X12_340 rfl (hS.has (a := 84) rfl rfl) rfl rfl ?_
      refine zr_aload_n dX12_grows_97 rfl rfl ?_
      refine zr_aload_n dX12_grows_98 rfl rfl ?_
      refine zr_getIv (x := (I 84 50)) dX12_grows_99 zf_X12_337 rfl (hS.has (a := 84) rfl rfl) rfl ?_
      refine zr_iconst (v := 1) dX12_grows_102 (by decide) ?_
      refine zr_iadd dX12_grows_103 ?_
      refine zr_putI dX12_grows_104 zf_X12_337 rfl (hS.has (a := 84) rfl rfl) rfl rfl ?_
      refine zr_iload_n dX12_grows_107 rfl rfl ?_
      refine zr_istore_n dX12_grows_108 rfl (Nat.le_of_ble_eq_true rfl) rfl ?_
      exact k
    · have k := k.2 hb
      refine zr_iconst (v := 0) dX12_grows_80 (by decide) ?_
      exact zr_ireturn dX12_grows_81 rfl rfl k
  · have k := k.2 hb
    refine zr_aload_n dX12_grows_16 rfl rfl ?_
    refine zr_getR dX12_grows_17 zf_X12_108 rfl (hS.has (a := 84) rfl rfl) (hS.ref (a := 115) rfl) ?_
    refine zr_iload_n dX12_grows_20 rfl rfl ?_
    obtain ⟨hi2, k⟩ := k
    refine zr_zaldv (x := (I 115 v2.toNatClampNeg)) dX12_grows_21 (hS.has (a := 115) rfl rfl) hi2 rfl ?_
    refine zr_ifne (tgt := 69) dX12_grows_22 (by decide) (fun hb => ?_) (fun hb => ?_)
    · have k := k.1 hb
      refine zr_iinc (v := (v2 + 1)) dX12_grows_69 rfl rfl (Nat.le_of_ble_eq_true rfl) rfl ?_
      refine zr_goto (tgt := 8) dX12_grows_72 (by decide) ?_
      exact k
    · have k := k.2 hb
      refine zr_aload_n dX12_grows_25 rfl rfl ?_
      refine zr_getR dX12_grows_26 zf_X12_99 rfl (hS.has (a := 84) rfl rfl) (hS.ref (a := 112) rfl) ?_
      refine zr_iload_n dX12_grows_29 rfl rfl ?_
      refine zr_ialdv (x := (I 112 v2.toNatClampNeg)) dX12_grows_30 (hS.has (a := 112) rfl rfl) hi2 rfl ?_
      refine zr_iconst (v := -1) dX12_grows_31 (by decide) ?_
      refine zr_icne (tgt := 69) dX12_grows_32 (by decide) (fun hb => ?_) (fun hb => ?_)
      · have k := k.1 hb
        refine zr_iinc (v := (v2 + 1)) dX12_grows_69 rfl rfl (Nat.le_of_ble_eq_true rfl) rfl ?_
        refine zr_goto (tgt := 8) dX12_grows_72 (by decide) ?_
        exact k
      · have k := k.2 hb
        refine zr_aload_n dX12_grows_35 rfl rfl ?_
        refine zr_getR dX12_grows_36 zf_X12_120 rfl (hS.has (a := 84) rfl rfl) (hS.ref (a := 117) rfl) ?_
        refine zr_iload_n dX12_grows_39 rfl rfl ?_
        refine zr_ialdv (x := (I 117 v2.toNatClampNeg)) dX12_grows_40 (hS.has (a := 117) rfl rfl) hi2 rfl ?_
        refine zr_ldc_w dX12_grows_41 zk_X12_343 ?_
        refine zr_icge (tgt := 69) dX12_grows_44 (by decide) (fun hb => ?_) (fun hb => ?_)
        · have k := k.1 hb
          refine zr_iinc (v := (v2 + 1)) dX12_grows_69 rfl rfl (Nat.le_of_ble_eq_true rfl) rfl ?_
          refine zr_goto (tgt := 8) dX12_grows_72 (by decide) ?_
          exact k
        · have k := k.2 hb
          refine zr_iload_n dX12_grows_47 rfl rfl ?_
          refine zr_iconst (v := -1) dX12_grows_48 (by decide) ?_
          refine zr_iceq (tgt := 67) dX12_grows_49 (by decide) (fun hb => ?_) (fun hb => ?_)
          · have k := k.1 hb
            refine zr_iload_n dX12_grows_67 rfl rfl ?_
            refine zr_istore_n dX12_grows_68 rfl (Nat.le_of_ble_eq_true rfl) rfl ?_
            refine zr_iinc (v := (v2 + 1)) dX12_grows_69 rfl rfl (Nat.le_of_ble_eq_true rfl) rfl ?_
            refine zr_goto (tgt := 8) dX12_grows_72 (by decide) ?_
            exact k
          · have k := k.2 hb
            refine zr_aload_n dX12_grows_52 rfl rfl ?_
            refine zr_getR dX12_grows_53 zf_X12_120 rfl (hS.has (a := 84) rfl rfl) (hS.ref (a := 117) rfl) ?_
            refine zr_iload_n dX12_grows_56 rfl rfl ?_
            refine zr_ialdv (x := (I 117 v2.toNatClampNeg)) dX12_grows_57 (hS.has (a := 117) rfl rfl) hi2 rfl ?_
            refine zr_aload_n dX12_grows_58 rfl rfl ?_
            refine zr_getR dX12_grows_59 zf_X12_120 rfl (hS.has (a := 84) rfl rfl) (hS.ref (a := 117) rfl) ?_
            refine zr_iload_n dX12_grows_62 rfl rfl ?_
            obtain ⟨hi3, k⟩ := k
            refine zr_ialdv (x := (I 117 v1.toNatClampNeg)) dX12_grows_63 (hS.has (a := 117) rfl rfl) hi3 rfl ?_
            refine zr_icge (tgt := 69) dX12_grows_64 (by decide) (fun hb => ?_) (fun hb => ?_)
            · have k := k.1 hb
              refine zr_iinc (v := (v2 + 1)) dX12_grows_69 rfl rfl (Nat.le_of_ble_eq_true rfl) rfl ?_
              refine zr_goto (tgt := 8) dX12_grows_72 (by decide) ?_
              exact k
            · have k := k.2 hb
              refine zr_iload_n dX12_grows_67 rfl rfl ?_
              refine zr_istore_n dX12_grows_68 rfl (Nat.le_of_ble_eq_true rfl) rfl ?_
              refine zr_iinc (v := (v2 + 1)) dX12_grows_69 rfl rfl (Nat.le_of_ble_eq_true rfl) rfl ?_
              refine zr_goto (tgt := 8) dX12_grows_72 (by decide) ?_
              exact k
set_option maxHeartbeats 2000000 in
theorem vX12_grows_109 {G : Gp} {bc bs : Nat} {Q : zPost} {S : zSh} {I : zFI} {L : zFL} {v1 : Int32} {v2 : Int32} (hS : zStd S)  (k : ((v2 = (-1 : Int32) → Q (some (.int (1 : Int32))) S I L) ∧ (¬ v2 = (-1 : Int32) → vp_in v2 48 ∧ vp_in (I 118 v2.toNatClampNeg) 48 ∧ ZW G mX12_grows fX12_grows lX12_grows 109 [zo G 84, .int v1, .int (I 111 (I 118 v2.toNatClampNeg).toNatClampNeg), .null, .null] [] S (u2 (u2 I 111 (I 118 v2.toNatClampNeg).toNatClampNeg v2) 112 v2.toNatClampNeg (I 118 v2.toNatClampNeg)) L bc bs Q))) : ZW G mX12_grows fX12_grows lX12_grows 109 [zo G 84, .int v1, .int v2, .null, .null] [] S I L bc bs Q := by
  refine zr_iload_n dX12_grows_109 rfl rfl ?_
  refine zr_iconst (v := -1) dX12_grows_110 (by decide) ?_
  refine zr_iceq (tgt := 149) dX12_grows_111 (by decide) (fun hb => ?_) (fun hb => ?_)
  · have k := k.1 hb
    refine zr_iconst (v := 1) dX12_grows_149 (by decide) ?_
    exact zr_ireturn dX12_grows_150 rfl rfl k
  · have k := k.2 hb
    refine zr_aload_n dX12_grows_114 rfl rfl ?_
    refine zr_getR dX12_grows_115 zf_X12_123 rfl (hS.has (a := 84) rfl rfl) (hS.ref (a := 118) rfl) ?_
    refine zr_iload_n dX12_grows_118 rfl rfl ?_
    obtain ⟨hi4, k⟩ := k
    refine zr_ialdv (x := (I 118 v2.toNatClampNeg)) dX12_grows_119 (hS.has (a := 118) rfl rfl) hi4 rfl ?_
    refine zr_istore_n dX12_grows_120 rfl (Nat.le_of_ble_eq_true rfl) rfl ?_
    refine zr_aload_n dX12_grows_121 rfl rfl ?_
    refine zr_getR dX12_grows_122 zf_X12_96 rfl (hS.has (a := 84) rfl rfl) (hS.ref (a := 111) rfl) ?_
    refine zr_iload_n dX12_grows_125 rfl rfl ?_
    obtain ⟨hi5, k⟩ := k
    refine zr_ialdv (x := (I 111 (I 118 v2.toNatClampNeg).toNatClampNeg)) dX12_grows_126 (hS.has (a := 111) rfl rfl) hi5 rfl ?_
    refine zr_istore dX12_grows_127 (Nat.le_of_ble_eq_true rfl) rfl ?_
    refine zr_aload_n dX12_grows_129 rfl rfl ?_
    refine zr_getR dX12_grows_130 zf_X12_96 rfl (hS.has (a := 84) rfl rfl) (hS.ref (a := 111) rfl) ?_
    refine zr_iload_n dX12_grows_133 rfl rfl ?_
    refine zr_iload_n dX12_grows_134 rfl rfl ?_
    refine zr_iast dX12_grows_135 (hS.has (a := 111) rfl rfl) hi5 ?_
    refine zr_aload_n dX12_grows_136 rfl rfl ?_
    refine zr_getR dX12_grows_137 zf_X12_99 rfl (hS.has (a := 84) rfl rfl) (hS.ref (a := 112) rfl) ?_
    refine zr_iload_n dX12_grows_140 rfl rfl ?_
    refine zr_iload_n dX12_grows_141 rfl rfl ?_
    refine zr_iast dX12_grows_142 (hS.has (a := 112) rfl rfl) hi4 ?_
    refine zr_iload dX12_grows_143 rfl ?_
    refine zr_istore_n dX12_grows_145 rfl (Nat.le_of_ble_eq_true rfl) rfl ?_
    refine zr_goto (tgt := 109) dX12_grows_146 (by decide) ?_
    exact zr_mask [true, true, true, false, false] rfl k
set_option maxHeartbeats 2000000 in
theorem vX12_solves_0 {G : Gp} {bc bs : Nat} {Q : zPost} {S : zSh} {I : zFI} {L : zFL} {v1 : Int32} {v2 : Int32} (hS : zStd S)  (k : ZW G mX12_solves fX12_solves lX12_solves 2 [zo G 84, .int v1, .int v2, .int (0 : Int32)] [] S I L bc bs Q) : ZW G mX12_solves fX12_solves lX12_solves 0 [zo G 84, .int v1, .int v2, .null] [] S I L bc bs Q := by
  refine zr_iconst (v := 0) dX12_solves_0 (by decide) ?_
  refine zr_istore_n dX12_solves_1 rfl (Nat.le_of_ble_eq_true rfl) rfl ?_
  exact k
set_option maxHeartbeats 2000000 in
theorem vX12_solves_2 {G : Gp} {bc bs : Nat} {Q : zPost} {S : zSh} {I : zFI} {L : zFL} {v1 : Int32} {v2 : Int32} {v3 : Int32} (hS : zStd S)  (k : (((I 84 42) ≤ v3 → ZW G mX12_solves fX12_solves lX12_solves 25 [zo G 84, .int v1, .int v2, .int (0 : Int32)] [] S I L bc bs Q) ∧ (¬ (I 84 42) ≤ v3 → vp_in v3 48 ∧ ZW G mX12_solves fX12_solves lX12_solves 2 [zo G 84, .int v1, .int v2, .int (v3 + 1)] [] S (u2 I 111 v3.toNatClampNeg (-1 : Int32)) L bc bs Q))) : ZW G mX12_solves fX12_solves lX12_solves 2 [zo G 84, .int v1, .int v2, .int v3] [] S I L bc bs Q := by
  refine zr_iload_n dX12_solves_2 rfl rfl ?_
  refine zr_aload_n dX12_solves_3 rfl rfl ?_
  refine zr_getIv (x := (I 84 42)) dX12_solves_4 zf_X12_331 rfl (hS.has (a := 84) rfl rfl) rfl ?_
  refine zr_icge (tgt := 23) dX12_solves_7 (by decide) (fun hb => ?_) (fun hb => ?_)
  · have k := k.1 hb
    refine zr_iconst (v := 0) dX12_solves_23 (by decide) ?_
    refine zr_istore_n dX12_solves_24 rfl (Nat.le_of_ble_eq_true rfl) rfl ?_
    exact k
  · have k := k.2 hb
    refine zr_aload_n dX12_solves_10 rfl rfl ?_
    refine zr_getR dX12_solves_11 zf_X12_96 rfl (hS.has (a := 84) rfl rfl) (hS.ref (a := 111) rfl) ?_
    refine zr_iload_n dX12_solves_14 rfl rfl ?_
    refine zr_iconst (v := -1) dX12_solves_15 (by decide) ?_
    obtain ⟨hi1, k⟩ := k
    refine zr_iast dX12_solves_16 (hS.has (a := 111) rfl rfl) hi1 ?_
    refine zr_iinc (v := (v3 + 1)) dX12_solves_17 rfl rfl (Nat.le_of_ble_eq_true rfl) rfl ?_
    refine zr_goto (tgt := 2) dX12_solves_20 (by decide) ?_
    exact k
set_option maxHeartbeats 2000000 in
theorem vX12_solves_25 {G : Gp} {bc bs : Nat} {Q : zPost} {S : zSh} {I : zFI} {L : zFL} {v1 : Int32} {v2 : Int32} {v3 : Int32} (hS : zStd S)  (k : (((I 84 43) ≤ v3 → ZW G mX12_solves fX12_solves lX12_solves 58 [zo G 84, .int v1, .int v2, .int (1 : Int32)] [] S (u2 (u2 I 84 50 v1) 84 51 v2) L bc bs Q) ∧ (¬ (I 84 43) ≤ v3 → vp_in v3 48 ∧ ZW G mX12_solves fX12_solves lX12_solves 25 [zo G 84, .int v1, .int v2, .int (v3 + 1)] [] S (u2 I 112 v3.toNatClampNeg (-1 : Int32)) L bc bs Q))) : ZW G mX12_solves fX12_solves lX12_solves 25 [zo G 84, .int v1, .int v2, .int v3] [] S I L bc bs Q := by
  refine zr_iload_n dX12_solves_25 rfl rfl ?_
  refine zr_aload_n dX12_solves_26 rfl rfl ?_
  refine zr_getIv (x := (I 84 43)) dX12_solves_27 zf_X12_334 rfl (hS.has (a := 84) rfl rfl) rfl ?_
  refine zr_icge (tgt := 46) dX12_solves_30 (by decide) (fun hb => ?_) (fun hb => ?_)
  · have k := k.1 hb
    refine zr_aload_n dX12_solves_46 rfl rfl ?_
    refine zr_iload_n dX12_solves_47 rfl rfl ?_
    refine zr_putI dX12_solves_48 zf_X12_337 rfl (hS.has (a := 84) rfl rfl) rfl rfl ?_
    refine zr_aload_n dX12_solves_51 rfl rfl ?_
    refine zr_iload_n dX12_solves_52 rfl rfl ?_
    refine zr_putI dX12_solves_53 zf_X12_340 rfl (hS.has (a := 84) rfl rfl) rfl rfl ?_
    refine zr_iconst (v := 1) dX12_solves_56 (by decide) ?_
    refine zr_istore_n dX12_solves_57 rfl (Nat.le_of_ble_eq_true rfl) rfl ?_
    exact k
  · have k := k.2 hb
    refine zr_aload_n dX12_solves_33 rfl rfl ?_
    refine zr_getR dX12_solves_34 zf_X12_99 rfl (hS.has (a := 84) rfl rfl) (hS.ref (a := 112) rfl) ?_
    refine zr_iload_n dX12_solves_37 rfl rfl ?_
    refine zr_iconst (v := -1) dX12_solves_38 (by decide) ?_
    obtain ⟨hi2, k⟩ := k
    refine zr_iast dX12_solves_39 (hS.has (a := 112) rfl rfl) hi2 ?_
    refine zr_iinc (v := (v3 + 1)) dX12_solves_40 rfl rfl (Nat.le_of_ble_eq_true rfl) rfl ?_
    refine zr_goto (tgt := 25) dX12_solves_43 (by decide) ?_
    exact k
set_option maxHeartbeats 2000000 in
theorem vX12_solves_58 {G : Gp} {bc bs : Nat} {Q : zPost} {S : zSh} {I : zFI} {L : zFL} {v1 : Int32} {v2 : Int32} {v3 : Int32} (hS : zStd S)  (k : ((v3 = 0 → Q none S I L) ∧ (¬ v3 = 0 → ZC G mX12_grows fX12_grows lX12_grows [zo G 84] S I L 0 0 (fun w S' I1 L1 => ∃ r1 : Int32, w = some (.int r1) ∧ S = S' ∧ ZW G mX12_solves fX12_solves lX12_solves 58 [zo G 84, .int v1, .int v2, .int r1] [] S I1 L1 bc bs Q)))) : ZW G mX12_solves fX12_solves lX12_solves 58 [zo G 84, .int v1, .int v2, .int v3] [] S I L bc bs Q := by
  refine zr_iload_n dX12_solves_58 rfl rfl ?_
  refine zr_ifeq (tgt := 70) dX12_solves_59 (by decide) (fun hb => ?_) (fun hb => ?_)
  · have k := k.1 hb
    exact zr_return_ dX12_solves_70 rfl k
  · have k := k.2 hb
    refine zr_aload_n dX12_solves_62 rfl rfl ?_
    refine zr_callV (As := []) (fr' := fX12_grows) (lo' := lX12_grows) (bc' := 0) (bs' := 0) (bcr := bc) (bsr := bs) dX12_solves_63 zs_X12_347 zi_X12_grows zcl_12 (hS.has (a := 84) rfl rfl) rfl rfl (Nat.le_of_ble_eq_true rfl) (Nat.le_of_ble_eq_true rfl) (Nat.le_of_ble_eq_true rfl) (Nat.le_refl _) (Nat.le_refl _) ?_
    refine ZC.mono (fun w S' I1 L1 k => ?_) k
    obtain ⟨r1, rfl, rfl, k⟩ := k
    show ZW G mX12_solves fX12_solves lX12_solves 66 [zo G 84, .int v1, .int v2, .int v3] [.int r1] S I1 L1 bc bs Q
    refine zr_istore_n dX12_solves_66 rfl (Nat.le_of_ble_eq_true rfl) rfl ?_
    refine zr_goto (tgt := 58) dX12_solves_67 (by decide) ?_
    exact k
set_option maxHeartbeats 2000000 in
theorem vX12_findJoin_0 {G : Gp} {bc bs : Nat} {Q : zPost} {S : zSh} {I : zFI} {L : zFL} {v1 : Int32} (hS : zStd S)  (k : ZC G mX12_findRows fX12_findRows lX12_findRows [zo G 84, .int v1] S I L 0 0 (fun w S' I1 L1 => w = none ∧ S = S' ∧ ZC G mX12_solves fX12_solves lX12_solves [zo G 84, .int (0 : Int32), .int (0 : Int32)] S I1 L1 0 0 (fun w S' I2 L2 => w = none ∧ S = S' ∧ ZW G mX12_findJoin fX12_findJoin lX12_findJoin 30 [zo G 84, .int v1, .int (I2 84 50), .int (I2 84 51), .int (0 : Int32), .int (0 : Int32), .int (0 : Int32), .null, .null, .null] [] S I2 L2 bc bs Q))) : ZW G mX12_findJoin fX12_findJoin lX12_findJoin 0 [zo G 84, .int v1, .null, .null, .null, .null, .null, .null, .null, .null] [] S I L bc bs Q := by
  refine zr_aload_n dX12_findJoin_0 rfl rfl ?_
  refine zr_iload_n dX12_findJoin_1 rfl rfl ?_
  refine zr_callV (As := [.int v1]) (fr' := fX12_findRows) (lo' := lX12_findRows) (bc' := 0) (bs' := 0) (bcr := bc) (bsr := bs) dX12_findJoin_2 zs_X12_351 zi_X12_findRows zcl_12 (hS.has (a := 84) rfl rfl) rfl rfl (Nat.le_of_ble_eq_true rfl) (Nat.le_of_ble_eq_true rfl) (Nat.le_of_ble_eq_true rfl) (Nat.le_refl _) (Nat.le_refl _) ?_
  refine ZC.mono (fun w S' I1 L1 k => ?_) k
  obtain ⟨rfl, rfl, k⟩ := k
  show ZW G mX12_findJoin fX12_findJoin lX12_findJoin 5 [zo G 84, .int v1, .null, .null, .null, .null, .null, .null, .null, .null] [] S I1 L1 bc bs Q
  refine zr_aload_n dX12_findJoin_5 rfl rfl ?_
  refine zr_iconst (v := 0) dX12_findJoin_6 (by decide) ?_
  refine zr_iconst (v := 0) dX12_findJoin_7 (by decide) ?_
  refine zr_callV (As := [.int (0 : Int32), .int (0 : Int32)]) (fr' := fX12_solves) (lo' := lX12_solves) (bc' := 0) (bs' := 0) (bcr := bc) (bsr := bs) dX12_findJoin_8 zs_X12_354 zi_X12_solves zcl_12 (hS.has (a := 84) rfl rfl) rfl rfl (Nat.le_of_ble_eq_true rfl) (Nat.le_of_ble_eq_true rfl) (Nat.le_of_ble_eq_true rfl) (Nat.le_refl _) (Nat.le_refl _) ?_
  refine ZC.mono (fun w S' I2 L2 k => ?_) k
  obtain ⟨rfl, rfl, k⟩ := k
  show ZW G mX12_findJoin fX12_findJoin lX12_findJoin 11 [zo G 84, .int v1, .null, .null, .null, .null, .null, .null, .null, .null] [] S I2 L2 bc bs Q
  refine zr_aload_n dX12_findJoin_11 rfl rfl ?_
  refine zr_getIv (x := (I2 84 50)) dX12_findJoin_12 zf_X12_337 rfl (hS.has (a := 84) rfl rfl) rfl ?_
  refine zr_istore_n dX12_findJoin_15 rfl (Nat.le_of_ble_eq_true rfl) rfl ?_
  refine zr_aload_n dX12_findJoin_16 rfl rfl ?_
  refine zr_getIv (x := (I2 84 51)) dX12_findJoin_17 zf_X12_340 rfl (hS.has (a := 84) rfl rfl) rfl ?_
  refine zr_istore_n dX12_findJoin_20 rfl (Nat.le_of_ble_eq_true rfl) rfl ?_
  refine zr_iconst (v := 0) dX12_findJoin_21 (by decide) ?_
  refine zr_istore dX12_findJoin_22 (Nat.le_of_ble_eq_true rfl) rfl ?_
  refine zr_iconst (v := 0) dX12_findJoin_24 (by decide) ?_
  refine zr_istore dX12_findJoin_25 (Nat.le_of_ble_eq_true rfl) rfl ?_
  refine zr_iconst (v := 0) dX12_findJoin_27 (by decide) ?_
  refine zr_istore dX12_findJoin_28 (Nat.le_of_ble_eq_true rfl) rfl ?_
  exact k
set_option maxHeartbeats 2000000 in
theorem vX12_findJoin_30 {G : Gp} {bc bs : Nat} {Q : zPost} {S : zSh} {I : zFI} {L : zFL} {v1 : Int32} {v2 : Int32} {v3 : Int32} {v4 : Int32} {v5 : Int32} {v6 : Int32} (hS : zStd S)  (k : (((I 84 42) ≤ v6 → ZW G mX12_findJoin fX12_findJoin lX12_findJoin 197 [zo G 84, .int v1, .int v2, .int v3, .int v4, .int v5, .int (0 : Int32), .null, .null, .null] [] S I L bc bs Q) ∧ (¬ (I 84 42) ≤ v6 → vp_in v6 48 ∧ ZW G mX12_findJoin fX12_findJoin lX12_findJoin 58 [zo G 84, .int v1, .int v2, .int v3, .int v4, .int v5, .int v6, .int (0 : Int32), .null, .null] [] S (u2 (u2 I 114 v6.toNatClampNeg (1 : Int32)) 113 v6.toNatClampNeg (-1 : Int32)) L bc bs Q))) : ZW G mX12_findJoin fX12_findJoin lX12_findJoin 30 [zo G 84, .int v1, .int v2, .int v3, .int v4, .int v5, .int v6, .null, .null, .null] [] S I L bc bs Q := by
  refine zr_iload dX12_findJoin_30 rfl ?_
  refine zr_aload_n dX12_findJoin_32 rfl rfl ?_
  refine zr_getIv (x := (I 84 42)) dX12_findJoin_33 zf_X12_331 rfl (hS.has (a := 84) rfl rfl) rfl ?_
  refine zr_icge (tgt := 194) dX12_findJoin_36 (by decide) (fun hb => ?_) (fun hb => ?_)
  · have k := k.1 hb
    refine zr_iconst (v := 0) dX12_findJoin_194 (by decide) ?_
    refine zr_istore dX12_findJoin_195 (Nat.le_of_ble_eq_true rfl) rfl ?_
    exact k
  · have k := k.2 hb
    refine zr_aload_n dX12_findJoin_39 rfl rfl ?_
    refine zr_getR dX12_findJoin_40 zf_X12_105 rfl (hS.has (a := 84) rfl rfl) (hS.ref (a := 114) rfl) ?_
    refine zr_iload dX12_findJoin_43 rfl ?_
    refine zr_iconst (v := 1) dX12_findJoin_45 (by decide) ?_
    obtain ⟨hi1, k⟩ := k
    refine zr_zast dX12_findJoin_46 (hS.has (a := 114) rfl rfl) hi1 rfl ?_
    refine zr_aload_n dX12_findJoin_47 rfl rfl ?_
    refine zr_getR dX12_findJoin_48 zf_X12_102 rfl (hS.has (a := 84) rfl rfl) (hS.ref (a := 113) rfl) ?_
    refine zr_iload dX12_findJoin_51 rfl ?_
    refine zr_iconst (v := -1) dX12_findJoin_53 (by decide) ?_
    refine zr_iast dX12_findJoin_54 (hS.has (a := 113) rfl rfl) hi1 ?_
    refine zr_iconst (v := 0) dX12_findJoin_55 (by decide) ?_
    refine zr_istore dX12_findJoin_56 (Nat.le_of_ble_eq_true rfl) rfl ?_
    exact k
set_option maxHeartbeats 2000000 in
theorem vX12_findJoin_58 {G : Gp} {bc bs : Nat} {Q : zPost} {S : zSh} {I : zFI} {L : zFL} {v1 : Int32} {v2 : Int32} {v3 : Int32} {v4 : Int32} {v5 : Int32} {v6 : Int32} {v7 : Int32} (hS : zStd S)  (k : (((I 84 43) ≤ v7 → ZW G mX12_findJoin fX12_findJoin lX12_findJoin 30 [zo G 84, .int v1, .int v2, .int v3, .int v4, .int v5, .int (v6 + 1), .null, .null, .null] [] S I L bc bs Q) ∧ (¬ (I 84 43) ≤ v7 → vp_in v6 48 ∧ ((¬ (I 113 v6.toNatClampNeg) = (-1 : Int32) → ZW G mX12_findJoin fX12_findJoin lX12_findJoin 30 [zo G 84, .int v1, .int v2, .int v3, .int v4, .int v5, .int (v6 + 1), .null, .null, .null] [] S I L bc bs Q) ∧ ((I 113 v6.toNatClampNeg) = (-1 : Int32) → vp_in (((48 : Int32) * v6) + v7) 2304 ∧ (((I 110 (((48 : Int32) * v6) + v7).toNatClampNeg) = (-1 : Int32) → ZW G mX12_findJoin fX12_findJoin lX12_findJoin 58 [zo G 84, .int v1, .int v2, .int v3, .int v4, .int v5, .int v6, .int (v7 + 1), .null, .null] [] S I L bc bs Q) ∧ (¬ (I 110 (((48 : Int32) * v6) + v7).toNatClampNeg) = (-1 : Int32) → vp_in v7 48 ∧ (((I 115 v7.toNatClampNeg) = 0 → ZC G mX12_solves fX12_solves lX12_solves [zo G 84, .int (v4 + (1 : Int32)), .int (v5 + (I 110 (((48 : Int32) * v6) + v7).toNatClampNeg))] S (u2 I 115 v7.toNatClampNeg (1 : Int32)) L 0 0 (fun w S' I1 L1 => w = none ∧ S = S' ∧ ((¬ (I1 84 50) = v2 → ZW G mX12_findJoin fX12_findJoin lX12_findJoin 58 [zo G 84, .int v1, .int v2, .int v3, .int v4, .int v5, .int v6, .int (v7 + 1), .null, .null] [] S (u2 I1 115 v7.toNatClampNeg (0 : Int32)) L1 bc bs Q) ∧ ((I1 84 50) = v2 → ((¬ (I1 84 51) = v3 → ZW G mX12_findJoin fX12_findJoin lX12_findJoin 58 [zo G 84, .int v1, .int v2, .int v3, .int v4, .int v5, .int v6, .int (v7 + 1), .null, .null] [] S (u2 I1 115 v7.toNatClampNeg (0 : Int32)) L1 bc bs Q) ∧ ((I1 84 51) = v3 → ZW G mX12_findJoin fX12_findJoin lX12_findJoin 58 [zo G 84, .int v1, .int v2, .int v3, .int (v4 + (1 : Int32)), .int (v5 + (I 110 (((48 : Int32) * v6) + v7).toNatClampNeg)), .int v6, .int (v7 + 1), .null, .null] [] S (u2 I1 113 v6.toNatClampNeg v7) L1 bc bs Q)))))) ∧ (¬ (I 115 v7.toNatClampNeg) = 0 → ZW G mX12_findJoin fX12_findJoin lX12_findJoin 58 [zo G 84, .int v1, .int v2, .int v3, .int v4, .int v5, .int v6, .int (v7 + 1), .null, .null] [] S I L bc bs Q))))))))) : ZW G mX12_findJoin fX12_findJoin lX12_findJoin 58 [zo G 84, .int v1, .int v2, .int v3, .int v4, .int v5, .int v6, .int v7, .null, .null] [] S I L bc bs Q := by
  refine zr_iload dX12_findJoin_58 rfl ?_
  refine zr_aload_n dX12_findJoin_60 rfl rfl ?_
  refine zr_getIv (x := (I 84 43)) dX12_findJoin_61 zf_X12_334 rfl (hS.has (a := 84) rfl rfl) rfl ?_
  refine zr_icge (tgt := 188) dX12_findJoin_64 (by decide) (fun hb => ?_) (fun hb => ?_)
  · have k := k.1 hb
    refine zr_iinc (v := (v6 + 1)) dX12_findJoin_188 rfl rfl (Nat.le_of_ble_eq_true rfl) rfl ?_
    refine zr_goto (tgt := 30) dX12_findJoin_191 (by decide) ?_
    exact zr_mask [true, true, true, true, true, true, true, false, false, false] rfl k
  · have k := k.2 hb
    refine zr_aload_n dX12_findJoin_67 rfl rfl ?_
    refine zr_getR dX12_findJoin_68 zf_X12_102 rfl (hS.has (a := 84) rfl rfl) (hS.ref (a := 113) rfl) ?_
    refine zr_iload dX12_findJoin_71 rfl ?_
    obtain ⟨hi2, k⟩ := k
    refine zr_ialdv (x := (I 113 v6.toNatClampNeg)) dX12_findJoin_73 (hS.has (a := 113) rfl rfl) hi2 rfl ?_
    refine zr_iconst (v := -1) dX12_findJoin_74 (by decide) ?_
    refine zr_icne (tgt := 188) dX12_findJoin_75 (by decide) (fun hb => ?_) (fun hb => ?_)
    · have k := k.1 hb
      refine zr_iinc (v := (v6 + 1)) dX12_findJoin_188 rfl rfl (Nat.le_of_ble_eq_true rfl) rfl ?_
      refine zr_goto (tgt := 30) dX12_findJoin_191 (by decide) ?_
      exact zr_mask [true, true, true, true, true, true, true, false, false, false] rfl k
    · have k := k.2 hb
      refine zr_aload_n dX12_findJoin_78 rfl rfl ?_
      refine zr_getR dX12_findJoin_79 zf_X12_93 rfl (hS.has (a := 84) rfl rfl) (hS.ref (a := 110) rfl) ?_
      refine zr_bipush (v := 48) dX12_findJoin_82 (by decide) ?_
      refine zr_iload dX12_findJoin_84 rfl ?_
      refine zr_imul dX12_findJoin_86 ?_
      refine zr_iload dX12_findJoin_87 rfl ?_
      refine zr_iadd dX12_findJoin_89 ?_
      obtain ⟨hi3, k⟩ := k
      refine zr_ialdv (x := (I 110 (((48 : Int32) * v6) + v7).toNatClampNeg)) dX12_findJoin_90 (hS.has (a := 110) rfl rfl) hi3 rfl ?_
      refine zr_istore dX12_findJoin_91 (Nat.le_of_ble_eq_true rfl) rfl ?_
      refine zr_iload dX12_findJoin_93 rfl ?_
      refine zr_iconst (v := -1) dX12_findJoin_95 (by decide) ?_
      refine zr_iceq (tgt := 182) dX12_findJoin_96 (by decide) (fun hb => ?_) (fun hb => ?_)
      · have k := k.1 hb
        refine zr_iinc (v := (v7 + 1)) dX12_findJoin_182 rfl rfl (Nat.le_of_ble_eq_true rfl) rfl ?_
        refine zr_goto (tgt := 58) dX12_findJoin_185 (by decide) ?_
        exact zr_mask [true, true, true, true, true, true, true, true, false, false] rfl k
      · have k := k.2 hb
        refine zr_aload_n dX12_findJoin_99 rfl rfl ?_
        refine zr_getR dX12_findJoin_100 zf_X12_108 rfl (hS.has (a := 84) rfl rfl) (hS.ref (a := 115) rfl) ?_
        refine zr_iload dX12_findJoin_103 rfl ?_
        obtain ⟨hi4, k⟩ := k
        refine zr_zaldv (x := (I 115 v7.toNatClampNeg)) dX12_findJoin_105 (hS.has (a := 115) rfl rfl) hi4 rfl ?_
        refine zr_ifeq (tgt := 112) dX12_findJoin_106 (by decide) (fun hb => ?_) (fun hb => ?_)
        · have k := k.1 hb
          refine zr_aload_n dX12_findJoin_112 rfl rfl ?_
          refine zr_getR dX12_findJoin_113 zf_X12_108 rfl (hS.has (a := 84) rfl rfl) (hS.ref (a := 115) rfl) ?_
          refine zr_iload dX12_findJoin_116 rfl ?_
          refine zr_iconst (v := 1) dX12_findJoin_118 (by decide) ?_
          refine zr_zast dX12_findJoin_119 (hS.has (a := 115) rfl rfl) hi4 rfl ?_
          refine zr_aload_n dX12_findJoin_120 rfl rfl ?_
          refine zr_iload dX12_findJoin_121 rfl ?_
          refine zr_iconst (v := 1) dX12_findJoin_123 (by decide) ?_
          refine zr_iadd dX12_findJoin_124 ?_
          refine zr_iload dX12_findJoin_125 rfl ?_
          refine zr_iload dX12_findJoin_127 rfl ?_
          refine zr_iadd dX12_findJoin_129 ?_
          refine zr_callV (As := [.int (v4 + (1 : Int32)), .int (v5 + (I 110 (((48 : Int32) * v6) + v7).toNatClampNeg))]) (fr' := fX12_solves) (lo' := lX12_solves) (bc' := 0) (bs' := 0) (bcr := bc) (bsr := bs) dX12_findJoin_130 zs_X12_354 zi_X12_solves zcl_12 (hS.has (a := 84) rfl rfl) rfl rfl (Nat.le_of_ble_eq_true rfl) (Nat.le_of_ble_eq_true rfl) (Nat.le_of_ble_eq_true rfl) (Nat.le_refl _) (Nat.le_refl _) ?_
          refine ZC.mono (fun w S' I1 L1 k => ?_) k
          obtain ⟨rfl, rfl, k⟩ := k
          show ZW G mX12_findJoin fX12_findJoin lX12_findJoin 133 [zo G 84, .int v1, .int v2, .int v3, .int v4, .int v5, .int v6, .int v7, .int (I 110 (((48 : Int32) * v6) + v7).toNatClampNeg), .null] [] S I1 L1 bc bs Q
          refine zr_aload_n dX12_findJoin_133 rfl rfl ?_
          refine zr_getIv (x := (I1 84 50)) dX12_findJoin_134 zf_X12_337 rfl (hS.has (a := 84) rfl rfl) rfl ?_
          refine zr_iload_n dX12_findJoin_137 rfl rfl ?_
          refine zr_icne (tgt := 174) dX12_findJoin_138 (by decide) (fun hb => ?_) (fun hb => ?_)
          · have k := k.1 hb
            refine zr_aload_n dX12_findJoin_174 rfl rfl ?_
            refine zr_getR dX12_findJoin_175 zf_X12_108 rfl (hS.has (a := 84) rfl rfl) (hS.ref (a := 115) rfl) ?_
            refine zr_iload dX12_findJoin_178 rfl ?_
            refine zr_iconst (v := 0) dX12_findJoin_180 (by decide) ?_
            refine zr_zast dX12_findJoin_181 (hS.has (a := 115) rfl rfl) hi4 rfl ?_
            refine zr_iinc (v := (v7 + 1)) dX12_findJoin_182 rfl rfl (Nat.le_of_ble_eq_true rfl) rfl ?_
            refine zr_goto (tgt := 58) dX12_findJoin_185 (by decide) ?_
            exact zr_mask [true, true, true, true, true, true, true, true, false, false] rfl k
          · have k := k.2 hb
            refine zr_aload_n dX12_findJoin_141 rfl rfl ?_
            refine zr_getIv (x := (I1 84 51)) dX12_findJoin_142 zf_X12_340 rfl (hS.has (a := 84) rfl rfl) rfl ?_
            refine zr_iload_n dX12_findJoin_145 rfl rfl ?_
            refine zr_icne (tgt := 174) dX12_findJoin_146 (by decide) (fun hb => ?_) (fun hb => ?_)
            · have k := k.1 hb
              refine zr_aload_n dX12_findJoin_174 rfl rfl ?_
              refine zr_getR dX12_findJoin_175 zf_X12_108 rfl (hS.has (a := 84) rfl rfl) (hS.ref (a := 115) rfl) ?_
              refine zr_iload dX12_findJoin_178 rfl ?_
              refine zr_iconst (v := 0) dX12_findJoin_180 (by decide) ?_
              refine zr_zast dX12_findJoin_181 (hS.has (a := 115) rfl rfl) hi4 rfl ?_
              refine zr_iinc (v := (v7 + 1)) dX12_findJoin_182 rfl rfl (Nat.le_of_ble_eq_true rfl) rfl ?_
              refine zr_goto (tgt := 58) dX12_findJoin_185 (by decide) ?_
              exact zr_mask [true, true, true, true, true, true, true, true, false, false] rfl k
            · have k := k.2 hb
              refine zr_aload_n dX12_findJoin_149 rfl rfl ?_
              refine zr_getR dX12_findJoin_150 zf_X12_102 rfl (hS.has (a := 84) rfl rfl) (hS.ref (a := 113) rfl) ?_
              refine zr_iload dX12_findJoin_153 rfl ?_
              refine zr_iload dX12_findJoin_155 rfl ?_
              refine zr_iast dX12_findJoin_157 (hS.has (a := 113) rfl rfl) hi2 ?_
              refine zr_iload dX12_findJoin_158 rfl ?_
              refine zr_iconst (v := 1) dX12_findJoin_160 (by decide) ?_
              refine zr_iadd dX12_findJoin_161 ?_
              refine zr_istore dX12_findJoin_162 (Nat.le_of_ble_eq_true rfl) rfl ?_
              refine zr_iload dX12_findJoin_164 rfl ?_
              refine zr_iload dX12_findJoin_166 rfl ?_
              refine zr_iadd dX12_findJoin_168 ?_
              refine zr_istore dX12_findJoin_169 (Nat.le_of_ble_eq_true rfl) rfl ?_
              refine zr_goto (tgt := 182) dX12_findJoin_171 (by decide) ?_
              refine zr_iinc (v := (v7 + 1)) dX12_findJoin_182 rfl rfl (Nat.le_of_ble_eq_true rfl) rfl ?_
              refine zr_goto (tgt := 58) dX12_findJoin_185 (by decide) ?_
              exact zr_mask [true, true, true, true, true, true, true, true, false, false] rfl k
        · have k := k.2 hb
          refine zr_goto (tgt := 182) dX12_findJoin_109 (by decide) ?_
          refine zr_iinc (v := (v7 + 1)) dX12_findJoin_182 rfl rfl (Nat.le_of_ble_eq_true rfl) rfl ?_
          refine zr_goto (tgt := 58) dX12_findJoin_185 (by decide) ?_
          exact zr_mask [true, true, true, true, true, true, true, true, false, false] rfl k
set_option maxHeartbeats 2000000 in
theorem vX12_findJoin_197 {G : Gp} {bc bs : Nat} {Q : zPost} {S : zSh} {I : zFI} {L : zFL} {v1 : Int32} {v2 : Int32} {v3 : Int32} {v4 : Int32} {v5 : Int32} {v6 : Int32} (hS : zStd S)  (k : (((I 84 42) ≤ v6 → ZW G mX12_findJoin fX12_findJoin lX12_findJoin 223 [zo G 84, .int v1, .int v2, .int v3, .int v4, .int v5, .int (0 : Int32), .null, .null, .null] [] S I L bc bs Q) ∧ (¬ (I 84 42) ≤ v6 → vp_in v6 48 ∧ ZW G mX12_findJoin fX12_findJoin lX12_findJoin 197 [zo G 84, .int v1, .int v2, .int v3, .int v4, .int v5, .int (v6 + 1), .null, .null, .null] [] S (u2 I 114 v6.toNatClampNeg (0 : Int32)) L bc bs Q))) : ZW G mX12_findJoin fX12_findJoin lX12_findJoin 197 [zo G 84, .int v1, .int v2, .int v3, .int v4, .int v5, .int v6, .null, .null, .null] [] S I L bc bs Q := by
  refine zr_iload dX12_findJoin_197 rfl ?_
  refine zr_aload_n dX12_findJoin_199 rfl rfl ?_
  refine zr_getIv (x := (I 84 42)) dX12_findJoin_200 zf_X12_331 rfl (hS.has (a := 84) rfl rfl) rfl ?_
  refine zr_icge (tgt := 220) dX12_findJoin_203 (by decide) (fun hb => ?_) (fun hb => ?_)
  · have k := k.1 hb
    refine zr_iconst (v := 0) dX12_findJoin_220 (by decide) ?_
    refine zr_istore dX12_findJoin_221 (Nat.le_of_ble_eq_true rfl) rfl ?_
    exact k
  · have k := k.2 hb
    refine zr_aload_n dX12_findJoin_206 rfl rfl ?_
    refine zr_getR dX12_findJoin_207 zf_X12_105 rfl (hS.has (a := 84) rfl rfl) (hS.ref (a := 114) rfl) ?_
    refine zr_iload dX12_findJoin_210 rfl ?_
    refine zr_iconst (v := 0) dX12_findJoin_212 (by decide) ?_
    obtain ⟨hi5, k⟩ := k
    refine zr_zast dX12_findJoin_213 (hS.has (a := 114) rfl rfl) hi5 rfl ?_
    refine zr_iinc (v := (v6 + 1)) dX12_findJoin_214 rfl rfl (Nat.le_of_ble_eq_true rfl) rfl ?_
    refine zr_goto (tgt := 197) dX12_findJoin_217 (by decide) ?_
    exact k
set_option maxHeartbeats 2000000 in
theorem vX12_findJoin_223 {G : Gp} {bc bs : Nat} {Q : zPost} {S : zSh} {I : zFI} {L : zFL} {v1 : Int32} {v2 : Int32} {v3 : Int32} {v4 : Int32} {v5 : Int32} {v6 : Int32} (hS : zStd S)  (k : (((I 84 43) ≤ v6 → ZW G mX12_findJoin fX12_findJoin lX12_findJoin 249 [zo G 84, .int v1, .int v2, .int v3, .int v4, .int v5, .int (0 : Int32), .null, .null, .null] [] S I L bc bs Q) ∧ (¬ (I 84 43) ≤ v6 → vp_in v6 48 ∧ ZW G mX12_findJoin fX12_findJoin lX12_findJoin 223 [zo G 84, .int v1, .int v2, .int v3, .int v4, .int v5, .int (v6 + 1), .null, .null, .null] [] S (u2 I 115 v6.toNatClampNeg (0 : Int32)) L bc bs Q))) : ZW G mX12_findJoin fX12_findJoin lX12_findJoin 223 [zo G 84, .int v1, .int v2, .int v3, .int v4, .int v5, .int v6, .null, .null, .null] [] S I L bc bs Q := by
  refine zr_iload dX12_findJoin_223 rfl ?_
  refine zr_aload_n dX12_findJoin_225 rfl rfl ?_
  refine zr_getIv (x := (I 84 43)) dX12_findJoin_226 zf_X12_334 rfl (hS.has (a := 84) rfl rfl) rfl ?_
  refine zr_icge (tgt := 246) dX12_findJoin_229 (by decide) (fun hb => ?_) (fun hb => ?_)
  · have k := k.1 hb
    refine zr_iconst (v := 0) dX12_findJoin_246 (by decide) ?_
    refine zr_istore dX12_findJoin_247 (Nat.le_of_ble_eq_true rfl) rfl ?_
    exact k
  · have k := k.2 hb
    refine zr_aload_n dX12_findJoin_232 rfl rfl ?_
    refine zr_getR dX12_findJoin_233 zf_X12_108 rfl (hS.has (a := 84) rfl rfl) (hS.ref (a := 115) rfl) ?_
    refine zr_iload dX12_findJoin_236 rfl ?_
    refine zr_iconst (v := 0) dX12_findJoin_238 (by decide) ?_
    obtain ⟨hi6, k⟩ := k
    refine zr_zast dX12_findJoin_239 (hS.has (a := 115) rfl rfl) hi6 rfl ?_
    refine zr_iinc (v := (v6 + 1)) dX12_findJoin_240 rfl rfl (Nat.le_of_ble_eq_true rfl) rfl ?_
    refine zr_goto (tgt := 223) dX12_findJoin_243 (by decide) ?_
    exact k
set_option maxHeartbeats 2000000 in
theorem vX12_findJoin_249 {G : Gp} {bc bs : Nat} {Q : zPost} {S : zSh} {I : zFI} {L : zFL} {v1 : Int32} {v2 : Int32} {v3 : Int32} {v4 : Int32} {v5 : Int32} {v6 : Int32} (hS : zStd S)  (k : (((I 84 13) ≤ v6 → vp_in v1 2 ∧ ZW G mX12_findJoin fX12_findJoin lX12_findJoin 314 [zo G 84, .int v1, .int v2, .int v3, .int v4, .int v5, .int (0 : Int32), .null, .null, .null] [] S (u2 (u2 (u2 I 121 v1.toNatClampNeg v2) 122 v1.toNatClampNeg v3) 123 v1.toNatClampNeg (0 : Int32)) L bc bs Q) ∧ (¬ (I 84 13) ≤ v6 → vp_in (((48 : Int32) * v1) + v6) 96 ∧ ZW G mX12_findJoin fX12_findJoin lX12_findJoin 249 [zo G 84, .int v1, .int v2, .int v3, .int v4, .int v5, .int (v6 + 1), .null, .null, .null] [] S (u2 (u2 I 119 (((48 : Int32) * v1) + v6).toNatClampNeg (-1 : Int32)) 120 (((48 : Int32) * v1) + v6).toNatClampNeg (0 : Int32)) L bc bs Q))) : ZW G mX12_findJoin fX12_findJoin lX12_findJoin 249 [zo G 84, .int v1, .int v2, .int v3, .int v4, .int v5, .int v6, .null, .null, .null] [] S I L bc bs Q := by
  refine zr_iload dX12_findJoin_249 rfl ?_
  refine zr_aload_n dX12_findJoin_251 rfl rfl ?_
  refine zr_getIv (x := (I 84 13)) dX12_findJoin_252 zf_X12_198 rfl (hS.has (a := 84) rfl rfl) rfl ?_
  refine zr_icge (tgt := 290) dX12_findJoin_255 (by decide) (fun hb => ?_) (fun hb => ?_)
  · have k := k.1 hb
    refine zr_aload_n dX12_findJoin_290 rfl rfl ?_
    refine zr_getR dX12_findJoin_291 zf_X12_132 rfl (hS.has (a := 84) rfl rfl) (hS.ref (a := 121) rfl) ?_
    refine zr_iload_n dX12_findJoin_294 rfl rfl ?_
    refine zr_iload_n dX12_findJoin_295 rfl rfl ?_
    obtain ⟨hi7, k⟩ := k
    refine zr_iast dX12_findJoin_296 (hS.has (a := 121) rfl rfl) hi7 ?_
    refine zr_aload_n dX12_findJoin_297 rfl rfl ?_
    refine zr_getR dX12_findJoin_298 zf_X12_135 rfl (hS.has (a := 84) rfl rfl) (hS.ref (a := 122) rfl) ?_
    refine zr_iload_n dX12_findJoin_301 rfl rfl ?_
    refine zr_iload_n dX12_findJoin_302 rfl rfl ?_
    refine zr_iast dX12_findJoin_303 (hS.has (a := 122) rfl rfl) hi7 ?_
    refine zr_aload_n dX12_findJoin_304 rfl rfl ?_
    refine zr_getR dX12_findJoin_305 zf_X12_138 rfl (hS.has (a := 84) rfl rfl) (hS.ref (a := 123) rfl) ?_
    refine zr_iload_n dX12_findJoin_308 rfl rfl ?_
    refine zr_iconst (v := 0) dX12_findJoin_309 (by decide) ?_
    refine zr_iast dX12_findJoin_310 (hS.has (a := 123) rfl rfl) hi7 ?_
    refine zr_iconst (v := 0) dX12_findJoin_311 (by decide) ?_
    refine zr_istore dX12_findJoin_312 (Nat.le_of_ble_eq_true rfl) rfl ?_
    exact k
  · have k := k.2 hb
    refine zr_aload_n dX12_findJoin_258 rfl rfl ?_
    refine zr_getR dX12_findJoin_259 zf_X12_126 rfl (hS.has (a := 84) rfl rfl) (hS.ref (a := 119) rfl) ?_
    refine zr_bipush (v := 48) dX12_findJoin_262 (by decide) ?_
    refine zr_iload_n dX12_findJoin_264 rfl rfl ?_
    refine zr_imul dX12_findJoin_265 ?_
    refine zr_iload dX12_findJoin_266 rfl ?_
    refine zr_iadd dX12_findJoin_268 ?_
    refine zr_iconst (v := -1) dX12_findJoin_269 (by decide) ?_
    obtain ⟨hi8, k⟩ := k
    refine zr_iast dX12_findJoin_270 (hS.has (a := 119) rfl rfl) hi8 ?_
    refine zr_aload_n dX12_findJoin_271 rfl rfl ?_
    refine zr_getR dX12_findJoin_272 zf_X12_129 rfl (hS.has (a := 84) rfl rfl) (hS.ref (a := 120) rfl) ?_
    refine zr_bipush (v := 48) dX12_findJoin_275 (by decide) ?_
    refine zr_iload_n dX12_findJoin_277 rfl rfl ?_
    refine zr_imul dX12_findJoin_278 ?_
    refine zr_iload dX12_findJoin_279 rfl ?_
    refine zr_iadd dX12_findJoin_281 ?_
    refine zr_iconst (v := 0) dX12_findJoin_282 (by decide) ?_
    refine zr_zast dX12_findJoin_283 (hS.has (a := 120) rfl rfl) hi8 rfl ?_
    refine zr_iinc (v := (v6 + 1)) dX12_findJoin_284 rfl rfl (Nat.le_of_ble_eq_true rfl) rfl ?_
    refine zr_goto (tgt := 249) dX12_findJoin_287 (by decide) ?_
    exact k
set_option maxHeartbeats 2000000 in
theorem vX12_findJoin_314 {G : Gp} {bc bs : Nat} {Q : zPost} {S : zSh} {I : zFI} {L : zFL} {v1 : Int32} {v2 : Int32} {v3 : Int32} {v4 : Int32} {v5 : Int32} {v6 : Int32} (hS : zStd S)  (k : (((I 84 42) ≤ v6 → Q none S (u2 (u2 I 84 52 (-1 : Int32)) 84 53 (-1 : Int32)) L) ∧ (¬ (I 84 42) ≤ v6 → vp_in v6 48 ∧ ((¬ (I 113 v6.toNatClampNeg) = (-1 : Int32) → vp_in (I 113 v6.toNatClampNeg) 48 ∧ vp_in (((48 : Int32) * v1) + (I 108 v6.toNatClampNeg)) 96 ∧ vp_in (((48 : Int32) * v1) + (I 109 (I 113 v6.toNatClampNeg).toNatClampNeg)) 96 ∧ ZC G mX12_solves fX12_solves lX12_solves [zo G 84, .int (0 : Int32), .int (0 : Int32)] S (u2 (u2 (u2 (u2 I 119 (((48 : Int32) * v1) + (I 108 v6.toNatClampNeg)).toNatClampNeg (I 109 (I 113 v6.toNatClampNeg).toNatClampNeg)) 119 (((48 : Int32) * v1) + (I 109 (I 113 v6.toNatClampNeg).toNatClampNeg)).toNatClampNeg (I 108 v6.toNatClampNeg)) 84 52 v6) 84 53 (I 113 v6.toNatClampNeg)) L 0 0 (fun w S' I1 L1 => w = none ∧ S = S' ∧ ((¬ (I1 84 50) = v2 → (((1 : Int32) = 0 → ZW G mX12_findJoin fX12_findJoin lX12_findJoin 314 [zo G 84, .int v1, .int v2, .int v3, .int v4, .int v5, .int (v6 + 1), .null, .null, .null] [] S (u2 (u2 I1 120 (((48 : Int32) * v1) + (I 108 v6.toNatClampNeg)).toNatClampNeg (1 : Int32)) 120 (((48 : Int32) * v1) + (I 109 (I 113 v6.toNatClampNeg).toNatClampNeg)).toNatClampNeg (1 : Int32)) L1 bc bs Q) ∧ (¬ (1 : Int32) = 0 → vp_in v1 2 ∧ ZW G mX12_findJoin fX12_findJoin lX12_findJoin 314 [zo G 84, .int v1, .int v2, .int v3, .int v4, .int v5, .int (v6 + 1), .null, .null, .null] [] S (u2 (u2 (u2 I1 120 (((48 : Int32) * v1) + (I 108 v6.toNatClampNeg)).toNatClampNeg (1 : Int32)) 120 (((48 : Int32) * v1) + (I 109 (I 113 v6.toNatClampNeg).toNatClampNeg)).toNatClampNeg (1 : Int32)) 123 v1.toNatClampNeg ((I1 123 v1.toNatClampNeg) + (1 : Int32))) L1 bc bs Q))) ∧ ((I1 84 50) = v2 → (((I1 84 51) = v3 → (((0 : Int32) = 0 → ZW G mX12_findJoin fX12_findJoin lX12_findJoin 314 [zo G 84, .int v1, .int v2, .int v3, .int v4, .int v5, .int (v6 + 1), .null, .null, .null] [] S (u2 (u2 I1 120 (((48 : Int32) * v1) + (I 108 v6.toNatClampNeg)).toNatClampNeg (0 : Int32)) 120 (((48 : Int32) * v1) + (I 109 (I 113 v6.toNatClampNeg).toNatClampNeg)).toNatClampNeg (0 : Int32)) L1 bc bs Q) ∧ (¬ (0 : Int32) = 0 → vp_in v1 2 ∧ ZW G mX12_findJoin fX12_findJoin lX12_findJoin 314 [zo G 84, .int v1, .int v2, .int v3, .int v4, .int v5, .int (v6 + 1), .null, .null, .null] [] S (u2 (u2 (u2 I1 120 (((48 : Int32) * v1) + (I 108 v6.toNatClampNeg)).toNatClampNeg (0 : Int32)) 120 (((48 : Int32) * v1) + (I 109 (I 113 v6.toNatClampNeg).toNatClampNeg)).toNatClampNeg (0 : Int32)) 123 v1.toNatClampNeg ((I1 123 v1.toNatClampNeg) + (1 : Int32))) L1 bc bs Q))) ∧ (¬ (I1 84 51) = v3 → (((1 : Int32) = 0 → ZW G mX12_findJoin fX12_findJoin lX12_findJoin 314 [zo G 84, .int v1, .int v2, .int v3, .int v4, .int v5, .int (v6 + 1), .null, .null, .null] [] S (u2 (u2 I1 120 (((48 : Int32) * v1) + (I 108 v6.toNatClampNeg)).toNatClampNeg (1 : Int32)) 120 (((48 : Int32) * v1) + (I 109 (I 113 v6.toNatClampNeg).toNatClampNeg)).toNatClampNeg (1 : Int32)) L1 bc bs Q) ∧ (¬ (1 : Int32) = 0 → vp_in v1 2 ∧ ZW G mX12_findJoin fX12_findJoin lX12_findJoin 314 [zo G 84, .int v1, .int v2, .int v3, .int v4, .int v5, .int (v6 + 1), .null, .null, .null] [] S (u2 (u2 (u2 I1 120 (((48 : Int32) * v1) + (I 108 v6.toNatClampNeg)).toNatClampNeg (1 : Int32)) 120 (((48 : Int32) * v1) + (I 109 (I 113 v6.toNatClampNeg).toNatClampNeg)).toNatClampNeg (1 : Int32)) 123 v1.toNatClampNeg ((I1 123 v1.toNatClampNeg) + (1 : Int32))) L1 bc bs Q)))))))) ∧ ((I 113 v6.toNatClampNeg) = (-1 : Int32) → ZW G mX12_findJoin fX12_findJoin lX12_findJoin 314 [zo G 84, .int v1, .int v2, .int v3, .int v4, .int v5, .int (v6 + 1), .null, .null, .null] [] S I L bc bs Q))))) : ZW G mX12_findJoin fX12_findJoin lX12_findJoin 314 [zo G 84, .int v1, .int v2, .int v3, .int v4, .int v5, .int v6, .null, .null, .null] [] S I L bc bs Q := by
  refine zr_iload dX12_findJoin_314 rfl ?_
  refine zr_aload_n dX12_findJoin_316 rfl rfl ?_
  refine zr_getIv (x := (I 84 42)) dX12_findJoin_317 zf_X12_331 rfl (hS.has (a := 84) rfl rfl) rfl ?_
  refine zr_icge (tgt := 487) dX12_findJoin_320 (by decide) (fun hb => ?_) (fun hb => ?_)
  · have k := k.1 hb
    refine zr_aload_n dX12_findJoin_487 rfl rfl ?_
    refine zr_iconst (v := -1) dX12_findJoin_488 (by decide) ?_
    refine zr_putI dX12_findJoin_489 zf_X12_111 rfl (hS.has (a := 84) rfl rfl) rfl rfl ?_
    refine zr_aload_n dX12_findJoin_492 rfl rfl ?_
    refine zr_iconst (v := -1) dX12_findJoin_493 (by decide) ?_
    refine zr_putI dX12_findJoin_494 zf_X12_114 rfl (hS.has (a := 84) rfl rfl) rfl rfl ?_
    exact zr_return_ dX12_findJoin_497 rfl k
  · have k := k.2 hb
    refine zr_aload_n dX12_findJoin_323 rfl rfl ?_
    refine zr_getR dX12_findJoin_324 zf_X12_102 rfl (hS.has (a := 84) rfl rfl) (hS.ref (a := 113) rfl) ?_
    refine zr_iload dX12_findJoin_327 rfl ?_
    obtain ⟨hi9, k⟩ := k
    refine zr_ialdv (x := (I 113 v6.toNatClampNeg)) dX12_findJoin_329 (hS.has (a := 113) rfl rfl) hi9 rfl ?_
    refine zr_iconst (v := -1) dX12_findJoin_330 (by decide) ?_
    refine zr_icne (tgt := 337) dX12_findJoin_331 (by decide) (fun hb => ?_) (fun hb => ?_)
    · have k := k.1 hb
      refine zr_aload_n dX12_findJoin_337 rfl rfl ?_
      refine zr_getR dX12_findJoin_338 zf_X12_87 rfl (hS.has (a := 84) rfl rfl) (hS.ref (a := 108) rfl) ?_
      refine zr_iload dX12_findJoin_341 rfl ?_
      refine zr_ialdv (x := (I 108 v6.toNatClampNeg)) dX12_findJoin_343 (hS.has (a := 108) rfl rfl) hi9 rfl ?_
      refine zr_istore dX12_findJoin_344 (Nat.le_of_ble_eq_true rfl) rfl ?_
      refine zr_aload_n dX12_findJoin_346 rfl rfl ?_
      refine zr_getR dX12_findJoin_347 zf_X12_90 rfl (hS.has (a := 84) rfl rfl) (hS.ref (a := 109) rfl) ?_
      refine zr_aload_n dX12_findJoin_350 rfl rfl ?_
      refine zr_getR dX12_findJoin_351 zf_X12_102 rfl (hS.has (a := 84) rfl rfl) (hS.ref (a := 113) rfl) ?_
      refine zr_iload dX12_findJoin_354 rfl ?_
      refine zr_ialdv (x := (I 113 v6.toNatClampNeg)) dX12_findJoin_356 (hS.has (a := 113) rfl rfl) hi9 rfl ?_
      obtain ⟨hi10, k⟩ := k
      refine zr_ialdv (x := (I 109 (I 113 v6.toNatClampNeg).toNatClampNeg)) dX12_findJoin_357 (hS.has (a := 109) rfl rfl) hi10 rfl ?_
      refine zr_istore dX12_findJoin_358 (Nat.le_of_ble_eq_true rfl) rfl ?_
      refine zr_aload_n dX12_findJoin_360 rfl rfl ?_
      refine zr_getR dX12_findJoin_361 zf_X12_126 rfl (hS.has (a := 84) rfl rfl) (hS.ref (a := 119) rfl) ?_
      refine zr_bipush (v := 48) dX12_findJoin_364 (by decide) ?_
      refine zr_iload_n dX12_findJoin_366 rfl rfl ?_
      refine zr_imul dX12_findJoin_367 ?_
      refine zr_iload dX12_findJoin_368 rfl ?_
      refine zr_iadd dX12_findJoin_370 ?_
      refine zr_iload dX12_findJoin_371 rfl ?_
      obtain ⟨hi11, k⟩ := k
      refine zr_iast dX12_findJoin_373 (hS.has (a := 119) rfl rfl) hi11 ?_
      refine zr_aload_n dX12_findJoin_374 rfl rfl ?_
      refine zr_getR dX12_findJoin_375 zf_X12_126 rfl (hS.has (a := 84) rfl rfl) (hS.ref (a := 119) rfl) ?_
      refine zr_bipush (v := 48) dX12_findJoin_378 (by decide) ?_
      refine zr_iload_n dX12_findJoin_380 rfl rfl ?_
      refine zr_imul dX12_findJoin_381 ?_
      refine zr_iload dX12_findJoin_382 rfl ?_
      refine zr_iadd dX12_findJoin_384 ?_
      refine zr_iload dX12_findJoin_385 rfl ?_
      obtain ⟨hi12, k⟩ := k
      refine zr_iast dX12_findJoin_387 (hS.has (a := 119) rfl rfl) hi12 ?_
      refine zr_aload_n dX12_findJoin_388 rfl rfl ?_
      refine zr_iload dX12_findJoin_389 rfl ?_
      refine zr_putI dX12_findJoin_391 zf_X12_111 rfl (hS.has (a := 84) rfl rfl) rfl rfl ?_
      refine zr_aload_n dX12_findJoin_394 rfl rfl ?_
      refine zr_aload_n dX12_findJoin_395 rfl rfl ?_
      refine zr_getR dX12_findJoin_396 zf_X12_102 rfl (hS.has (a := 84) rfl rfl) (hS.ref (a := 113) rfl) ?_
      refine zr_iload dX12_findJoin_399 rfl ?_
      refine zr_ialdv (x := (I 113 v6.toNatClampNeg)) dX12_findJoin_401 (hS.has (a := 113) rfl rfl) hi9 rfl ?_
      refine zr_putI dX12_findJoin_402 zf_X12_114 rfl (hS.has (a := 84) rfl rfl) rfl rfl ?_
      refine zr_aload_n dX12_findJoin_405 rfl rfl ?_
      refine zr_iconst (v := 0) dX12_findJoin_406 (by decide) ?_
      refine zr_iconst (v := 0) dX12_findJoin_407 (by decide) ?_
      refine zr_callV (As := [.int (0 : Int32), .int (0 : Int32)]) (fr' := fX12_solves) (lo' := lX12_solves) (bc' := 0) (bs' := 0) (bcr := bc) (bsr := bs) dX12_findJoin_408 zs_X12_354 zi_X12_solves zcl_12 (hS.has (a := 84) rfl rfl) rfl rfl (Nat.le_of_ble_eq_true rfl) (Nat.le_of_ble_eq_true rfl) (Nat.le_of_ble_eq_true rfl) (Nat.le_refl _) (Nat.le_refl _) ?_
      refine ZC.mono (fun w S' I1 L1 k => ?_) k
      obtain ⟨rfl, rfl, k⟩ := k
      show ZW G mX12_findJoin fX12_findJoin lX12_findJoin 411 [zo G 84, .int v1, .int v2, .int v3, .int v4, .int v5, .int v6, .int (I 108 v6.toNatClampNeg), .int (I 109 (I 113 v6.toNatClampNeg).toNatClampNeg), .null] [] S I1 L1 bc bs Q
      refine zr_aload_n dX12_findJoin_411 rfl rfl ?_
      refine zr_getIv (x := (I1 84 50)) dX12_findJoin_412 zf_X12_337 rfl (hS.has (a := 84) rfl rfl) rfl ?_
      refine zr_iload_n dX12_findJoin_415 rfl rfl ?_
      refine zr_icne (tgt := 427) dX12_findJoin_416 (by decide) (fun hb => ?_) (fun hb => ?_)
      · have k := k.1 hb
        refine zr_iconst (v := 1) dX12_findJoin_427 (by decide) ?_
        refine zr_goto (tgt := 432) dX12_findJoin_428 (by decide) ?_
        refine zr_istore dX12_findJoin_432 (Nat.le_of_ble_eq_true rfl) rfl ?_
        refine zr_aload_n dX12_findJoin_434 rfl rfl ?_
        refine zr_getR dX12_findJoin_435 zf_X12_129 rfl (hS.has (a := 84) rfl rfl) (hS.ref (a := 120) rfl) ?_
        refine zr_bipush (v := 48) dX12_findJoin_438 (by decide) ?_
        refine zr_iload_n dX12_findJoin_440 rfl rfl ?_
        refine zr_imul dX12_findJoin_441 ?_
        refine zr_iload dX12_findJoin_442 rfl ?_
        refine zr_iadd dX12_findJoin_444 ?_
        refine zr_iload dX12_findJoin_445 rfl ?_
        refine zr_zast dX12_findJoin_447 (hS.has (a := 120) rfl rfl) hi11 rfl ?_
        refine zr_aload_n dX12_findJoin_448 rfl rfl ?_
        refine zr_getR dX12_findJoin_449 zf_X12_129 rfl (hS.has (a := 84) rfl rfl) (hS.ref (a := 120) rfl) ?_
        refine zr_bipush (v := 48) dX12_findJoin_452 (by decide) ?_
        refine zr_iload_n dX12_findJoin_454 rfl rfl ?_
        refine zr_imul dX12_findJoin_455 ?_
        refine zr_iload dX12_findJoin_456 rfl ?_
        refine zr_iadd dX12_findJoin_458 ?_
        refine zr_iload dX12_findJoin_459 rfl ?_
        refine zr_zast dX12_findJoin_461 (hS.has (a := 120) rfl rfl) hi12 rfl ?_
        refine zr_iload dX12_findJoin_462 rfl ?_
        refine zr_ifeq (tgt := 481) dX12_findJoin_464 (by decide) (fun hb => ?_) (fun hb => ?_)
        · have k := k.1 hb
          refine zr_iinc (v := (v6 + 1)) dX12_findJoin_481 rfl rfl (Nat.le_of_ble_eq_true rfl) rfl ?_
          refine zr_goto (tgt := 314) dX12_findJoin_484 (by decide) ?_
          exact zr_mask [true, true, true, true, true, true, true, false, false, false] rfl k
        · have k := k.2 hb
          refine zr_aload_n dX12_findJoin_467 rfl rfl ?_
          refine zr_getR dX12_findJoin_468 zf_X12_138 rfl (hS.has (a := 84) rfl rfl) (hS.ref (a := 123) rfl) ?_
          refine zr_iload_n dX12_findJoin_471 rfl rfl ?_
          refine zr_aload_n dX12_findJoin_472 rfl rfl ?_
          refine zr_getR dX12_findJoin_473 zf_X12_138 rfl (hS.has (a := 84) rfl rfl) (hS.ref (a := 123) rfl) ?_
          refine zr_iload_n dX12_findJoin_476 rfl rfl ?_
          obtain ⟨hi13, k⟩ := k
          refine zr_ialdv (x := (I1 123 v1.toNatClampNeg)) dX12_findJoin_477 (hS.has (a := 123) rfl rfl) hi13 rfl ?_
          refine zr_iconst (v := 1) dX12_findJoin_478 (by decide) ?_
          refine zr_iadd dX12_findJoin_479 ?_
          refine zr_iast dX12_findJoin_480 (hS.has (a := 123) rfl rfl) hi13 ?_
          refine zr_iinc (v := (v6 + 1)) dX12_findJoin_481 rfl rfl (Nat.le_of_ble_eq_true rfl) rfl ?_
          refine zr_goto (tgt := 314) dX12_findJoin_484 (by decide) ?_
          exact zr_mask [true, true, true, true, true, true, true, false, false, false] rfl k
      · have k := k.2 hb
        refine zr_aload_n dX12_findJoin_419 rfl rfl ?_
        refine zr_getIv (x := (I1 84 51)) dX12_findJoin_420 zf_X12_340 rfl (hS.has (a := 84) rfl rfl) rfl ?_
        refine zr_iload_n dX12_findJoin_423 rfl rfl ?_
        refine zr_iceq (tgt := 431) dX12_findJoin_424 (by decide) (fun hb => ?_) (fun hb => ?_)
        · have k := k.1 hb
          refine zr_iconst (v := 0) dX12_findJoin_431 (by decide) ?_
          refine zr_istore dX12_findJoin_432 (Nat.le_of_ble_eq_true rfl) rfl ?_
          refine zr_aload_n dX12_findJoin_434 rfl rfl ?_
          refine zr_getR dX12_findJoin_435 zf_X12_129 rfl (hS.has (a := 84) rfl rfl) (hS.ref (a := 120) rfl) ?_
          refine zr_bipush (v := 48) dX12_findJoin_438 (by decide) ?_
          refine zr_iload_n dX12_findJoin_440 rfl rfl ?_
          refine zr_imul dX12_findJoin_441 ?_
          refine zr_iload dX12_findJoin_442 rfl ?_
          refine zr_iadd dX12_findJoin_444 ?_
          refine zr_iload dX12_findJoin_445 rfl ?_
          refine zr_zast dX12_findJoin_447 (hS.has (a := 120) rfl rfl) hi11 rfl ?_
          refine zr_aload_n dX12_findJoin_448 rfl rfl ?_
          refine zr_getR dX12_findJoin_449 zf_X12_129 rfl (hS.has (a := 84) rfl rfl) (hS.ref (a := 120) rfl) ?_
          refine zr_bipush (v := 48) dX12_findJoin_452 (by decide) ?_
          refine zr_iload_n dX12_findJoin_454 rfl rfl ?_
          refine zr_imul dX12_findJoin_455 ?_
          refine zr_iload dX12_findJoin_456 rfl ?_
          refine zr_iadd dX12_findJoin_458 ?_
          refine zr_iload dX12_findJoin_459 rfl ?_
          refine zr_zast dX12_findJoin_461 (hS.has (a := 120) rfl rfl) hi12 rfl ?_
          refine zr_iload dX12_findJoin_462 rfl ?_
          refine zr_ifeq (tgt := 481) dX12_findJoin_464 (by decide) (fun hb => ?_) (fun hb => ?_)
          · have k := k.1 hb
            refine zr_iinc (v := (v6 + 1)) dX12_findJoin_481 rfl rfl (Nat.le_of_ble_eq_true rfl) rfl ?_
            refine zr_goto (tgt := 314) dX12_findJoin_484 (by decide) ?_
            exact zr_mask [true, true, true, true, true, true, true, false, false, false] rfl k
          · have k := k.2 hb
            refine zr_aload_n dX12_findJoin_467 rfl rfl ?_
            refine zr_getR dX12_findJoin_468 zf_X12_138 rfl (hS.has (a := 84) rfl rfl) (hS.ref (a := 123) rfl) ?_
            refine zr_iload_n dX12_findJoin_471 rfl rfl ?_
            refine zr_aload_n dX12_findJoin_472 rfl rfl ?_
            refine zr_getR dX12_findJoin_473 zf_X12_138 rfl (hS.has (a := 84) rfl rfl) (hS.ref (a := 123) rfl) ?_
            refine zr_iload_n dX12_findJoin_476 rfl rfl ?_
            obtain ⟨hi14, k⟩ := k
            refine zr_ialdv (x := (I1 123 v1.toNatClampNeg)) dX12_findJoin_477 (hS.has (a := 123) rfl rfl) hi14 rfl ?_
            refine zr_iconst (v := 1) dX12_findJoin_478 (by decide) ?_
            refine zr_iadd dX12_findJoin_479 ?_
            refine zr_iast dX12_findJoin_480 (hS.has (a := 123) rfl rfl) hi14 ?_
            refine zr_iinc (v := (v6 + 1)) dX12_findJoin_481 rfl rfl (Nat.le_of_ble_eq_true rfl) rfl ?_
            refine zr_goto (tgt := 314) dX12_findJoin_484 (by decide) ?_
            exact zr_mask [true, true, true, true, true, true, true, false, false, false] rfl k
        · have k := k.2 hb
          refine zr_iconst (v := 1) dX12_findJoin_427 (by decide) ?_
          refine zr_goto (tgt := 432) dX12_findJoin_428 (by decide) ?_
          refine zr_istore dX12_findJoin_432 (Nat.le_of_ble_eq_true rfl) rfl ?_
          refine zr_aload_n dX12_findJoin_434 rfl rfl ?_
          refine zr_getR dX12_findJoin_435 zf_X12_129 rfl (hS.has (a := 84) rfl rfl) (hS.ref (a := 120) rfl) ?_
          refine zr_bipush (v := 48) dX12_findJoin_438 (by decide) ?_
          refine zr_iload_n dX12_findJoin_440 rfl rfl ?_
          refine zr_imul dX12_findJoin_441 ?_
          refine zr_iload dX12_findJoin_442 rfl ?_
          refine zr_iadd dX12_findJoin_444 ?_
          refine zr_iload dX12_findJoin_445 rfl ?_
          refine zr_zast dX12_findJoin_447 (hS.has (a := 120) rfl rfl) hi11 rfl ?_
          refine zr_aload_n dX12_findJoin_448 rfl rfl ?_
          refine zr_getR dX12_findJoin_449 zf_X12_129 rfl (hS.has (a := 84) rfl rfl) (hS.ref (a := 120) rfl) ?_
          refine zr_bipush (v := 48) dX12_findJoin_452 (by decide) ?_
          refine zr_iload_n dX12_findJoin_454 rfl rfl ?_
          refine zr_imul dX12_findJoin_455 ?_
          refine zr_iload dX12_findJoin_456 rfl ?_
          refine zr_iadd dX12_findJoin_458 ?_
          refine zr_iload dX12_findJoin_459 rfl ?_
          refine zr_zast dX12_findJoin_461 (hS.has (a := 120) rfl rfl) hi12 rfl ?_
          refine zr_iload dX12_findJoin_462 rfl ?_
          refine zr_ifeq (tgt := 481) dX12_findJoin_464 (by decide) (fun hb => ?_) (fun hb => ?_)
          · have k := k.1 hb
            refine zr_iinc (v := (v6 + 1)) dX12_findJoin_481 rfl rfl (Nat.le_of_ble_eq_true rfl) rfl ?_
            refine zr_goto (tgt := 314) dX12_findJoin_484 (by decide) ?_
            exact zr_mask [true, true, true, true, true, true, true, false, false, false] rfl k
          · have k := k.2 hb
            refine zr_aload_n dX12_findJoin_467 rfl rfl ?_
            refine zr_getR dX12_findJoin_468 zf_X12_138 rfl (hS.has (a := 84) rfl rfl) (hS.ref (a := 123) rfl) ?_
            refine zr_iload_n dX12_findJoin_471 rfl rfl ?_
            refine zr_aload_n dX12_findJoin_472 rfl rfl ?_
            refine zr_getR dX12_findJoin_473 zf_X12_138 rfl (hS.has (a := 84) rfl rfl) (hS.ref (a := 123) rfl) ?_
            refine zr_iload_n dX12_findJoin_476 rfl rfl ?_
            obtain ⟨hi15, k⟩ := k
            refine zr_ialdv (x := (I1 123 v1.toNatClampNeg)) dX12_findJoin_477 (hS.has (a := 123) rfl rfl) hi15 rfl ?_
            refine zr_iconst (v := 1) dX12_findJoin_478 (by decide) ?_
            refine zr_iadd dX12_findJoin_479 ?_
            refine zr_iast dX12_findJoin_480 (hS.has (a := 123) rfl rfl) hi15 ?_
            refine zr_iinc (v := (v6 + 1)) dX12_findJoin_481 rfl rfl (Nat.le_of_ble_eq_true rfl) rfl ?_
            refine zr_goto (tgt := 314) dX12_findJoin_484 (by decide) ?_
            exact zr_mask [true, true, true, true, true, true, true, false, false, false] rfl k
    · have k := k.2 hb
      refine zr_goto (tgt := 481) dX12_findJoin_334 (by decide) ?_
      refine zr_iinc (v := (v6 + 1)) dX12_findJoin_481 rfl rfl (Nat.le_of_ble_eq_true rfl) rfl ?_
      refine zr_goto (tgt := 314) dX12_findJoin_484 (by decide) ?_
      exact k
set_option maxHeartbeats 2000000 in
theorem vX12_findJoins_0 {G : Gp} {bc bs : Nat} {Q : zPost} {S : zSh} {I : zFI} {L : zFL} {v1 : Int32} (hS : zStd S)  (k : ZC G mX12_findJoin fX12_findJoin lX12_findJoin [zo G 84, .int (0 : Int32)] S I L 0 0 (fun w S' I1 L1 => w = none ∧ S = S' ∧ ((¬ v1 = (1 : Int32) → Q none S I1 L1) ∧ (v1 = (1 : Int32) → ZC G mX12_findJoin fX12_findJoin lX12_findJoin [zo G 84, .int (1 : Int32)] S I1 L1 0 0 (fun w S' I2 L2 => w = none ∧ S = S' ∧ Q none S I2 L2))))) : ZW G mX12_findJoins fX12_findJoins lX12_findJoins 0 [zo G 84, .int v1] [] S I L bc bs Q := by
  refine zr_aload_n dX12_findJoins_0 rfl rfl ?_
  refine zr_iconst (v := 0) dX12_findJoins_1 (by decide) ?_
  refine zr_callV (As := [.int (0 : Int32)]) (fr' := fX12_findJoin) (lo' := lX12_findJoin) (bc' := 0) (bs' := 0) (bcr := bc) (bsr := bs) dX12_findJoins_2 zs_X12_357 zi_X12_findJoin zcl_12 (hS.has (a := 84) rfl rfl) rfl rfl (Nat.le_of_ble_eq_true rfl) (Nat.le_of_ble_eq_true rfl) (Nat.le_of_ble_eq_true rfl) (Nat.le_refl _) (Nat.le_refl _) ?_
  refine ZC.mono (fun w S' I1 L1 k => ?_) k
  obtain ⟨rfl, rfl, k⟩ := k
  show ZW G mX12_findJoins fX12_findJoins lX12_findJoins 5 [zo G 84, .int v1] [] S I1 L1 bc bs Q
  refine zr_iload_n dX12_findJoins_5 rfl rfl ?_
  refine zr_iconst (v := 1) dX12_findJoins_6 (by decide) ?_
  refine zr_icne (tgt := 15) dX12_findJoins_7 (by decide) (fun hb => ?_) (fun hb => ?_)
  · have k := k.1 hb
    exact zr_return_ dX12_findJoins_15 rfl k
  · have k := k.2 hb
    refine zr_aload_n dX12_findJoins_10 rfl rfl ?_
    refine zr_iconst (v := 1) dX12_findJoins_11 (by decide) ?_
    refine zr_callV (As := [.int (1 : Int32)]) (fr' := fX12_findJoin) (lo' := lX12_findJoin) (bc' := 0) (bs' := 0) (bcr := bc) (bsr := bs) dX12_findJoins_12 zs_X12_357 zi_X12_findJoin zcl_12 (hS.has (a := 84) rfl rfl) rfl rfl (Nat.le_of_ble_eq_true rfl) (Nat.le_of_ble_eq_true rfl) (Nat.le_of_ble_eq_true rfl) (Nat.le_refl _) (Nat.le_refl _) ?_
    refine ZC.mono (fun w S' I2 L2 k => ?_) k
    obtain ⟨rfl, rfl, k⟩ := k
    show ZW G mX12_findJoins fX12_findJoins lX12_findJoins 15 [zo G 84, .int v1] [] S I2 L2 bc bs Q
    exact zr_return_ dX12_findJoins_15 rfl k
set_option maxHeartbeats 2000000 in
theorem vX12_findFrames_0 {G : Gp} {bc bs : Nat} {Q : zPost} {S : zSh} {I : zFI} {L : zFL} {v1 : Int32} (hS : zStd S)  (k : ZW G mX12_findFrames fX12_findFrames lX12_findFrames 2 [zo G 84, .int v1, .int (0 : Int32), .null, .null, .null, .null] [] S I L bc bs Q) : ZW G mX12_findFrames fX12_findFrames lX12_findFrames 0 [zo G 84, .int v1, .null, .null, .null, .null, .null] [] S I L bc bs Q := by
  refine zr_iconst (v := 0) dX12_findFrames_0 (by decide) ?_
  refine zr_istore_n dX12_findFrames_1 rfl (Nat.le_of_ble_eq_true rfl) rfl ?_
  exact k
set_option maxHeartbeats 2000000 in
theorem vX12_findFrames_2 {G : Gp} {bc bs : Nat} {Q : zPost} {S : zSh} {I : zFI} {L : zFL} {v1 : Int32} {v2 : Int32} (hS : zStd S)  (k : (((I 84 3) ≤ v2 → ZW G mX12_findFrames fX12_findFrames lX12_findFrames 25 [zo G 84, .int v1, .int (0 : Int32), .null, .null, .null, .null] [] S I L bc bs Q) ∧ (¬ (I 84 3) ≤ v2 → vp_in v2 16 ∧ ZW G mX12_findFrames fX12_findFrames lX12_findFrames 2 [zo G 84, .int v1, .int (v2 + 1), .null, .null, .null, .null] [] S (u2 I 124 v2.toNatClampNeg (0 : Int32)) L bc bs Q))) : ZW G mX12_findFrames fX12_findFrames lX12_findFrames 2 [zo G 84, .int v1, .int v2, .null, .null, .null, .null] [] S I L bc bs Q := by
  refine zr_iload_n dX12_findFrames_2 rfl rfl ?_
  refine zr_aload_n dX12_findFrames_3 rfl rfl ?_
  refine zr_getIv (x := (I 84 3)) dX12_findFrames_4 zf_X12_191 rfl (hS.has (a := 84) rfl rfl) rfl ?_
  refine zr_icge (tgt := 23) dX12_findFrames_7 (by decide) (fun hb => ?_) (fun hb => ?_)
  · have k := k.1 hb
    refine zr_iconst (v := 0) dX12_findFrames_23 (by decide) ?_
    refine zr_istore_n dX12_findFrames_24 rfl (Nat.le_of_ble_eq_true rfl) rfl ?_
    exact k
  · have k := k.2 hb
    refine zr_aload_n dX12_findFrames_10 rfl rfl ?_
    refine zr_getR dX12_findFrames_11 zf_X12_141 rfl (hS.has (a := 84) rfl rfl) (hS.ref (a := 124) rfl) ?_
    refine zr_iload_n dX12_findFrames_14 rfl rfl ?_
    refine zr_iconst (v := 0) dX12_findFrames_15 (by decide) ?_
    obtain ⟨hi1, k⟩ := k
    refine zr_iast dX12_findFrames_16 (hS.has (a := 124) rfl rfl) hi1 ?_
    refine zr_iinc (v := (v2 + 1)) dX12_findFrames_17 rfl rfl (Nat.le_of_ble_eq_true rfl) rfl ?_
    refine zr_goto (tgt := 2) dX12_findFrames_20 (by decide) ?_
    exact k
set_option maxHeartbeats 2000000 in
theorem vX12_findFrames_25 {G : Gp} {bc bs : Nat} {Q : zPost} {S : zSh} {I : zFI} {L : zFL} {v1 : Int32} {v2 : Int32} (hS : zStd S)  (k : (((I 84 13) ≤ v2 → ZW G mX12_findFrames fX12_findFrames lX12_findFrames 112 [zo G 84, .int v1, .int (0 : Int32), .int (0 : Int32), .null, .null, .null] [] S (u2 I 84 64 (0 : Int32)) L bc bs Q) ∧ (¬ (I 84 13) ≤ v2 → vp_in (((48 : Int32) * v1) + v2) 96 ∧ (((I 119 (((48 : Int32) * v1) + v2).toNatClampNeg) = (-1 : Int32) → ZW G mX12_findFrames fX12_findFrames lX12_findFrames 25 [zo G 84, .int v1, .int (v2 + 1), .null, .null, .null, .null] [] S I L bc bs Q) ∧ (¬ (I 119 (((48 : Int32) * v1) + v2).toNatClampNeg) = (-1 : Int32) → (¬ v2 < 0 → ¬ (I 84 13) ≤ v2 → vp_in v2 48) ∧ (((p_X12_isJoint I v2) = 0 → ZW G mX12_findFrames fX12_findFrames lX12_findFrames 25 [zo G 84, .int v1, .int (v2 + 1), .null, .null, .null, .null] [] S I L bc bs Q) ∧ (¬ (p_X12_isJoint I v2) = 0 → vp_in v2 48 ∧ vp_in (I 94 v2.toNatClampNeg) 16 ∧ vp_in (I 119 (((48 : Int32) * v1) + v2).toNatClampNeg) 48 ∧ ZW G mX12_findFrames fX12_findFrames lX12_findFrames 25 [zo G 84, .int v1, .int (v2 + 1), .null, .null, .null, .null] [] S (u2 I 124 (I 94 v2.toNatClampNeg).toNatClampNeg ((I 124 (I 94 v2.toNatClampNeg).toNatClampNeg) ||| ((1 : Int32) <<< ((I 94 (I 119 (((48 : Int32) * v1) + v2).toNatClampNeg).toNatClampNeg) &&& 31)))) L bc bs Q))))))) : ZW G mX12_findFrames fX12_findFrames lX12_findFrames 25 [zo G 84, .int v1, .int v2, .null, .null, .null, .null] [] S I L bc bs Q := by
  refine zr_iload_n dX12_findFrames_25 rfl rfl ?_
  refine zr_aload_n dX12_findFrames_26 rfl rfl ?_
  refine zr_getIv (x := (I 84 13)) dX12_findFrames_27 zf_X12_198 rfl (hS.has (a := 84) rfl rfl) rfl ?_
  refine zr_icge (tgt := 103) dX12_findFrames_30 (by decide) (fun hb => ?_) (fun hb => ?_)
  · have k := k.1 hb
    refine zr_aload_n dX12_findFrames_103 rfl rfl ?_
    refine zr_iconst (v := 0) dX12_findFrames_104 (by decide) ?_
    refine zr_putI dX12_findFrames_105 zf_X12_366 rfl (hS.has (a := 84) rfl rfl) rfl rfl ?_
    refine zr_iconst (v := 0) dX12_findFrames_108 (by decide) ?_
    refine zr_istore_n dX12_findFrames_109 rfl (Nat.le_of_ble_eq_true rfl) rfl ?_
    refine zr_iconst (v := 0) dX12_findFrames_110 (by decide) ?_
    refine zr_istore_n dX12_findFrames_111 rfl (Nat.le_of_ble_eq_true rfl) rfl ?_
    exact k
  · have k := k.2 hb
    refine zr_aload_n dX12_findFrames_33 rfl rfl ?_
    refine zr_getR dX12_findFrames_34 zf_X12_126 rfl (hS.has (a := 84) rfl rfl) (hS.ref (a := 119) rfl) ?_
    refine zr_bipush (v := 48) dX12_findFrames_37 (by decide) ?_
    refine zr_iload_n dX12_findFrames_39 rfl rfl ?_
    refine zr_imul dX12_findFrames_40 ?_
    refine zr_iload_n dX12_findFrames_41 rfl rfl ?_
    refine zr_iadd dX12_findFrames_42 ?_
    obtain ⟨hi2, k⟩ := k
    refine zr_ialdv (x := (I 119 (((48 : Int32) * v1) + v2).toNatClampNeg)) dX12_findFrames_43 (hS.has (a := 119) rfl rfl) hi2 rfl ?_
    refine zr_iconst (v := -1) dX12_findFrames_44 (by decide) ?_
    refine zr_iceq (tgt := 97) dX12_findFrames_45 (by decide) (fun hb => ?_) (fun hb => ?_)
    · have k := k.1 hb
      refine zr_iinc (v := (v2 + 1)) dX12_findFrames_97 rfl rfl (Nat.le_of_ble_eq_true rfl) rfl ?_
      refine zr_goto (tgt := 25) dX12_findFrames_100 (by decide) ?_
      exact k
    · have k := k.2 hb
      refine zr_aload_n dX12_findFrames_48 rfl rfl ?_
      refine zr_iload_n dX12_findFrames_49 rfl rfl ?_
      refine zr_callV (As := [.int v2]) (fr' := fX12_isJoint) (lo' := lX12_isJoint) (bc' := 0) (bs' := 0) (bcr := bc) (bsr := bs) dX12_findFrames_50 zs_X12_286 zi_X12_isJoint zcl_12 (hS.has (a := 84) rfl rfl) rfl rfl (Nat.le_of_ble_eq_true rfl) (Nat.le_of_ble_eq_true rfl) (Nat.le_of_ble_eq_true rfl) (Nat.le_refl _) (Nat.le_refl _) ?_
      obtain ⟨hq0, k⟩ := k
      refine sp_X12_isJoint hS hq0 ?_
      show ZW G mX12_findFrames fX12_findFrames lX12_findFrames 53 [zo G 84, .int v1, .int v2, .null, .null, .null, .null] [.int (p_X12_isJoint I v2)] S I L bc bs Q
      refine zr_ifeq (tgt := 97) dX12_findFrames_53 (by decide) (fun hb => ?_) (fun hb => ?_)
      · have k := k.1 hb
        refine zr_iinc (v := (v2 + 1)) dX12_findFrames_97 rfl rfl (Nat.le_of_ble_eq_true rfl) rfl ?_
        refine zr_goto (tgt := 25) dX12_findFrames_100 (by decide) ?_
        exact k
      · have k := k.2 hb
        refine zr_aload_n dX12_findFrames_56 rfl rfl ?_
        refine zr_getR dX12_findFrames_57 zf_X12_141 rfl (hS.has (a := 84) rfl rfl) (hS.ref (a := 124) rfl) ?_
        refine zr_aload_n dX12_findFrames_60 rfl rfl ?_
        refine zr_getR dX12_findFrames_61 zf_X12_42 rfl (hS.has (a := 84) rfl rfl) (hS.ref (a := 94) rfl) ?_
        refine zr_iload_n dX12_findFrames_64 rfl rfl ?_
        obtain ⟨hi3, k⟩ := k
        refine zr_ialdv (x := (I 94 v2.toNatClampNeg)) dX12_findFrames_65 (hS.has (a := 94) rfl rfl) hi3 rfl ?_
        refine zr_aload_n dX12_findFrames_66 rfl rfl ?_
        refine zr_getR dX12_findFrames_67 zf_X12_141 rfl (hS.has (a := 84) rfl rfl) (hS.ref (a := 124) rfl) ?_
        refine zr_aload_n dX12_findFrames_70 rfl rfl ?_
        refine zr_getR dX12_findFrames_71 zf_X12_42 rfl (hS.has (a := 84) rfl rfl) (hS.ref (a := 94) rfl) ?_
        refine zr_iload_n dX12_findFrames_74 rfl rfl ?_
        refine zr_ialdv (x := (I 94 v2.toNatClampNeg)) dX12_findFrames_75 (hS.has (a := 94) rfl rfl) hi3 rfl ?_
        obtain ⟨hi4, k⟩ := k
        refine zr_ialdv (x := (I 124 (I 94 v2.toNatClampNeg).toNatClampNeg)) dX12_findFrames_76 (hS.has (a := 124) rfl rfl) hi4 rfl ?_
        refine zr_iconst (v := 1) dX12_findFrames_77 (by decide) ?_
        refine zr_aload_n dX12_findFrames_78 rfl rfl ?_
        refine zr_getR dX12_findFrames_79 zf_X12_42 rfl (hS.has (a := 84) rfl rfl) (hS.ref (a := 94) rfl) ?_
        refine zr_aload_n dX12_findFrames_82 rfl rfl ?_
        refine zr_getR dX12_findFrames_83 zf_X12_126 rfl (hS.has (a := 84) rfl rfl) (hS.ref (a := 119) rfl) ?_
        refine zr_bipush (v := 48) dX12_findFrames_86 (by decide) ?_
        refine zr_iload_n dX12_findFrames_88 rfl rfl ?_
        refine zr_imul dX12_findFrames_89 ?_
        refine zr_iload_n dX12_findFrames_90 rfl rfl ?_
        refine zr_iadd dX12_findFrames_91 ?_
        refine zr_ialdv (x := (I 119 (((48 : Int32) * v1) + v2).toNatClampNeg)) dX12_findFrames_92 (hS.has (a := 119) rfl rfl) hi2 rfl ?_
        obtain ⟨hi5, k⟩ := k
        refine zr_ialdv (x := (I 94 (I 119 (((48 : Int32) * v1) + v2).toNatClampNeg).toNatClampNeg)) dX12_findFrames_93 (hS.has (a := 94) rfl rfl) hi5 rfl ?_
        refine zr_ishl dX12_findFrames_94 ?_
        refine zr_ior dX12_findFrames_95 ?_
        refine zr_iast dX12_findFrames_96 (hS.has (a := 124) rfl rfl) hi4 ?_
        refine zr_iinc (v := (v2 + 1)) dX12_findFrames_97 rfl rfl (Nat.le_of_ble_eq_true rfl) rfl ?_
        refine zr_goto (tgt := 25) dX12_findFrames_100 (by decide) ?_
        exact k
set_option maxHeartbeats 2000000 in
theorem vX12_findFrames_112 {G : Gp} {bc bs : Nat} {Q : zPost} {S : zSh} {I : zFI} {L : zFL} {v1 : Int32} {v2 : Int32} {v3 : Int32} (hS : zStd S)  (k : (((I 84 3) ≤ v3 → Q none S I L) ∧ (¬ (I 84 3) ≤ v3 → vp_in v3 16 ∧ (((I 124 v3.toNatClampNeg) = 0 → ZW G mX12_findFrames fX12_findFrames lX12_findFrames 112 [zo G 84, .int v1, .int v2, .int (v3 + 1), .null, .null, .null] [] S I L bc bs Q) ∧ (¬ (I 124 v3.toNatClampNeg) = 0 → ((¬ ((v2 >>> (v3 &&& 31)) &&& (1 : Int32)) = (1 : Int32) → ZW G mX12_findFrames fX12_findFrames lX12_findFrames 149 [zo G 84, .int v1, .int v2, .int v3, .int ((1 : Int32) <<< (v3 &&& 31)), .int (0 : Int32), .null] [] S I L bc bs Q) ∧ (((v2 >>> (v3 &&& 31)) &&& (1 : Int32)) = (1 : Int32) → ZW G mX12_findFrames fX12_findFrames lX12_findFrames 112 [zo G 84, .int v1, .int v2, .int (v3 + 1), .null, .null, .null] [] S I L bc bs Q))))))) : ZW G mX12_findFrames fX12_findFrames lX12_findFrames 112 [zo G 84, .int v1, .int v2, .int v3, .null, .null, .null] [] S I L bc bs Q := by
  refine zr_iload_n dX12_findFrames_112 rfl rfl ?_
  refine zr_aload_n dX12_findFrames_113 rfl rfl ?_
  refine zr_getIv (x := (I 84 3)) dX12_findFrames_114 zf_X12_191 rfl (hS.has (a := 84) rfl rfl) rfl ?_
  refine zr_icge (tgt := 236) dX12_findFrames_117 (by decide) (fun hb => ?_) (fun hb => ?_)
  · have k := k.1 hb
    exact zr_return_ dX12_findFrames_236 rfl k
  · have k := k.2 hb
    refine zr_aload_n dX12_findFrames_120 rfl rfl ?_
    refine zr_getR dX12_findFrames_121 zf_X12_141 rfl (hS.has (a := 84) rfl rfl) (hS.ref (a := 124) rfl) ?_
    refine zr_iload_n dX12_findFrames_124 rfl rfl ?_
    obtain ⟨hi6, k⟩ := k
    refine zr_ialdv (x := (I 124 v3.toNatClampNeg)) dX12_findFrames_125 (hS.has (a := 124) rfl rfl) hi6 rfl ?_
    refine zr_ifeq (tgt := 230) dX12_findFrames_126 (by decide) (fun hb => ?_) (fun hb => ?_)
    · have k := k.1 hb
      refine zr_iinc (v := (v3 + 1)) dX12_findFrames_230 rfl rfl (Nat.le_of_ble_eq_true rfl) rfl ?_
      refine zr_goto (tgt := 112) dX12_findFrames_233 (by decide) ?_
      exact k
    · have k := k.2 hb
      refine zr_iload_n dX12_findFrames_129 rfl rfl ?_
      refine zr_iload_n dX12_findFrames_130 rfl rfl ?_
      refine zr_ishr dX12_findFrames_131 ?_
      refine zr_iconst (v := 1) dX12_findFrames_132 (by decide) ?_
      refine zr_iand dX12_findFrames_133 ?_
      refine zr_iconst (v := 1) dX12_findFrames_134 (by decide) ?_
      refine zr_icne (tgt := 141) dX12_findFrames_135 (by decide) (fun hb => ?_) (fun hb => ?_)
      · have k := k.1 hb
        refine zr_iconst (v := 1) dX12_findFrames_141 (by decide) ?_
        refine zr_iload_n dX12_findFrames_142 rfl rfl ?_
        refine zr_ishl dX12_findFrames_143 ?_
        refine zr_istore dX12_findFrames_144 (Nat.le_of_ble_eq_true rfl) rfl ?_
        refine zr_iconst (v := 0) dX12_findFrames_146 (by decide) ?_
        refine zr_istore dX12_findFrames_147 (Nat.le_of_ble_eq_true rfl) rfl ?_
        exact k
      · have k := k.2 hb
        refine zr_goto (tgt := 230) dX12_findFrames_138 (by decide) ?_
        refine zr_iinc (v := (v3 + 1)) dX12_findFrames_230 rfl rfl (Nat.le_of_ble_eq_true rfl) rfl ?_
        refine zr_goto (tgt := 112) dX12_findFrames_233 (by decide) ?_
        exact k
set_option maxHeartbeats 2000000 in
theorem vX12_findFrames_149 {G : Gp} {bc bs : Nat} {Q : zPost} {S : zSh} {I : zFI} {L : zFL} {v1 : Int32} {v2 : Int32} {v3 : Int32} {v4 : Int32} {v5 : Int32} (hS : zStd S)  (k : ((v4 = v5 → vp_in (I 84 64) 16 ∧ ZW G mX12_findFrames fX12_findFrames lX12_findFrames 112 [zo G 84, .int v1, .int (v2 ||| v4), .int (v3 + 1), .null, .null, .null] [] S (u2 (u2 I 125 (I 84 64).toNatClampNeg v4) 84 64 ((I 84 64) + (1 : Int32))) L bc bs Q) ∧ (¬ v4 = v5 → ZW G mX12_findFrames fX12_findFrames lX12_findFrames 163 [zo G 84, .int v1, .int v2, .int v3, .int v4, .int v4, .int (0 : Int32)] [] S I L bc bs Q))) : ZW G mX12_findFrames fX12_findFrames lX12_findFrames 149 [zo G 84, .int v1, .int v2, .int v3, .int v4, .int v5, .null] [] S I L bc bs Q := by
  refine zr_iload dX12_findFrames_149 rfl ?_
  refine zr_iload dX12_findFrames_151 rfl ?_
  refine zr_iceq (tgt := 204) dX12_findFrames_153 (by decide) (fun hb => ?_) (fun hb => ?_)
  · have k := k.1 hb
    refine zr_iload_n dX12_findFrames_204 rfl rfl ?_
    refine zr_iload dX12_findFrames_205 rfl ?_
    refine zr_ior dX12_findFrames_207 ?_
    refine zr_istore_n dX12_findFrames_208 rfl (Nat.le_of_ble_eq_true rfl) rfl ?_
    refine zr_aload_n dX12_findFrames_209 rfl rfl ?_
    refine zr_getR dX12_findFrames_210 zf_X12_144 rfl (hS.has (a := 84) rfl rfl) (hS.ref (a := 125) rfl) ?_
    refine zr_aload_n dX12_findFrames_213 rfl rfl ?_
    refine zr_getIv (x := (I 84 64)) dX12_findFrames_214 zf_X12_366 rfl (hS.has (a := 84) rfl rfl) rfl ?_
    refine zr_iload dX12_findFrames_217 rfl ?_
    obtain ⟨hi7, k⟩ := k
    refine zr_iast dX12_findFrames_219 (hS.has (a := 125) rfl rfl) hi7 ?_
    refine zr_aload_n dX12_findFrames_220 rfl rfl ?_
    refine zr_aload_n dX12_findFrames_221 rfl rfl ?_
    refine zr_getIv (x := (I 84 64)) dX12_findFrames_222 zf_X12_366 rfl (hS.has (a := 84) rfl rfl) rfl ?_
    refine zr_iconst (v := 1) dX12_findFrames_225 (by decide) ?_
    refine zr_iadd dX12_findFrames_226 ?_
    refine zr_putI dX12_findFrames_227 zf_X12_366 rfl (hS.has (a := 84) rfl rfl) rfl rfl ?_
    refine zr_iinc (v := (v3 + 1)) dX12_findFrames_230 rfl rfl (Nat.le_of_ble_eq_true rfl) rfl ?_
    refine zr_goto (tgt := 112) dX12_findFrames_233 (by decide) ?_
    exact zr_mask [true, true, true, true, false, false, false] rfl k
  · have k := k.2 hb
    refine zr_iload dX12_findFrames_156 rfl ?_
    refine zr_istore dX12_findFrames_158 (Nat.le_of_ble_eq_true rfl) rfl ?_
    refine zr_iconst (v := 0) dX12_findFrames_160 (by decide) ?_
    refine zr_istore dX12_findFrames_161 (Nat.le_of_ble_eq_true rfl) rfl ?_
    exact k
set_option maxHeartbeats 2000000 in
theorem vX12_findFrames_163 {G : Gp} {bc bs : Nat} {Q : zPost} {S : zSh} {I : zFI} {L : zFL} {v1 : Int32} {v2 : Int32} {v3 : Int32} {v4 : Int32} {v5 : Int32} {v6 : Int32} (hS : zStd S)  (k : (((I 84 3) ≤ v6 → ZW G mX12_findFrames fX12_findFrames lX12_findFrames 149 [zo G 84, .int v1, .int v2, .int v3, .int v4, .int v5, .null] [] S I L bc bs Q) ∧ (¬ (I 84 3) ≤ v6 → ((¬ ((v4 >>> (v6 &&& 31)) &&& (1 : Int32)) = (1 : Int32) → ZW G mX12_findFrames fX12_findFrames lX12_findFrames 163 [zo G 84, .int v1, .int v2, .int v3, .int v4, .int v5, .int (v6 + 1)] [] S I L bc bs Q) ∧ (((v4 >>> (v6 &&& 31)) &&& (1 : Int32)) = (1 : Int32) → vp_in v6 16 ∧ ZW G mX12_findFrames fX12_findFrames lX12_findFrames 163 [zo G 84, .int v1, .int v2, .int v3, .int (v4 ||| (I 124 v6.toNatClampNeg)), .int v5, .int (v6 + 1)] [] S I L bc bs Q))))) : ZW G mX12_findFrames fX12_findFrames lX12_findFrames 163 [zo G 84, .int v1, .int v2, .int v3, .int v4, .int v5, .int v6] [] S I L bc bs Q := by
  refine zr_iload dX12_findFrames_163 rfl ?_
  refine zr_aload_n dX12_findFrames_165 rfl rfl ?_
  refine zr_getIv (x := (I 84 3)) dX12_findFrames_166 zf_X12_191 rfl (hS.has (a := 84) rfl rfl) rfl ?_
  refine zr_icge (tgt := 201) dX12_findFrames_169 (by decide) (fun hb => ?_) (fun hb => ?_)
  · have k := k.1 hb
    refine zr_goto (tgt := 149) dX12_findFrames_201 (by decide) ?_
    exact zr_mask [true, true, true, true, true, true, false] rfl k
  · have k := k.2 hb
    refine zr_iload dX12_findFrames_172 rfl ?_
    refine zr_iload dX12_findFrames_174 rfl ?_
    refine zr_ishr dX12_findFrames_176 ?_
    refine zr_iconst (v := 1) dX12_findFrames_177 (by decide) ?_
    refine zr_iand dX12_findFrames_178 ?_
    refine zr_iconst (v := 1) dX12_findFrames_179 (by decide) ?_
    refine zr_icne (tgt := 195) dX12_findFrames_180 (by decide) (fun hb => ?_) (fun hb => ?_)
    · have k := k.1 hb
      refine zr_iinc (v := (v6 + 1)) dX12_findFrames_195 rfl rfl (Nat.le_of_ble_eq_true rfl) rfl ?_
      refine zr_goto (tgt := 163) dX12_findFrames_198 (by decide) ?_
      exact k
    · have k := k.2 hb
      refine zr_iload dX12_findFrames_183 rfl ?_
      refine zr_aload_n dX12_findFrames_185 rfl rfl ?_
      refine zr_getR dX12_findFrames_186 zf_X12_141 rfl (hS.has (a := 84) rfl rfl) (hS.ref (a := 124) rfl) ?_
      refine zr_iload dX12_findFrames_189 rfl ?_
      obtain ⟨hi8, k⟩ := k
      refine zr_ialdv (x := (I 124 v6.toNatClampNeg)) dX12_findFrames_191 (hS.has (a := 124) rfl rfl) hi8 rfl ?_
      refine zr_ior dX12_findFrames_192 ?_
      refine zr_istore dX12_findFrames_193 (Nat.le_of_ble_eq_true rfl) rfl ?_
      refine zr_iinc (v := (v6 + 1)) dX12_findFrames_195 rfl rfl (Nat.le_of_ble_eq_true rfl) rfl ?_
      refine zr_goto (tgt := 163) dX12_findFrames_198 (by decide) ?_
      exact k
