/-! the two text constants -/
theorem zsl_v : Cond.fieldLink RJ0 9 "java/lang/String" "value" "[B" ∈ ZTbl := (zt_in 1996 (by decide +kernel) (by decide +kernel) : Cond.fieldLink RJ0 9 "java/lang/String" "value" "[B" ∈ ZTbl)
theorem zsl_c : Cond.fieldLink RJ0 15 "java/lang/String" "coder" "B" ∈ ZTbl := (zt_in 1997 (by decide +kernel) (by decide +kernel) : Cond.fieldLink RJ0 15 "java/lang/String" "coder" "B" ∈ ZTbl)
theorem zsl_z : Cond.fieldLink RJ0 38 "java/lang/String" "COMPACT_STRINGS" "Z" ∈ ZTbl := (zt_in 725 (by decide +kernel) (by decide +kernel) : Cond.fieldLink RJ0 38 "java/lang/String" "COMPACT_STRINGS" "Z" ∈ ZTbl)
theorem zsl_s : Cond.fieldLink RJ0 1053 "jdk/internal/util/Preconditions" "SIOOBE_FORMATTER" "Ljava/util/function/BiFunction;" ∈ ZTbl := (zt_in 741 (by decide +kernel) (by decide +kernel) : Cond.fieldLink RJ0 1053 "jdk/internal/util/Preconditions" "SIOOBE_FORMATTER" "Ljava/util/function/BiFunction;" ∈ ZTbl)
def zCh (i j : Nat) : Int32 := (zTxC.getD i []).getD j 0
def zLn_ (i : Nat) : Nat := zLen.getD i 0
theorem zr_ldc0 {G : Gp} {mi : Mi} {fr lo pc : Nat} {vs st : List Value} {S : zSh} {I : zFI} {L : zFL} {bc bs : Nat} {Q : zPost} (hd : decode mi.2.1 pc = .ok (.ldc 163, 2)) (ho : mi.1.cls = "FrameReader$CustomText") (kk : ZW G mi fr lo (pc + 2) vs (.ref (gKs G 0) :: st) S I L bc bs Q) : ZW G mi fr lo pc vs st S I L bc bs Q :=
  fun p l e R s m args below meth c H locs cells slots ls Z C hW hS hl hc hs hk => va_ldcS C.1 C.2.1 (by rw [← ho]; exact C.2.2.2.1) C.2.2.2.2.2.2.1.2.1 hd (kk p l e R s m args below meth c H locs cells slots ls Z C hW hS hl hc hs hk)
theorem zr_ldc1 {G : Gp} {mi : Mi} {fr lo pc : Nat} {vs st : List Value} {S : zSh} {I : zFI} {L : zFL} {bc bs : Nat} {Q : zPost} (hd : decode mi.2.1 pc = .ok (.ldc 92, 2)) (ho : mi.1.cls = "FrameReader$Marks") (kk : ZW G mi fr lo (pc + 2) vs (.ref (gKs G 1) :: st) S I L bc bs Q) : ZW G mi fr lo pc vs st S I L bc bs Q :=
  fun p l e R s m args below meth c H locs cells slots ls Z C hW hS hl hc hs hk => va_ldcS C.1 C.2.1 (by rw [← ho]; exact C.2.2.2.1) C.2.2.2.2.2.2.1.2.2.1 hd (kk p l e R s m args below meth c H locs cells slots ls Z C hW hS hl hc hs hk)
theorem zr_compact {G : Gp} {mi : Mi} {fr lo pc : Nat} {vs st : List Value} {S : zSh} {I : zFI} {L : zFL} {bc bs : Nat} {Q : zPost} (hd : decode mi.2.1 pc = .ok (.getstatic 38, 3)) (ho : mi.1.cls = RJ0) (kk : ZW G mi fr lo (pc + 3) vs (.int 1 :: st) S I L bc bs Q) : ZW G mi fr lo pc vs st S I L bc bs Q :=
  fun p l e R s m args below meth c H locs cells slots ls Z C hW hS hl hc hs hk => va_gets C.1 C.2.1 C.2.2.2.2.2.2.1.2.2.2.2.1 hS (by rw [← ho]; exact C.2.2.2.1) (C.2.2.2.2.1 _ zsl_z) (fun _ h => h) hd (kk p l e R s m args below meth c H locs cells slots ls Z C hW hS hl hc hs hk)
theorem zr_sioobe {G : Gp} {mi : Mi} {fr lo pc : Nat} {vs st : List Value} {S : zSh} {I : zFI} {L : zFL} {bc bs : Nat} {Q : zPost} (hd : decode mi.2.1 pc = .ok (.getstatic 1053, 3)) (ho : mi.1.cls = RJ0) (k0 : ZW G mi fr lo (pc + 3) vs (.null :: st) S I L bc bs Q) (k1 : ∀ t : Nat, ZW G mi fr lo (pc + 3) vs (.ref t :: st) S I L bc bs Q) : ZW G mi fr lo pc vs st S I L bc bs Q := by
  intro p l e R s m args below meth c H locs cells slots ls Z C hW hS hl hc hs hk
  rcases C.2.2.2.2.2.2.1.2.2.2.2.2.1 with h | ⟨t, h⟩
  · exact va_gets C.1 C.2.1 h hS (by rw [← ho]; exact C.2.2.2.1) (C.2.2.2.2.1 _ zsl_s) (fun _ h => h) hd (k0 p l e R s m args below meth c H locs cells slots ls Z C hW hS hl hc hs hk)
  · exact va_gets C.1 C.2.1 h hS (by rw [← ho]; exact C.2.2.2.1) (C.2.2.2.2.1 _ zsl_s) (fun _ h => h) hd (k1 t p l e R s m args below meth c H locs cells slots ls Z C hW hS hl hc hs hk)
theorem zr_coder {G : Gp} {mi : Mi} {fr lo pc : Nat} {vs st : List Value} {S : zSh} {I : zFI} {L : zFL} {bc bs : Nat} {Q : zPost} {i : Nat} (hi : i < 2) (hd : decode mi.2.1 pc = .ok (.getfield 15, 3)) (ho : mi.1.cls = RJ0) (kk : ZW G mi fr lo (pc + 3) vs (.int 0 :: st) S I L bc bs Q) : ZW G mi fr lo pc vs (.ref (gKs G i) :: st) S I L bc bs Q :=
  fun p l e R s m args below meth c H locs cells slots ls Z C hW hS hl hc hs hk => vk_getf C.1 C.2.1 (C.2.2.2.2.2.2.1.2.2.2.1.1 i hi).2.1 hS (by rw [← ho]; exact C.2.2.2.1) (C.2.2.2.2.1 _ zsl_c) (fun _ h => h) hd (kk p l e R s m args below meth c H locs cells slots ls Z C hW hS hl hc hs hk)
theorem zr_value {G : Gp} {mi : Mi} {fr lo pc : Nat} {vs st : List Value} {S : zSh} {I : zFI} {L : zFL} {bc bs : Nat} {Q : zPost} {i : Nat} (hi : i < 2) (hd : decode mi.2.1 pc = .ok (.getfield 9, 3)) (ho : mi.1.cls = RJ0) (kk : ZW G mi fr lo (pc + 3) vs (.ref (gVs G i) :: st) S I L bc bs Q) : ZW G mi fr lo pc vs (.ref (gKs G i) :: st) S I L bc bs Q :=
  fun p l e R s m args below meth c H locs cells slots ls Z C hW hS hl hc hs hk => vk_getf C.1 C.2.1 (C.2.2.2.2.2.2.1.2.2.2.1.1 i hi).2.2.1 hS (by rw [← ho]; exact C.2.2.2.1) (C.2.2.2.2.1 _ zsl_v) (fun _ h => h) hd (kk p l e R s m args below meth c H locs cells slots ls Z C hW hS hl hc hs hk)
theorem zr_vlen {G : Gp} {mi : Mi} {fr lo pc : Nat} {vs st : List Value} {S : zSh} {I : zFI} {L : zFL} {bc bs : Nat} {Q : zPost} {i : Nat} {v : Int32} (hi : i < 2) (hv : Int32.ofNat (zLn_ i) = v) (hd : decode mi.2.1 pc = .ok (.arraylength, 1)) (kk : ZW G mi fr lo (pc + 1) vs (.int v :: st) S I L bc bs Q) : ZW G mi fr lo pc vs (.ref (gVs G i) :: st) S I L bc bs Q :=
  fun p l e R s m args below meth c H locs cells slots ls Z C hW hS hl hc hs hk => va_tlen C.1 C.2.1 (C.2.2.2.2.2.2.1.2.2.2.1.1 i hi).2.2.2 hS hv hd (kk p l e R s m args below meth c H locs cells slots ls Z C hW hS hl hc hs hk)
theorem zr_vat {G : Gp} {mi : Mi} {fr lo pc : Nat} {vs st : List Value} {S : zSh} {I : zFI} {L : zFL} {bc bs : Nat} {Q : zPost} {i : Nat} {k v : Int32} (hi : i < 2) (hin : vp_in k (zLn_ i)) (hv : zCh i k.toNatClampNeg = v) (hd : decode mi.2.1 pc = .ok (.baload, 1)) (kk : ZW G mi fr lo (pc + 1) vs (.int v :: st) S I L bc bs Q) : ZW G mi fr lo pc vs (.int k :: .ref (gVs G i) :: st) S I L bc bs Q :=
  fun p l e R s m args below meth c H locs cells slots ls Z C hW hS hl hc hs hk => va_tb C.1 C.2.1 (C.2.2.2.2.2.2.1.2.2.2.1.1 i hi).2.2.2 hS hin (congrArg Value.int hv) hd (kk p l e R s m args below meth c H locs cells slots ls Z C hW hS hl hc hs hk)
theorem zr_callK {G : Gp} {mi : Mi} {fr lo pc : Nat} {vs st : List Value} {S : zSh} {I : zFI} {L : zFL} {bc bs : Nat} {Q : zPost} {y : Mi} {fr' lo' bc' bs' bcr bsr idx n i : Nat} {As rest : List Value} (hd : decode mi.2.1 pc = .ok (.invokevirtual idx, 3)) (hsite : ZSite mi.1.cls idx y n) (hi : ZInst y) (hy : y.1.cls = RJ0) (hi2 : i < 2) (hn : As.length = n) (hst : st = As.reverse ++ .ref (gKs G i) :: rest) (hw : (rest.map fun v => v.category).sum ≤ 8)
    (hfr : fr' + 1 ≤ fr) (hlo : 8 + (y.2.2.1 + 11) + lo' ≤ lo) (hbc : bcr + bc' ≤ bc) (hbs : bsr + bs' ≤ bs)
    (kk : ZC G y fr' lo' (.ref (gKs G i) :: As) S I L bc' bs' (fun v S' I' L' => ZW G mi fr lo (pc + 3) vs (v.toList ++ rest) S' I' L' bcr bsr Q)) : ZW G mi fr lo pc vs st S I L bc bs Q := by
  intro p l e R s m args below meth c H locs cells slots ls Z C hW hS hl hc hs hk
  have hts := C.2.2.2.2.1
  have hE := C.2.2.2.2.2.2.1
  have rc := vk_recv (i := i) hE.2.2.2.1 hi2 hS
  rw [show ("java/lang/String" : String) = y.1.cls from hy.symm] at rc
  exact zr_behind (y := y) C hS hl hc hs hk hbc hbs (va_runV (As := As) (rest := rest) (g := F0 m pc ls st) ⟨C.1, C.2.1, C.2.2.1, C.2.2.2.1, hts⟩ (kk l) ⟨zr_site C hsite hfr hlo, hts _ hi.1, hts _ hi.2⟩
    ⟨zPc_blind, rc, fun U hU hWm => ⟨rfl, by rw [hU]; exact hW.moved hWm.alike, zExt_H hE hS hU hWm⟩⟩ rfl hn hl.1 hst (lv_room hw) hd ⟨by omega, by omega⟩)
theorem c_coder {G : Gp} {Q : zPost} {S : zSh} {I : zFI} {L : zFL} {i : Nat} (hi : i < 2) (q : Q (some (.int 0)) S I L) : ZC G mJ0_coder_7d493 fJ0_coder_7d493 lJ0_coder_7d493 [.ref (gKs G i)] S I L 0 0 Q := by
  refine ZC.of' (vs := [.ref (gKs G i)]) ?_ rfl (Nat.le_of_ble_eq_true rfl) rfl
  refine zr_compact dJ0_coder_7d493_0 rfl ?_
  refine zr_ifeq (tgt := 13) dJ0_coder_7d493_3 (by decide) (fun hb => absurd hb (by decide)) (fun _ => ?_)
  refine zr_aload_n dJ0_coder_7d493_6 rfl rfl ?_
  refine zr_coder hi dJ0_coder_7d493_7 rfl ?_
  refine zr_goto (tgt := 14) dJ0_coder_7d493_10 (by decide) ?_
  exact zr_ireturn dJ0_coder_7d493_14 rfl rfl q
theorem c_isLatin1 {G : Gp} {Q : zPost} {S : zSh} {I : zFI} {L : zFL} {i : Nat} (hi : i < 2) (q : Q (some (.int 1)) S I L) : ZC G mJ0_isLatin1_aae02 fJ0_isLatin1_aae02 lJ0_isLatin1_aae02 [.ref (gKs G i)] S I L 0 0 Q := by
  refine ZC.of' (vs := [.ref (gKs G i)]) ?_ rfl (Nat.le_of_ble_eq_true rfl) rfl
  refine zr_compact dJ0_isLatin1_aae02_0 rfl ?_
  refine zr_ifeq (tgt := 17) dJ0_isLatin1_aae02_3 (by decide) (fun hb => absurd hb (by decide)) (fun _ => ?_)
  refine zr_aload_n dJ0_isLatin1_aae02_6 rfl rfl ?_
  refine zr_coder hi dJ0_isLatin1_aae02_7 rfl ?_
  refine zr_ifne (tgt := 17) dJ0_isLatin1_aae02_10 (by decide) (fun hb => absurd rfl hb) (fun _ => ?_)
  refine zr_iconst (v := 1) dJ0_isLatin1_aae02_13 (by decide) ?_
  refine zr_goto (tgt := 18) dJ0_isLatin1_aae02_14 (by decide) ?_
  exact zr_ireturn dJ0_isLatin1_aae02_18 rfl rfl q
theorem zln_sh {i : Nat} (hi : i < 2) : (Int32.ofNat (zLn_ i)) >>> ((0 : Int32) &&& 31) = nI (zLn_ i) := by
  have : ∀ k : Fin 2, (Int32.ofNat (zLn_ k.1)) >>> ((0 : Int32) &&& 31) = nI (zLn_ k.1) := by decide +kernel
  exact this ⟨i, hi⟩
theorem c_strlen {G : Gp} {Q : zPost} {S : zSh} {I : zFI} {L : zFL} {i : Nat} (hi : i < 2) (q : Q (some (.int (nI (zLn_ i)))) S I L) : ZC G mJ0_length_8abf5 fJ0_length_8abf5 lJ0_length_8abf5 [.ref (gKs G i)] S I L 0 0 Q := by
  refine ZC.of' (vs := [.ref (gKs G i)]) ?_ rfl (Nat.le_of_ble_eq_true rfl) rfl
  refine zr_aload_n dJ0_length_8abf5_0 rfl rfl ?_
  refine zr_value hi dJ0_length_8abf5_1 rfl ?_
  refine zr_vlen hi rfl dJ0_length_8abf5_4 ?_
  refine zr_aload_n dJ0_length_8abf5_5 rfl rfl ?_
  refine zr_callK (i := i) (As := []) (rest := [.int (Int32.ofNat (zLn_ i))]) (fr' := fJ0_coder_7d493) (lo' := lJ0_coder_7d493) (bc' := 0) (bs' := 0) (bcr := 0) (bsr := 0) dJ0_length_8abf5_6 zs_J0_335 zi_J0_coder_7d493 rfl hi rfl rfl (Nat.le_of_ble_eq_true rfl) (Nat.le_of_ble_eq_true rfl) (Nat.le_of_ble_eq_true rfl) (Nat.le_refl _) (Nat.le_refl _) ?_
  refine c_coder hi ?_
  show ZW G mJ0_length_8abf5 fJ0_length_8abf5 lJ0_length_8abf5 9 [.ref (gKs G i)] [.int 0, .int (Int32.ofNat (zLn_ i))] S I L 0 0 Q
  refine zr_ishr dJ0_length_8abf5_9 ?_
  rw [zln_sh hi]
  exact zr_ireturn dJ0_length_8abf5_10 rfl rfl q
theorem c_ckIndex3 {G : Gp} {Q : zPost} {S : zSh} {I : zFI} {L : zFL} {k n : Int32} {v : Value} (hv : v = .null ∨ ∃ t : Nat, v = .ref t) (h0 : ¬ k < 0) (h1 : k < n) (q : Q (some (.int k)) S I L) : ZC G mJ3_checkIndex_8e157 fJ3_checkIndex_8e157 lJ3_checkIndex_8e157 [.int k, .int n, v] S I L 0 0 Q := by
  have key : ZW G mJ3_checkIndex_8e157 fJ3_checkIndex_8e157 lJ3_checkIndex_8e157 0 [.int k, .int n, v] [] S I L 0 0 Q := by
    refine zr_iload_n dJ3_checkIndex_8e157_0 rfl rfl ?_
    refine zr_iflt (tgt := 9) dJ3_checkIndex_8e157_1 (by decide) (fun hb => absurd hb h0) (fun _ => ?_)
    refine zr_iload_n dJ3_checkIndex_8e157_4 rfl rfl ?_
    refine zr_iload_n dJ3_checkIndex_8e157_5 rfl rfl ?_
    refine zr_iclt (tgt := 16) dJ3_checkIndex_8e157_6 (by decide) (fun _ => ?_) (fun hb => absurd h1 hb)
    refine zr_iload_n dJ3_checkIndex_8e157_16 rfl rfl ?_
    exact zr_ireturn dJ3_checkIndex_8e157_17 rfl rfl q
  rcases hv with rfl | ⟨t, rfl⟩
  · exact ZC.of' key rfl (Nat.le_of_ble_eq_true rfl) rfl
  · exact ZC.of' key rfl (Nat.le_of_ble_eq_true rfl) rfl
theorem c_ckIndex {G : Gp} {Q : zPost} {S : zSh} {I : zFI} {L : zFL} {k n : Int32} (h0 : ¬ k < 0) (h1 : k < n) (q : Q none S I L) : ZC G mJ0_checkIndex_df160 fJ0_checkIndex_df160 lJ0_checkIndex_df160 [.int k, .int n] S I L 0 0 Q := by
  refine ZC.of' (vs := [.int k, .int n]) ?_ rfl (Nat.le_of_ble_eq_true rfl) rfl
  refine zr_iload_n dJ0_checkIndex_df160_0 rfl rfl ?_
  refine zr_iload_n dJ0_checkIndex_df160_1 rfl rfl ?_
  have fin : ZW G mJ0_checkIndex_df160 fJ0_checkIndex_df160 lJ0_checkIndex_df160 8 [.int k, .int n] [.int k] S I L 0 0 Q := by
    refine zr_pop dJ0_checkIndex_df160_8 rfl ?_
    exact zr_return_ dJ0_checkIndex_df160_9 rfl q
  refine zr_sioobe dJ0_checkIndex_df160_2 rfl ?_ (fun t => ?_)
  · exact zr_callS (As := [.int k, .int n, .null]) (rest := []) (fr' := fJ3_checkIndex_8e157) (lo' := lJ3_checkIndex_8e157) (bc' := 0) (bs' := 0) (bcr := 0) (bsr := 0) dJ0_checkIndex_df160_5 zs_J0_1059 zst_J3_checkIndex_8e157 rfl rfl (Nat.le_of_ble_eq_true rfl) (Nat.le_of_ble_eq_true rfl) (Nat.le_of_ble_eq_true rfl) (Nat.le_refl _) (Nat.le_refl _) (c_ckIndex3 (Or.inl rfl) h0 h1 fin)
  · exact zr_callS (As := [.int k, .int n, .ref t]) (rest := []) (fr' := fJ3_checkIndex_8e157) (lo' := lJ3_checkIndex_8e157) (bc' := 0) (bs' := 0) (bcr := 0) (bsr := 0) dJ0_checkIndex_df160_5 zs_J0_1059 zst_J3_checkIndex_8e157 rfl rfl (Nat.le_of_ble_eq_true rfl) (Nat.le_of_ble_eq_true rfl) (Nat.le_of_ble_eq_true rfl) (Nat.le_refl _) (Nat.le_refl _) (c_ckIndex3 (Or.inr ⟨t, rfl⟩) h0 h1 fin)
theorem zCh_ok {i k : Nat} (hi : i < 2) (hk : k < zLn_ i) : (((zCh i k) &&& (255 : Int32)).toUInt32 % 65536).toInt32 = zCh i k ∧ narrow .char (.int (zCh i k)) = .int (zCh i k) := by
  have : ∀ a : Fin 2, ∀ b : Fin 107, b.1 < zLn_ a.1 → (((zCh a.1 b.1) &&& (255 : Int32)).toUInt32 % 65536).toInt32 = zCh a.1 b.1 ∧ narrow .char (.int (zCh a.1 b.1)) = .int (zCh a.1 b.1) := by decide +kernel
  have l : ∀ a : Fin 2, zLn_ a.1 ≤ 107 := by decide +kernel
  exact this ⟨i, hi⟩ ⟨k, Nat.lt_of_lt_of_le hk (l ⟨i, hi⟩)⟩ hk
theorem zln_lt {i : Nat} (hi : i < 2) : zLn_ i ≤ 107 := by
  have l : ∀ a : Fin 2, zLn_ a.1 ≤ 107 := by decide +kernel
  exact l ⟨i, hi⟩
theorem c_chAt1 {G : Gp} {Q : zPost} {S : zSh} {I : zFI} {L : zFL} {i k : Nat} (hi : i < 2) (hk : k < zLn_ i) (q : Q (some (.int (zCh i k))) S I L) : ZC G mJ1_charAt_3b067 fJ1_charAt_3b067 lJ1_charAt_3b067 [.ref (gVs G i), .int (nI k)] S I L 0 0 Q := by
  have lt := zln_lt hi
  refine ZC.of' (vs := [.ref (gVs G i), .int (nI k)]) ?_ rfl (Nat.le_of_ble_eq_true rfl) rfl
  refine zr_iload_n dJ1_charAt_3b067_0 rfl rfl ?_
  refine zr_aload_n dJ1_charAt_3b067_1 rfl rfl ?_
  refine zr_vlen hi rfl dJ1_charAt_3b067_2 ?_
  refine zr_callS (As := [.int (nI k), .int (Int32.ofNat (zLn_ i))]) (rest := []) (fr' := fJ0_checkIndex_df160) (lo' := lJ0_checkIndex_df160) (bc' := 0) (bs' := 0) (bcr := 0) (bsr := 0) dJ1_charAt_3b067_3 zs_J1_9 zst_J0_checkIndex_df160 rfl rfl (Nat.le_of_ble_eq_true rfl) (Nat.le_of_ble_eq_true rfl) (Nat.le_of_ble_eq_true rfl) (Nat.le_refl _) (Nat.le_refl _) ?_
  have n0 : ¬ nI k < 0 := by
    rw [Int32.lt_iff_toInt_lt, nI_toInt (by omega), show (0 : Int32).toInt = 0 from rfl]
    omega
  have n1 : nI k < Int32.ofNat (zLn_ i) := by
    show nI k < nI (zLn_ i)
    rw [Int32.lt_iff_toInt_lt, nI_toInt (by omega), nI_toInt (by omega)]
    omega
  refine c_ckIndex n0 n1 ?_
  show ZW G mJ1_charAt_3b067 fJ1_charAt_3b067 lJ1_charAt_3b067 6 [.ref (gVs G i), .int (nI k)] [] S I L 0 0 Q
  refine zr_aload_n dJ1_charAt_3b067_6 rfl rfl ?_
  refine zr_iload_n dJ1_charAt_3b067_7 rfl rfl ?_
  have kc : (nI k).toNatClampNeg = k := nI_clamp (by omega)
  refine zr_vat (v := zCh i k) hi (vp_in_nI hk (by omega)) (by rw [kc]) dJ1_charAt_3b067_8 ?_
  refine zr_sipush (v := 255) dJ1_charAt_3b067_9 (by decide) ?_
  refine zr_iand dJ1_charAt_3b067_12 ?_
  refine zr_i2c dJ1_charAt_3b067_13 (zCh_ok hi hk).1 ?_
  exact zr_ireturn dJ1_charAt_3b067_14 rfl (zCh_ok hi hk).2 q
theorem c_charAt {G : Gp} {Q : zPost} {S : zSh} {I : zFI} {L : zFL} {i k : Nat} (hi : i < 2) (hk : k < zLn_ i) (q : Q (some (.int (zCh i k))) S I L) : ZC G mJ0_charAt_5068e fJ0_charAt_5068e lJ0_charAt_5068e [.ref (gKs G i), .int (nI k)] S I L 0 0 Q := by
  refine ZC.of' (vs := [.ref (gKs G i), .int (nI k)]) ?_ rfl (Nat.le_of_ble_eq_true rfl) rfl
  refine zr_aload_n dJ0_charAt_5068e_0 rfl rfl ?_
  refine zr_callK (i := i) (As := []) (rest := []) (fr' := fJ0_isLatin1_aae02) (lo' := lJ0_isLatin1_aae02) (bc' := 0) (bs' := 0) (bcr := 0) (bsr := 0) dJ0_charAt_5068e_1 zs_J0_492 zi_J0_isLatin1_aae02 rfl hi rfl rfl (Nat.le_of_ble_eq_true rfl) (Nat.le_of_ble_eq_true rfl) (Nat.le_of_ble_eq_true rfl) (Nat.le_refl _) (Nat.le_refl _) ?_
  refine c_isLatin1 hi ?_
  show ZW G mJ0_charAt_5068e fJ0_charAt_5068e lJ0_charAt_5068e 4 [.ref (gKs G i), .int (nI k)] [.int 1] S I L 0 0 Q
  refine zr_ifeq (tgt := 16) dJ0_charAt_5068e_4 (by decide) (fun hb => absurd hb (by decide)) (fun _ => ?_)
  refine zr_aload_n dJ0_charAt_5068e_7 rfl rfl ?_
  refine zr_value hi dJ0_charAt_5068e_8 rfl ?_
  refine zr_iload_n dJ0_charAt_5068e_11 rfl rfl ?_
  refine zr_callS (As := [.ref (gVs G i), .int (nI k)]) (rest := []) (fr' := fJ1_charAt_3b067) (lo' := lJ1_charAt_3b067) (bc' := 0) (bs' := 0) (bcr := 0) (bsr := 0) dJ0_charAt_5068e_12 zs_J0_495 zst_J1_charAt_3b067 rfl rfl (Nat.le_of_ble_eq_true rfl) (Nat.le_of_ble_eq_true rfl) (Nat.le_of_ble_eq_true rfl) (Nat.le_refl _) (Nat.le_refl _) ?_
  refine c_chAt1 hi hk ?_
  show ZW G mJ0_charAt_5068e fJ0_charAt_5068e lJ0_charAt_5068e 15 [.ref (gKs G i), .int (nI k)] [.int (zCh i k)] S I L 0 0 Q
  exact zr_ireturn dJ0_charAt_5068e_15 rfl (zCh_ok hi hk).2 q
