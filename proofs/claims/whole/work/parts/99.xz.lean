/-! the world at the law's entry -/
theorem lw_in (i : Nat) {w : Cond} (h : lw_tbl[i]? = some w) : w ∈ lw_tbl := List.mem_of_getElem? h
theorem e_Kn {s : State} {args : Array Value} (hz : ∀ w ∈ ZTbl, w.before args s = true) : ∃ (dC : Nat → ClassId) (dI : Nat → Nat → Nat), ∀ (k : Nat) (q : vw_C), vwCl[k]? = some q → u_Kn s q.1 q.2.1 q.2.2 (dC k) (dI k) := by
  obtain ⟨c0, i0, h0⟩ := u_known (C := RX0) (T := TX0) (N := 6) (n := 6) hz zcl_0.2.1 (hz _ zit_X0)
  obtain ⟨c1, i1, h1⟩ := u_known (C := RX1) (T := TX1) (N := 11) (n := 11) hz zcl_1.2.1 (hz _ zit_X1)
  obtain ⟨c2, i2, h2⟩ := u_known (C := RX2) (T := TX2) (N := 7) (n := 7) hz zcl_2.2.1 (hz _ zit_X2)
  obtain ⟨c3, i3, h3⟩ := u_known (C := RX3) (T := TX3) (N := 9) (n := 9) hz zcl_3.2.1 (hz _ zit_X3)
  obtain ⟨c4, i4, h4⟩ := u_known (C := RX4) (T := TX4) (N := 14) (n := 14) hz zcl_4.2.1 (hz _ zit_X4)
  obtain ⟨c5, i5, h5⟩ := u_known (C := RX5) (T := TX5) (N := 10) (n := 10) hz zcl_5.2.1 (hz _ zit_X5)
  obtain ⟨c6, i6, h6⟩ := u_known (C := RX6) (T := TX6) (N := 7) (n := 7) hz zcl_6.2.1 (hz _ zit_X6)
  obtain ⟨c7, i7, h7⟩ := u_known (C := RX7) (T := TX7) (N := 8) (n := 8) hz zcl_7.2.1 (hz _ zit_X7)
  obtain ⟨c8, i8, h8⟩ := u_known (C := RX8) (T := TX8) (N := 12) (n := 12) hz zcl_8.2.1 (hz _ zit_X8)
  obtain ⟨c9, i9, h9⟩ := u_known (C := RX9) (T := TX9) (N := 2) (n := 2) hz zcl_9.2.1 (hz _ zit_X9)
  obtain ⟨c10, i10, h10⟩ := u_known (C := RX10) (T := TX10) (N := 10) (n := 10) hz zcl_10.2.1 (hz _ zit_X10)
  obtain ⟨c11, i11, h11⟩ := u_known (C := RX11) (T := TX11) (N := 17) (n := 17) hz zcl_11.2.1 (hz _ zit_X11)
  obtain ⟨c12, i12, h12⟩ := u_known (C := RX12) (T := TX12) (N := 91) (n := 91) hz zcl_12.2.1 (hz _ zit_X12)
  refine ⟨fun k => match k with | 0 => c0 | 1 => c1 | 2 => c2 | 3 => c3 | 4 => c4 | 5 => c5 | 6 => c6 | 7 => c7 | 8 => c8 | 9 => c9 | 10 => c10 | 11 => c11 | _ => c12, fun k => match k with | 0 => i0 | 1 => i1 | 2 => i2 | 3 => i3 | 4 => i4 | 5 => i5 | 6 => i6 | 7 => i7 | 8 => i8 | 9 => i9 | 10 => i10 | 11 => i11 | _ => i12, fun k q hq => ?_⟩
  match k, hq with
  | 0, hq => cases hq; exact h0
  | 1, hq => cases hq; exact h1
  | 2, hq => cases hq; exact h2
  | 3, hq => cases hq; exact h3
  | 4, hq => cases hq; exact h4
  | 5, hq => cases hq; exact h5
  | 6, hq => cases hq; exact h6
  | 7, hq => cases hq; exact h7
  | 8, hq => cases hq; exact h8
  | 9, hq => cases hq; exact h9
  | 10, hq => cases hq; exact h10
  | 11, hq => cases hq; exact h11
  | 12, hq => cases hq; exact h12
  | k + 13, hq => simp [vwCl] at hq
theorem e_arr {s : State} {args : Array Value} {ty : FieldType} (h : (Cond.arrayClass ty).before args s = true) : ∃ cA : ClassId, ArrOfT s cA ty ∧ s.vm.findClass ("[" ++ ty.toString) = some cA := by
  obtain ⟨c, k, comp, h1, h2, h3⟩ := Cond.arrayClass_spec h
  exact ⟨c, fun N z => ⟨(fun k h => by cases h), k, h2, comp, h3⟩, h1⟩
theorem e_obj {s : State} {args : Array Value} {n : String} (h : (Cond.arrayOver (.object n)).before args s = true) : ∃ cA : ClassId, ArrOfT s cA (.object n) ∧ va_RA s cA (.object n) := by
  obtain ⟨comp, c, k, h1, h2, h3, h4, h5⟩ := Cond.arrayOver_spec h
  exact ⟨c, fun N z => ⟨(fun k h => by cases h), k, h3, comp, h4⟩, k, comp, h3, h4, h1, h5⟩
theorem e_aoCustom {s : State} {args : Array Value} (hT : ∀ w ∈ lw_tbl, w.before args s = true) : (Cond.arrayOver (.object "FrameReader$Custom")).before args s = true := hT _ (lw_in 176 (by decide +kernel))
theorem e_aoJoin {s : State} {args : Array Value} (hT : ∀ w ∈ lw_tbl, w.before args s = true) : (Cond.arrayOver (.object "FrameReader$Join")).before args s = true := hT _ (lw_in 307 (by decide +kernel))
theorem e_aoFrames {s : State} {args : Array Value} (hT : ∀ w ∈ lw_tbl, w.before args s = true) : (Cond.arrayOver (.object "FrameReader$Frames")).before args s = true := hT _ (lw_in 359 (by decide +kernel))
theorem e_K {s : State} {args : Array Value} (hT : ∀ w ∈ lw_tbl, w.before args s = true) (hz : ∀ w ∈ ZTbl, w.before args s = true) : ∃ (D : va_G) (cA : Nat → ClassId), va_K D vwCl (ztys cA) s := by
  obtain ⟨dC, dI, hK⟩ := e_Kn hz
  obtain ⟨a1, b1, n1⟩ := e_arr (hz _ zac_int)
  obtain ⟨a2, b2, n2⟩ := e_arr (hz _ zac_long)
  obtain ⟨a3, b3, n3⟩ := e_arr (hz _ zac_byte)
  obtain ⟨a4, b4, n4⟩ := e_arr (hz _ zac_boolean)
  obtain ⟨a5, b5, n5⟩ := e_obj (e_aoCustom hT)
  obtain ⟨a6, b6, n6⟩ := e_obj (e_aoJoin hT)
  obtain ⟨a7, b7, n7⟩ := e_obj (e_aoFrames hT)
  refine ⟨(dC, dI), fun k => match k with | 1 => a1 | 2 => a2 | 3 => a3 | 4 => a4 | 5 => a5 | 6 => a6 | _ => a7, hK, fun k q hq => ?_⟩
  match k, hq with
  | 0, hq => cases hq; exact ⟨b1, n1⟩
  | 1, hq => cases hq; exact ⟨b2, n2⟩
  | 2, hq => cases hq; exact ⟨b3, n3⟩
  | 3, hq => cases hq; exact ⟨b4, n4⟩
  | 4, hq => cases hq; exact ⟨b5, n5⟩
  | 5, hq => cases hq; exact ⟨b6, n6⟩
  | 6, hq => cases hq; exact ⟨b7, n7⟩
  | k + 7, hq => simp [ztys] at hq
def zNix : List Nat := [135, 149, 240, 396, 473, 498, 780, 871, 908, 913, 1013, 1058, 1353]
theorem e_nix : ∀ i : Fin 13, lw_tbl[zNix.getD i.1 0]? = zNest[i.1]? := by decide +kernel
theorem e_nest {s : State} {args : Array Value} (hT : ∀ w ∈ lw_tbl, w.before args s = true) : ∀ w ∈ zNest, va_Nw w s := by
  intro w hw
  obtain ⟨i, hi⟩ := List.getElem?_of_mem hw
  have l : i < 13 := (List.getElem?_eq_some_iff.mp hi).1
  have h := hT w (lw_in _ ((e_nix ⟨i, l⟩).trans hi))
  obtain ⟨q, -, rfl⟩ := List.mem_map.mp hw
  exact va_Nw.of rfl h
def zPre : List Cond := flatC (Jvm.Cond.and given_1 narrow_1)
def zTm1 (i : Nat) : Term := if i = 0 then .string "FrameReader$CustomText" 163 else .string "FrameReader$Marks" 92
def zOf1 (i : Nat) : Nat := if i = 0 then 9 else 120
theorem e_ex : ∀ i : Fin 2, zPre[zOf1 i.1]? = some (Cond.exactly (zTm1 i.1) "java/lang/String") ∧ zPre[zOf1 i.1 + 1]? = some (Cond.eq (.field (zTm1 i.1) "java/lang/String" "coder" "B") (.int 0)) ∧ zPre[zOf1 i.1 + 2]? = some (Cond.arrayOf (.field (zTm1 i.1) "java/lang/String" "value" "[B") .byte) ∧ zPre[zOf1 i.1 + 3]? = some (Cond.eq (.length (.field (zTm1 i.1) "java/lang/String" "value" "[B")) (.int (Int32.ofNat (zLen.getD i.1 0)))) := by decide +kernel
theorem e_el0 : ∀ j : Fin 107, zPre[13 + j.1]? = some (Cond.eq (.elem (.field (zTm1 0) "java/lang/String" "value" "[B") (.int (Int32.ofNat j.1))) (.int ((zTxC.getD 0 []).getD j.1 0))) := by decide +kernel
theorem e_el1 : ∀ j : Fin 60, zPre[124 + j.1]? = some (Cond.eq (.elem (.field (zTm1 1) "java/lang/String" "value" "[B") (.int (Int32.ofNat j.1))) (.int ((zTxC.getD 1 []).getD j.1 0))) := by decide +kernel
theorem e_st : zPre[4]? = some (Cond.eq (.static "java/lang/String" "COMPACT_STRINGS" "Z") (.int 1)) ∧ zPre[5]? = some (Cond.isRef (.static "jdk/internal/util/Preconditions" "SIOOBE_FORMATTER" "Ljava/util/function/BiFunction;")) ∧ zPre[184]? = some (Cond.not (Cond.eq (zTm1 0) (zTm1 1))) := by decide +kernel
theorem e_ext {s : State} {args : Array Value} {B : Nat} (hB : B = s.heap.size) (hT : ∀ w ∈ lw_tbl, w.before args s = true) (hz : ∀ w ∈ ZTbl, w.before args s = true) (hG : (Jvm.Cond.and given_1 narrow_1).before args s = true) : ∃ aK aV : Nat → Nat, ZExt B aK aV s s.heap := by
  have hf : ∀ (i : Nat) (w : Cond), zPre[i]? = some w → w.before args s = true := fun i w h => flat_of_before _ hG w (List.mem_of_getElem? h)
  have hA : ∀ a : Nat, a < s.heap.size → ¬ B ≤ a := fun a ha => by omega
  have two : ∀ i, i < 2 → i = 0 ∨ i = 1 := fun i hi => by omega
  obtain ⟨aK, aV, hS, hE⟩ := vk_Sof (args := args) (s := s) (N := 2) (tm := zTm1) (len := zLen) (byt := zTxC) (A := fun q : Nat => B ≤ q) (fun i hi => by rcases two i hi with e | e <;> subst e <;> decide)
    (fun i hi => hf _ _ (e_ex ⟨i, hi⟩).1) (fun i hi => hf _ _ (e_ex ⟨i, hi⟩).2.1) (fun i hi => hf _ _ (e_ex ⟨i, hi⟩).2.2.1) (fun i hi => hf _ _ (e_ex ⟨i, hi⟩).2.2.2)
    (fun i hi j hj => by
      rcases two i hi with e | e
      · subst e; exact hf _ _ (e_el0 ⟨j, hj⟩)
      · subst e; exact hf _ _ (e_el1 ⟨j, hj⟩))
    (fun i j hi hj ne => by
      rcases two i hi with e | e <;> rcases two j hj with e' | e' <;> subst e <;> subst e'
      · exact absurd rfl ne
      · exact Or.inl (hf _ _ e_st.2.2)
      · exact Or.inr (hf _ _ e_st.2.2)
      · exact absurd rfl ne) hA
  refine ⟨aK, aV, e_nest hT, vk_R.of (hT (.stringRef "FrameReader$CustomText" 163 zTx0) (lw_in 716 (by decide +kernel))) (hE 0 (by decide)), vk_R.of (hT (.stringRef "FrameReader$Marks" 92 zTx1) (lw_in 893 (by decide +kernel))) (hE 1 (by decide)), hS,
    va_Zof (hT (.laysStatic "java/lang/String" "COMPACT_STRINGS" "Z") (lw_in 726 (by decide +kernel))) (hz _ zini_J0) (va_eqt (hf _ _ e_st.1)) hA,
    va_Zqof (hT (.laysStatic "jdk/internal/util/Preconditions" "SIOOBE_FORMATTER" "Ljava/util/function/BiFunction;") (lw_in 742 (by decide +kernel))) (hz _ zini_J3) (hf _ _ e_st.2.1) hA,
    va_AO.of (e_aoCustom hT), va_AO.of (e_aoJoin hT), va_AO.of (e_aoFrames hT)⟩
