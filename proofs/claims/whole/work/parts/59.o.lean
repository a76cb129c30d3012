/-- rows that hold nothing between calls -/
def zScr : List Nat := [67, 74, 75, 76, 77, 84, 107, 108, 109, 110, 111, 112, 113, 114, 115, 116, 117, 118, 119, 120, 121, 122, 123, 124, 125, 126, 127, 128, 129, 130, 133]
def zKeep84 : List Nat := [1, 2, 3, 13, 19, 26, 36, 37, 79, 90]
def zScrd (I J : zFI) : Prop := (∀ b, b ∉ zScr → J b = I b) ∧ J 77 0 = I 77 0 ∧ ∀ k, k ∈ zKeep84 → J 84 k = I 84 k
theorem zScrd.refl (I : zFI) : zScrd I I := ⟨fun _ _ => rfl, rfl, fun _ _ => rfl⟩
theorem zScrd.trans {I J K : zFI} (h : zScrd I J) (g : zScrd J K) : zScrd I K := ⟨fun b hb => (g.1 b hb).trans (h.1 b hb), g.2.1.trans h.2.1, fun k hk => (g.2.2 k hk).trans (h.2.2 k hk)⟩
theorem zScrd.told (I : zFI) (x : Int32) : zScrd I (u2 I 84 0 x) := ⟨fun b hb => (u2_row _ _ _ _ (fun q => hb (by rw [q]; decide))).symm, rfl, fun k hk => u2_ne _ _ _ _ (fun q => absurd (q.2 ▸ hk) (by decide))⟩
theorem zScrd.r67 {I J : zFI} (h : ∀ b, b ≠ 67 → J b = I b) : zScrd I J := ⟨fun b hb => h b (fun q => hb (by rw [q]; decide)), by rw [h 77 (by decide)], fun k _ => by rw [h 84 (by decide)]⟩
theorem zScrd.r84 {I J : zFI} (h : ∀ b, b ≠ 84 → J b = I b) (h2 : ∀ k, k ∈ zKeep84 → J 84 k = I 84 k) : zScrd I J := ⟨fun b hb => h b (fun q => hb (by rw [q]; decide)), by rw [h 77 (by decide)], h2⟩
theorem zScrd.all {S : zSh} {I : zFI} {L : zFL} {n jn mn tl ln on : Nat} {J : zFI} (h : iAll S I n jn mn tl ln on) (w : zScrd I J) : iAll S J n jn mn tl ln on ∧ zSameJ I L J L jn ∧ J 0 16 = I 0 16 := by
  obtain ⟨hS, hNow, hTim, hJnt, hMrk, hShn, hTap, hFlt, hCus, hRng, hLea, hOut, hWrd⟩ := h
  obtain ⟨hr, h77, hk⟩ := w
  have h84 : ∀ k, k ∈ zKeep84 → J 84 k = I 84 k := hk
  have h0 : ∀ k, k ∉ ([] : List Nat) → J 0 k = I 0 k := fun k _ => by rw [hr 0 (by decide)]
  refine ⟨⟨hS, hNow.fr (h0 14 (by decide)) (h0 15 (by decide)) (h84 1 (by decide)) (h84 2 (by decide)), hTim.fr (by rw [h0 14 (by decide)]; exact Int32.le_refl _) (congrFun (hr 10 (by decide)) 0) (h84 3 (by decide)) (hr 11 (by decide)) (hr 12 (by decide)) (hr 13 (by decide)) (hr 85 (by decide)) (hr 86 (by decide)) (hr 87 (by decide)), hJnt.fr (Int32.le_refl _) (by rw [h0 14 (by decide)]; exact Int32.le_refl _) (congrFun (hr 10 (by decide)) 4) (h84 13 (by decide)) (hr 14 (by decide)) (hr 15 (by decide)) (hr 16 (by decide)) (hr 17 (by decide)) (hr 18 (by decide)) (hr 94 (by decide)) (hr 95 (by decide)) (hr 96 (by decide)) (hr 97 (by decide)) (hr 98 (by decide)) (hr 88 (by decide)), hMrk.fr (Int32.le_refl _) (by rw [h0 14 (by decide)]; exact Int32.le_refl _) (congrFun (hr 19 (by decide)) 0) (h84 19 (by decide)) (hr 20 (by decide)) (hr 21 (by decide)) (hr 22 (by decide)) (hr 23 (by decide)) (hr 24 (by decide)) (hr 99 (by decide)) (hr 100 (by decide)) (hr 101 (by decide)) (hr 102 (by decide)) (hr 103 (by decide)), hShn.fr (by unfold p_X11_lastDaySeen; rw [h0 15 (by decide)]) (hr 20 (by decide)) (hr 21 (by decide)) (hr 25 (by decide)), hTap.fr (congrFun (hr 1 (by decide)) 1) (h84 26 (by decide)) (hr 2 (by decide)) (hr 104 (by decide)), hFlt.fr (h84 36 (by decide)) (h84 37 (by decide)) (congrFun (hr 3 (by decide)) 5) (congrFun (hr 3 (by decide)) 6), hCus.fr hS (hr 8 (by decide)) (hr 9 (by decide)) (hr 83 (by decide)) (hr 105 (by decide)), hRng.fr (by rw [h0 14 (by decide)]; exact Int32.le_refl _) (hr 68 (by decide)) (hr 69 (by decide)) (hr 70 (by decide)) (hr 71 (by decide)) (hr 72 (by decide)) (hr 73 (by decide)) (hr 89 (by decide)) (hr 90 (by decide)) (hr 91 (by decide)) (hr 92 (by decide)) (hr 93 (by decide)) (hr 131 (by decide)) (hr 132 (by decide)), hLea.fr (Int32.le_refl _) (by rw [h0 14 (by decide)]; exact Int32.le_refl _) h77 (h84 79 (by decide)) (hr 78 (by decide)) (hr 79 (by decide)) (hr 80 (by decide)) (hr 81 (by decide)) (hr 134 (by decide)) (hr 135 (by decide)) (hr 136 (by decide)) (hr 137 (by decide)), hOut.fr (h0 12 (by decide)) (h84 90 (by decide)) (hr 82 (by decide)) (hr 138 (by decide)), hWrd.fr (hr 106 (by decide))⟩, zSameJ.of_rows (h0 15 (by decide)) (fun a ha => hr a (fun q => ?_)), h0 16 (by decide)⟩
  have : ∀ x, x ∈ zScr → 66 < x ∧ x ≠ 83 ∧ x < 139 := by decide
  have := this a q
  omega
/-- all but what is written out -/
def iMid (S : zSh) (I : zFI) (n jn mn tl ln : Nat) : Prop := zStd S ∧ iNow I ∧ iTim I n ∧ iJnt I n jn ∧ iMrk I jn mn ∧ iShn I mn ∧ iTap I tl ∧ iFlt I ∧ iCus S I ∧ iRng I n ∧ iLea I n ln ∧ iWrd I
theorem iAll.mid {S : zSh} {I : zFI} {n jn mn tl ln on : Nat} (h : iAll S I n jn mn tl ln on) : iMid S I n jn mn tl ln := by
  obtain ⟨hS, hNow, hTim, hJnt, hMrk, hShn, hTap, hFlt, hCus, hRng, hLea, hOut, hWrd⟩ := h
  exact ⟨hS, hNow, hTim, hJnt, hMrk, hShn, hTap, hFlt, hCus, hRng, hLea, hWrd⟩
theorem iMid.all {S : zSh} {I : zFI} {n jn mn tl ln on : Nat} (h : iMid S I n jn mn tl ln) (hOut : iOut I on) : iAll S I n jn mn tl ln on := by
  obtain ⟨hS, hNow, hTim, hJnt, hMrk, hShn, hTap, hFlt, hCus, hRng, hLea, hWrd⟩ := h
  exact ⟨hS, hNow, hTim, hJnt, hMrk, hShn, hTap, hFlt, hCus, hRng, hLea, hOut, hWrd⟩
theorem iMid.fr {S : zSh} {I J : zFI} {n jn mn tl ln : Nat} (h : iMid S I n jn mn tl ln) (hr : ∀ b, b ∉ (0 :: 82 :: 138 :: zScr : List Nat) → J b = I b) (h77 : J 77 0 = I 77 0) (h0 : ∀ k, k ∉ [12] → J 0 k = I 0 k) (h84 : ∀ k, k ∈ ([1, 2, 3, 13, 19, 26, 36, 37, 79] : List Nat) → J 84 k = I 84 k) : iMid S J n jn mn tl ln := by
  obtain ⟨hS, hNow, hTim, hJnt, hMrk, hShn, hTap, hFlt, hCus, hRng, hLea, hWrd⟩ := h
  exact ⟨hS, hNow.fr (h0 14 (by decide)) (h0 15 (by decide)) (h84 1 (by decide)) (h84 2 (by decide)), hTim.fr (by rw [h0 14 (by decide)]; exact Int32.le_refl _) (congrFun (hr 10 (by decide)) 0) (h84 3 (by decide)) (hr 11 (by decide)) (hr 12 (by decide)) (hr 13 (by decide)) (hr 85 (by decide)) (hr 86 (by decide)) (hr 87 (by decide)), hJnt.fr (Int32.le_refl _) (by rw [h0 14 (by decide)]; exact Int32.le_refl _) (congrFun (hr 10 (by decide)) 4) (h84 13 (by decide)) (hr 14 (by decide)) (hr 15 (by decide)) (hr 16 (by decide)) (hr 17 (by decide)) (hr 18 (by decide)) (hr 94 (by decide)) (hr 95 (by decide)) (hr 96 (by decide)) (hr 97 (by decide)) (hr 98 (by decide)) (hr 88 (by decide)), hMrk.fr (Int32.le_refl _) (by rw [h0 14 (by decide)]; exact Int32.le_refl _) (congrFun (hr 19 (by decide)) 0) (h84 19 (by decide)) (hr 20 (by decide)) (hr 21 (by decide)) (hr 22 (by decide)) (hr 23 (by decide)) (hr 24 (by decide)) (hr 99 (by decide)) (hr 100 (by decide)) (hr 101 (by decide)) (hr 102 (by decide)) (hr 103 (by decide)), hShn.fr (by unfold p_X11_lastDaySeen; rw [h0 15 (by decide)]) (hr 20 (by decide)) (hr 21 (by decide)) (hr 25 (by decide)), hTap.fr (congrFun (hr 1 (by decide)) 1) (h84 26 (by decide)) (hr 2 (by decide)) (hr 104 (by decide)), hFlt.fr (h84 36 (by decide)) (h84 37 (by decide)) (congrFun (hr 3 (by decide)) 5) (congrFun (hr 3 (by decide)) 6), hCus.fr hS (hr 8 (by decide)) (hr 9 (by decide)) (hr 83 (by decide)) (hr 105 (by decide)), hRng.fr (by rw [h0 14 (by decide)]; exact Int32.le_refl _) (hr 68 (by decide)) (hr 69 (by decide)) (hr 70 (by decide)) (hr 71 (by decide)) (hr 72 (by decide)) (hr 73 (by decide)) (hr 89 (by decide)) (hr 90 (by decide)) (hr 91 (by decide)) (hr 92 (by decide)) (hr 93 (by decide)) (hr 131 (by decide)) (hr 132 (by decide)), hLea.fr (Int32.le_refl _) (by rw [h0 14 (by decide)]; exact Int32.le_refl _) h77 (h84 79 (by decide)) (hr 78 (by decide)) (hr 79 (by decide)) (hr 80 (by decide)) (hr 81 (by decide)) (hr 134 (by decide)) (hr 135 (by decide)) (hr 136 (by decide)) (hr 137 (by decide)), hWrd.fr (hr 106 (by decide))⟩
theorem zScrd.mid {S : zSh} {I J : zFI} {n jn mn tl ln : Nat} (h : iMid S I n jn mn tl ln) (w : zScrd I J) : iMid S J n jn mn tl ln :=
  h.fr (fun b hb => w.1 b (fun q => hb (List.mem_cons_of_mem _ (List.mem_cons_of_mem _ (List.mem_cons_of_mem _ q))))) w.2.1 (fun k _ => by rw [w.1 0 (by decide)]) (fun k hk => w.2.2 k (by
    have : ∀ k, k ∈ ([1, 2, 3, 13, 19, 26, 36, 37, 79] : List Nat) → k ∈ zKeep84 := by decide
    exact this k hk))
theorem zScrd.seen {I J : zFI} (w : zScrd I J) : p_X11_lastDaySeen J = p_X11_lastDaySeen I := by
  unfold p_X11_lastDaySeen
  rw [w.1 0 (by decide)]
theorem zScrd.sn {I J : zFI} (w : zScrd I J) (n : Nat) : zsn J n = zsn I n := by
  unfold zsn
  rw [w.1 13 (by decide), w.seen]
theorem zScrd.sj {I J : zFI} (w : zScrd I J) (n : Nat) : zsj J n = zsj I n := by
  unfold zsj
  rw [w.1 18 (by decide), w.seen]
/-- how many rings of a timber are seen -/
def zrs (I : zFI) (t : Nat) : Nat := zlead (fun k => decide (I 71 (24 * t + k) ≤ p_X11_lastDaySeen I)) (I 69 t).toNatClampNeg
theorem zScrd.rs {I J : zFI} (w : zScrd I J) (t : Nat) : zrs J t = zrs I t := by
  unfold zrs
  rw [w.1 71 (by decide), w.1 69 (by decide), w.seen]
theorem cu_of {S : zSh} {I : zFI} (h : iCus S I) {v : Int32} (hv : v = 0 ∨ v = 1) : ∃ c : Nat, c ≤ 1 ∧ v = nI c ∧ iCu1 I (zrl S v) c := by
  rcases hv with rfl | rfl
  · exact ⟨0, by omega, rfl, h.1⟩
  · exact ⟨1, by omega, rfl, h.2⟩
theorem op_date {G : Gp} {S : zSh} {I : zFI} {L : zFL} {n jn mn tl ln on : Nat} {v1 v2 v3 : Int32} (h : iAll S I n jn mn tl ln on) : zOpI G mX11_date fX11_date lX11_date mX12_date fX12_date lX12_date [.int v1, .int v2, .int v3] S I L 0 0 (fun S' I' L' => S' = S ∧ iAll S I' n jn mn tl ln on ∧ zSameJ I L I' L' jn ∧ I' 0 16 = I 0 16) := by
  have hA := h
  have hT := hA.told (L := L) 0
  obtain ⟨hS, hNow, hTim, hJnt, hMrk, hShn, hTap, hFlt, hCus, hRng, hLea, hOut, hWrd⟩ := h
  obtain ⟨t1, t2, t3, t4, t5⟩ := id hTim
  have sl := zsn_le I n
  have hv : ¬ v2 < 0 → ¬ (u2 I 84 0 0) 84 3 ≤ v2 → vp_in v2 16 := fun a b => by
    have b : ¬ I 84 3 ≤ v2 := b
    refine zvin (m := 16) rfl (Int32.not_lt.mp a) ?_
    rw [t3, Int32.not_le, zlt, znI (by omega)] at b
    rw [zlt, show (16 : Int32).toInt = 16 from rfl]
    omega
  refine ZC.of' (vX11_date_0 hS ⟨fun c1 => ?_, fun c1 => c_isTimber hS hTim (fun t u1 u2' => ⟨_, rfl, rfl, fun _ => ?_, fun q => absurd q (by decide)⟩) (fun c0 => ⟨_, rfl, rfl, fun q => absurd rfl q, fun _ => ?_⟩)⟩) rfl (Nat.le_of_ble_eq_true rfl) rfl
  · refine ⟨_, rfl, ZC.of' (vX12_date_0 hS ⟨fun _ => ⟨rfl, rfl, hT⟩, fun q => ?_⟩) rfl (Nat.le_of_ble_eq_true rfl) rfl⟩
    exact absurd (isIn_01.mpr (isCu_0.mp c1)) q
  · subst u2'
    have cv := Classical.not_not.mp (fun q => c1 (isCu_0.mpr q))
    obtain ⟨c, hc, hcv, hcu⟩ := cu_of hCus cv
    obtain ⟨hr1, hr2⟩ := hS.rl cv
    obtain ⟨s1, s2, s3, s4, s5, s6, s7, s8, s9⟩ := hRng.2 t (by omega)
    obtain ⟨q, q1, q2, q3⟩ := zi_le (n := 24) s2 s3 (by decide)
    have hrs : zlead (fun k => decide (I 71 (24 * t + k) ≤ p_X11_lastDaySeen I)) q = zrs I t := by
      unfold zrs
      rw [q2, znIc (by omega)]
    refine ⟨cv, c_dateBy hS hr2 (by omega) q2 q1 s8 hrs (fun I1 x w1 w2 w3 w4 w5 w6 w7 => ⟨rfl, rfl, _, rfl, ?_⟩)⟩
    have z1 : zScrd I (u2 I1 84 0 0) := (zScrd.r67 w1).trans (zScrd.told _ _)
    obtain ⟨a1, a2, a3⟩ := z1.all (L := L) hA
    have c0 : ¬ p_X12_isTimber (u2 I1 84 0 0) (nI t) = 0 := fun q => by
      refine (mTim_0 a1.2.1 a1.2.2.1).mp q ⟨nI_pos' (by omega), ?_⟩
      rw [z1.sn]
      exact nI_lt u1 (by omega)
    have cu1 : iCu1 (u2 I1 84 0 0) (zrl S v1) c := by
      obtain ⟨c', e1, e2, e3⟩ := cu_of a1.2.2.2.2.2.2.2.2.1 cv
      have : c' = c := by
        rw [e2, zeq, znI (by omega), znI (by omega)] at hcv
        omega
      rw [← this]
      exact e3
    subst hcv
    refine ZC.of' (vX12_date_0 hS ⟨fun q => absurd cv (isIn_01.mp q), fun _ => ⟨fun _ _ => znIin (by omega) (by decide), fun q => absurd q c0, fun _ => ⟨fun cin => ?_, fun cin => ⟨?_, rfl, a1, a2, a3⟩⟩⟩⟩) rfl (Nat.le_of_ble_eq_true rfl) rfl
    · have cin := Classical.not_not.mp (fun q => cin ((isIn_0 _ _ _).mpr q))
      refine m_findDate hS a1.2.1 a1.2.2.2.2.2.2.2.2.2.1 hc cu1 hr2 (by omega) (z1.rs t) (fun I2 y y1 y2 y3 y4 y5 y6 y7 y8 => ⟨rfl, rfl, ?_⟩)
      have hrr : (u2 I1 84 0 0) (zrl S (nI c)) = I (zrl S (nI c)) := z1.1 _ (by rcases hr2 with w | w | w <;> rw [w] <;> decide)
      rw [hrr, z1.1 68 (by decide), z1.1 70 (by decide)] at y7
      rw [hrr, z1.1 68 (by decide), z1.1 70 (by decide), z1.1 72 (by decide), z1.1 73 (by decide)] at y8
      rw [z1.1 68 (by decide), z1.1 70 (by decide)] at y3 y4
      have z2 : zScrd I I2 := z1.trans (zScrd.r84 y1 (fun k hk => y2 k (by have : ∀ x, x ∈ zKeep84 → x < 73 ∨ 77 < x := by decide
                                                                           exact this k hk)))
      have T := z2.all (L := L) hA
      have xy : y = x := by
        rcases w5 with w | w <;> rcases y6 with z | z
        · rw [w, z]
        · exact absurd (w6.mpr (y7.mp z)) (by rw [w]; decide)
        · exact absurd (y7.mpr (w6.mp w)) (by rw [z]; decide)
        · rw [w, z]
      subst xy
      have st : y = 1 → ¬ zal (zagr (I 68) (I 70) t (zrs I t)) 200 = -1 := fun q => (y7.mp q).1
      have x8 : (50 * nI c + 8 : Int32) = nI (50 * c + 8) := zx50 c 8
      have e8 : I2 105 (50 * nI c + 8).toNatClampNeg = I (zrl S (nI c)) 8 := by
        rw [x8, znIc (by omega), z2.1 105 (by decide), hcu.1 8 (by omega)]
      have fu : zfU (zfT (I 73 t) (zal (zagr (I 68) (I 70) t (zrs I t)) 200) (I (zrl S (nI c)) 6) (I (zrl S (nI c)) 7) (if nI (zrs I t) < I 72 t then nI (zrs I t) else I 72 t)) (I (zrl S (nI c)) 8) = if (zfT (I 73 t) (zal (zagr (I 68) (I 70) t (zrs I t)) 200) (I (zrl S (nI c)) 6) (I (zrl S (nI c)) 7) (if nI (zrs I t) < I 72 t then nI (zrs I t) else I 72 t)) + I (zrl S (nI c)) 8 ≤ 999 then (zfT (I 73 t) (zal (zagr (I 68) (I 70) t (zrs I t)) 200) (I (zrl S (nI c)) 6) (I (zrl S (nI c)) 7) (if nI (zrs I t) < I 72 t then nI (zrs I t) else I 72 t)) + I (zrl S (nI c)) 8 else 999 := by
        generalize zfT (I 73 t) (zal (zagr (I 68) (I 70) t (zrs I t)) 200) (I (zrl S (nI c)) 6) (I (zrl S (nI c)) 7) (if nI (zrs I t) < I 72 t then nI (zrs I t) else I 72 t) = T1
        unfold zfU
        by_cases z : T1 + I (zrl S (nI c)) 8 < 999
        · rw [if_pos z, if_pos (by lia)]
        · rw [if_neg z]
          split
          · lia
          · rfl
      unfold p_X8_dated p_X8_felledOrUsed p_X12_usedTo
      rw [w2, w3, w4, y3, y4, y5, e8]
      generalize zal (zagr (I 68) (I 70) t (zrs I t)) 200 = la at *
      generalize zag (zagr (I 68) (I 70) t (zrs I t)) 200 = ag at *
      refine ⟨fun d => ⟨fun d0 => ⟨fun d1 => ⟨fun d2 => ⟨fun d3 => ?_, fun d3 => ⟨?_, rfl, T⟩⟩, fun d2 => ⟨fun d3 => ⟨?_, rfl, T⟩, fun d3 => ⟨?_, rfl, T⟩⟩⟩, fun d1 => ⟨?_, rfl, T⟩⟩, fun d0 => ⟨?_, rfl, T⟩⟩, fun d => ⟨?_, rfl, T⟩⟩
      · rw [if_neg d, if_neg d0, if_neg d1, if_neg d2, if_neg d3]
        have w1y : y = 1 := y6.resolve_left d3
        obtain ⟨f1, f2, f3⟩ := w7 w1y
        obtain ⟨f4, f5⟩ := y8 d
        rw [f1, f2, f3, f4, f5, fu]
        refine ⟨fun e => ⟨?_, rfl, T⟩, fun e => ⟨fun e5 => ⟨fun e4 => ⟨?_, ?_, rfl, T⟩, fun e4 => ⟨?_, rfl, T⟩⟩, fun e5 => ⟨?_, rfl, T⟩⟩⟩
        · rw [if_pos e]
        · rw [x8]
          exact znIin (by omega) (by decide)
        · have : v3 = 6 := by have := cin.1; have := cin.2; lia
          rw [if_neg e, if_neg e4, if_neg e5, if_pos this]
        · rw [if_neg e, if_pos e4]
        · rw [if_neg e, if_neg (show ¬ v3 = 4 by lia), if_pos e5]
      · rw [if_neg d, if_neg d0, if_neg d1, if_neg d2, if_pos d3]
      · rw [if_neg d, if_neg d0, if_neg d1, if_pos d2, if_pos d3]
      · rw [if_neg d, if_neg d0, if_neg d1, if_pos d2, if_neg d3]
      · rw [if_neg d, if_neg d0, if_pos d1]
      · rw [if_neg d, if_pos d0]
      · rw [if_pos d]
    · rw [isIn_0] at cin
      unfold p_X8_dated p_X8_felledOrUsed
      rw [if_neg (show ¬ v3 = 0 by lia), if_neg (show ¬ v3 = 1 by lia), if_neg (show ¬ v3 = 2 by lia), if_neg (show ¬ v3 = 3 by lia), if_neg (show ¬ v3 = 4 by lia), if_neg (show ¬ v3 = 5 by lia), if_neg (show ¬ v3 = 6 by lia)]
      simp
  · have cv := Classical.not_not.mp (fun q => c1 (isCu_0.mpr q))
    exact ⟨_, rfl, ZC.of' (vX12_date_0 hS ⟨fun q => absurd cv (isIn_01.mp q), fun _ => ⟨hv, fun _ => ⟨rfl, rfl, hT⟩, fun q => absurd ((mTim_0 hT.1.2.1 hT.1.2.2.1).mpr c0) q⟩⟩) rfl (Nat.le_of_ble_eq_true rfl) rfl⟩
