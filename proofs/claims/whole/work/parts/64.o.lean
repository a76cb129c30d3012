theorem zScrd.nm {I J : zFI} (w : zScrd I J) {r : Nat} (hr : zCu r) (x : Int32) : zNm J r x = zNm I r x := by
  have e : J r = I r := w.1 r (by rcases hr with rfl | rfl | rfl <;> decide)
  unfold zNm
  rw [w.1 22 (by decide), w.1 24 (by decide), e]
/-- TENON t FITS HOLE h, by the custom in cell r -/
def zFt (I : zFI) (r t h : Nat) : Prop := ¬ zNm I r (I 25 t) &&& zNm I r (I 25 h) = 0 ∧ ¬ p_X11_canFit I r (nI t) (nI h) = 0
theorem canFit_01 (I : zFI) (r : Nat) (a b : Int32) : p_X11_canFit I r a b = 0 ∨ p_X11_canFit I r a b = 1 := by
  unfold p_X11_canFit
  repeat' split
  all_goals first | exact Or.inl rfl | exact Or.inr rfl
theorem goes_bit {I : zFI} {r i j : Nat} : p_X1_goesInto I r (nI i) (nI j) = 0 ↔ iBit (I r 9) (4 * i + j) = 0 := by
  unfold p_X1_goesInto
  rw [show (4 : Int32) = nI 4 from rfl, pk_mul, nI_add]
  show (if iBit (I r 9) (4 * i + j) = 1 then (1 : Int32) else 0) = 0 ↔ _
  rcases iBit01 (I r 9) (4 * i + j) with e | e <;> rw [e] <;> decide
theorem canFit_iff {I : zFI} {r t h n jn ka kb : Nat} (hJnt : iJnt I n jn) (hn : n ≤ 16) (ht : t < jn) (hh : h < jn) (ea : I 11 (I 14 t).toNatClampNeg = nI ka) (eb : I 11 (I 14 h).toNatClampNeg = nI kb) :
    ¬ p_X11_canFit I r (nI t) (nI h) = 0 ↔ ¬ I 14 t = I 14 h ∧ ¬ (I 17 h - I 17 t) < 0 ∧ (I 17 h - I 17 t) ≤ I r 2 ∧ ¬ iBit (I r 9) (4 * ka + kb) = 0 ∧ (p_X6_signsOn I (nI t) = 0 ∨ p_X6_signsOn I (nI h) = 0 ∨ p_X6_sideOf I (nI t) = p_X6_sideOf I (nI h)) := by
  obtain ⟨j1, j2, j3, j4, j5, j6⟩ := hJnt
  have P : ∀ a k, k < jn → p_X11_pick I a 48 (nI k) = I a k := fun a k hk => pick_in (by omega) (by decide)
  have K : ∀ k, k < jn → p_X11_pick I 11 16 (I 14 k) = I 11 (I 14 k).toNatClampNeg := fun k hk => by
    obtain ⟨-, -, -, -, -, b6, b7, -⟩ := j4 k hk
    have b7 := zlt.mp b7
    rw [znI (by omega)] at b7
    unfold p_X11_pick
    rw [if_neg (Int32.not_lt.mpr b6), if_neg (show ¬ Int32.ofNat 16 ≤ I 14 k by rw [show Int32.ofNat 16 = nI 16 from rfl, Int32.not_le, zlt, znI (by omega)]; omega)]
  unfold p_X11_canFit p_X10_timberOf p_X10_sizeOf p_X10_kindOf
  rw [P 14 t ht, P 14 h hh, P 17 t ht, P 17 h hh, K t ht, K h hh, ea, eb]
  by_cases c1 : I 14 t = I 14 h
  · rw [if_pos c1]
    exact ⟨fun q => absurd rfl q, fun q => absurd c1 q.1⟩
  · rw [if_neg c1]
    by_cases c2 : I 17 h - I 17 t < 0
    · rw [if_pos c2]
      exact ⟨fun q => absurd rfl q, fun q => absurd c2 q.2.1⟩
    · rw [if_neg c2]
      by_cases c3 : I 17 h - I 17 t ≤ I r 2
      · rw [if_pos c3]
        by_cases c4 : iBit (I r 9) (4 * ka + kb) = 0
        · rw [if_pos (goes_bit.mpr c4)]
          exact ⟨fun q => absurd rfl q, fun q => absurd c4 q.2.2.2.1⟩
        · rw [if_neg (fun q => c4 (goes_bit.mp q))]
          by_cases c5 : p_X6_signsOn I (nI t) = 0
          · rw [if_pos c5]
            exact ⟨fun _ => ⟨c1, c2, c3, c4, Or.inl c5⟩, fun _ => by decide⟩
          · rw [if_neg c5]
            by_cases c6 : p_X6_signsOn I (nI h) = 0
            · rw [if_pos c6]
              exact ⟨fun _ => ⟨c1, c2, c3, c4, Or.inr (Or.inl c6)⟩, fun _ => by decide⟩
            · rw [if_neg c6]
              by_cases c7 : p_X6_sideOf I (nI t) = p_X6_sideOf I (nI h)
              · rw [if_pos c7]
                exact ⟨fun _ => ⟨c1, c2, c3, c4, Or.inr (Or.inr c7)⟩, fun _ => by decide⟩
              · rw [if_neg c7]
                refine ⟨fun q => absurd rfl q, fun q => ?_⟩
                rcases q.2.2.2.2 with z | z | z
                · exact absurd z c5
                · exact absurd z c6
                · exact absurd z c7
      · rw [if_neg c3]
        exact ⟨fun q => absurd rfl q, fun q => absurd q.2.2.1 c3⟩
theorem kind_of {I : zFI} {n jn k : Nat} (hTim : iTim I n) (hJnt : iJnt I n jn) (hk : k < jn) : ∃ a ka, a < n ∧ I 14 k = nI a ∧ ka < 4 ∧ I 11 a = nI ka ∧ I 11 (I 14 k).toNatClampNeg = nI ka ∧ I 85 a = nI ka := by
  obtain ⟨t1, t2, t3, t4, t5⟩ := hTim
  obtain ⟨b1, b2, b3, b4, b5, b6, b7, -⟩ := hJnt.2.2.2.1 k hk
  obtain ⟨a, a1, a2, -⟩ := zi_of ⟨b6, b7⟩ (N := 16) t2 (by decide)
  obtain ⟨c1, c2, c3, c4, c5, -⟩ := t4 a a1
  obtain ⟨ka, d1, d2, -⟩ := zi_le (n := 3) c4 c5 (by decide)
  refine ⟨a, ka, a1, a2, by omega, d2, ?_, c1.trans d2⟩
  rw [a2, znIc (by omega), d2]
theorem m_isFit {G : Gp} {Q : zPost} {S : zSh} {I : zFI} {L : zFL} {n jn mn tl ln c t k : Nat} {r : Nat} (h : iMid S I n jn mn tl ln) (hr : zCu r) (hc : c ≤ 1) (hCu : iCu1 I r c) (ht : t < jn) (hk : k < jn) (q : ∀ (I' : zFI) (x : Int32), zSg I I' → (x = 0 ∨ x = 1) → (x = 1 ↔ zFt I r t k) → Q (some (.int x)) S I' L) : ZC G mX12_isFit fX12_isFit lX12_isFit [zo G 84, .int (nI c), .int (nI t), .int (nI k)] S I L 0 0 Q := by
  have hA := h
  obtain ⟨hS, hNow, hTim, hJnt, hMrk, hShn, hTap, hFlt, hCus, hRng, hLea, hWrd⟩ := h
  obtain ⟨j1, j2, j3, j4, j5, j6⟩ := id hJnt
  obtain ⟨a, ka, a1, a2, a3, a4, a5, a6⟩ := kind_of hTim hJnt ht
  obtain ⟨b, kb, b1, b2, b3, b4, b5, b6⟩ := kind_of hTim hJnt hk
  have n16 := hTim.2.1
  have F := canFit_iff (r := r) hJnt n16 ht hk a5 b5
  obtain ⟨c1, c2, c3, c4, c5, -⟩ := j4 t ht
  obtain ⟨d1, d2, d3, d4, d5, -⟩ := j4 k hk
  have no : ¬ zFt I r t k → Q (some (.int 0)) S I L := fun z => q I 0 (zSg.refl I) (Or.inl rfl) ⟨fun w => absurd w (by decide), fun w => absurd w z⟩
  have hcu := hCu
  obtain ⟨u1, -, -, -, -, -, -, -, -, -, -, -, -, -, -, -, -, -, u2', -⟩ := hCu
  have x1 : (((50 * nI c + 10) + 4 * nI ka) + nI kb : Int32) = nI (50 * c + 10 + (4 * ka + kb)) := by
    rw [show (50 * nI c + 10 : Int32) = nI (50 * c + 10) from zx50 c 10, show (4 : Int32) = nI 4 from rfl, pk_mul, nI_add, nI_add, Nat.add_assoc]
  have x2 : (50 * nI c + 2 : Int32) = nI (50 * c + 2) := zx50 c 2
  have hin : ∀ x, x < jn → vp_in (nI x) 48 := fun x hx => znIin (by omega) (by decide)
  refine ZC.of' (vX12_isFit_0 hS ⟨hin t ht, hin k hk, ?_⟩) rfl (Nat.le_of_ble_eq_true rfl) rfl
  rw [znIc (by omega), znIc (by omega), c1, d1]
  refine ⟨fun e1 => no (fun w => (F.mp w.2).1 e1), fun e1 => ?_⟩
  rw [a2, b2, znIc (by omega), znIc (by omega), a6, b6, x1, znIc (by omega), u2' _ (by omega)]
  refine ⟨znIin (by omega) (by decide), znIin (by omega) (by decide), znIin (by omega) (by decide), fun e2 => no (fun w => (F.mp w.2).2.2.2.1 e2), fun e2 => ?_⟩
  rw [x2, znIc (by omega), c4, d4, u1 2 (by omega)]
  refine ⟨znIin (by omega) (by decide), fun e3 => ?_, fun e3 => no (fun w => ?_)⟩
  · have e3 := Classical.not_not.mp (fun w => e3 ((isIn_0 _ _ _).mpr w))
    have nums : (p_X6_signsOn I (nI t) = 0 ∨ p_X6_signsOn I (nI k) = 0 ∨ p_X6_sideOf I (nI t) = p_X6_sideOf I (nI k)) → ZC G mX12_numbers fX12_numbers lX12_numbers [zo G 84, .int (nI c), .int (nI t)] S I L 0 0 (fun w S' I2 L2 => ∃ r2 : Int64, w = some (.long r2) ∧ S = S' ∧ ZC G mX12_numbers fX12_numbers lX12_numbers [zo G 84, .int (nI c), .int (nI k)] S I2 L2 0 0 (fun w S' I3 L3 => ∃ r3 : Int64, w = some (.long r3) ∧ S = S' ∧ (((lg_cmp (r2 &&& r3) (0 : Int64)) = 0 → Q (some (.int 0)) S I3 L3) ∧ (¬ (lg_cmp (r2 &&& r3) (0 : Int64)) = 0 → Q (some (.int 1)) S I3 L3)))) := fun e4 => by
      refine m_numbers hS hNow hMrk hShn (by omega) hc hcu (fun I2 z2 => ⟨_, rfl, rfl, ?_⟩)
      have A2 := z2.scr.mid hA
      have hcu2 : iCu1 I2 r c := by
        have e : I2 r = I r := z2.1 r (by rcases hr with rfl | rfl | rfl <;> decide)
        unfold iCu1 at hcu ⊢
        rw [z2.1 105 (by decide), e]
        exact hcu
      refine m_numbers hS A2.2.1 A2.2.2.2.2.1 A2.2.2.2.2.2.1 (by omega) hc hcu2 (fun I3 z3 => ⟨_, rfl, rfl, ?_⟩)
      rw [z2.scr.nm hr, z2.1 25 (by decide), lg_cmp_eq]
      have cf : ¬ p_X11_canFit I r (nI t) (nI k) = 0 := F.mpr ⟨e1, Int32.not_lt.mpr e3.1, e3.2, e2, e4⟩
      exact ⟨fun w => q I3 0 (z2.trans z3) (Or.inl rfl) ⟨fun w => absurd w (by decide), fun z => absurd w z.1⟩, fun w => q I3 1 (z2.trans z3) (Or.inr rfl) ⟨fun _ => ⟨w, cf⟩, fun _ => rfl⟩⟩
    have pos : ∀ x : Int32, (p_X6_signsOn I x ≤ 0 ↔ p_X6_signsOn I x = 0) := fun x => by
      unfold p_X6_signsOn
      split
      · rename_i w
        exact ⟨fun z => absurd z (Int32.not_le.mpr w), fun z => by rw [z]; decide⟩
      · exact ⟨fun _ => rfl, fun _ => by decide⟩
    refine m_signsOf hS hNow hMrk hShn (by omega) ⟨_, rfl, rfl, fun f1 => nums (Or.inl ((pos _).mp f1)), fun f1 => m_signsOf hS hNow hMrk hShn (by omega) ⟨_, rfl, rfl, fun f2 => nums (Or.inr (Or.inl ((pos _).mp f2))), fun f2 => m_sideOf hS hNow hMrk hShn (by omega) ⟨_, rfl, rfl, m_sideOf hS hNow hMrk hShn (by omega) ⟨_, rfl, rfl, fun f3 => nums (Or.inr (Or.inr f3)), fun f3 => no (fun w => ?_)⟩⟩⟩⟩
    rcases (F.mp w.2).2.2.2.2 with z | z | z
    · exact f1 ((pos _).mpr z)
    · exact f2 ((pos _).mpr z)
    · exact f3 z
  · have := F.mp w.2
    exact (isIn_0 _ _ _).mp e3 ⟨Int32.not_lt.mp this.2.1, this.2.2.1⟩
theorem op_reads {G : Gp} {S : zSh} {I : zFI} {L : zFL} {n jn mn tl ln on : Nat} {v1 v2 : Int32} (h : iAll S I n jn mn tl ln on) : zOpJ G mX11_reads fX11_reads lX11_reads mX12_reads_ fX12_reads_ lX12_reads_ [.int v1, .int v2] S I L 0 0 (fun S' I' L' => S' = S ∧ iAll S I' n jn mn tl ln on ∧ zSameJ I L I' L' jn ∧ I' 0 16 = I 0 16) := by
  have hA := h
  have hT := hA.told (L := L) 0
  obtain ⟨hS, hNow, hTim, hJnt, hMrk, hShn, hTap, hFlt, hCus, hRng, hLea, hOut, hWrd⟩ := h
  obtain ⟨j1, j2, j3, j4, j5, j6⟩ := id hJnt
  have sl := zsj_le I jn
  have hv : ¬ v2 < 0 → ¬ (u2 I 84 0 0) 84 13 ≤ v2 → vp_in v2 48 := fun a b => by
    have b : ¬ I 84 13 ≤ v2 := b
    refine zvin (m := 48) rfl (Int32.not_lt.mp a) ?_
    rw [j3, Int32.not_le, zlt, znI (by omega)] at b
    rw [zlt, show (48 : Int32).toInt = 48 from rfl]
    omega
  refine ZC.of' (vX11_reads_0 hS ⟨fun c1 => ?_, fun c1 => c_isJoint hS hJnt (fun j u1 u2' => ⟨_, rfl, rfl, fun q => absurd q (by decide), fun _ => ?_⟩) (fun c0 => ⟨_, rfl, rfl, fun _ => ?_, fun q => absurd rfl q⟩)⟩) rfl (Nat.le_of_ble_eq_true rfl) rfl
  · exact ⟨_, rfl, ZC.of' (vX12_reads__0 hS ⟨fun _ => ⟨rfl, rfl, hT⟩, fun q => absurd (isIn_01.mpr (isCu_0.mp c1)) q⟩) rfl (Nat.le_of_ble_eq_true rfl) rfl⟩
  · subst u2'
    have cv := Classical.not_not.mp (fun q => c1 (isCu_0.mpr q))
    obtain ⟨c, hc, hcv, hcu⟩ := cu_of hCus cv
    obtain ⟨hr1, hr2⟩ := hS.rl cv
    refine ⟨cv, c_numbersOn hS hr2 hMrk hShn (by omega) ⟨_, rfl, rfl, _, rfl, ?_⟩⟩
    have cu1 : iCu1 (u2 I 84 0 0) (zrl S v1) c := by
      unfold iCu1 at hcu ⊢
      rw [show (u2 I 84 0 0) 105 = I 105 from rfl, show (u2 I 84 0 0) (zrl S v1) = I (zrl S v1) from (zScrd.told I 0).1 _ (by rcases hr2 with w | w | w <;> rw [w] <;> decide)]
      exact hcu
    have cj : ¬ p_X12_isJoint (u2 I 84 0 0) (nI j) = 0 := fun q => (mJnt_0 hT.1.2.1 hT.1.2.2.2.1).mp q ⟨nI_pos' (by omega), show nI j < nI (zsj I jn) from nI_lt u1 (by omega)⟩
    subst hcv
    refine ZC.of' (vX12_reads__0 hS ⟨fun q => absurd cv (isIn_01.mp q), fun _ => ⟨hv, fun q => absurd q cj, fun _ => m_numbers hS hT.1.2.1 hT.1.2.2.2.2.1 hT.1.2.2.2.2.2.1 (by omega) hc cu1 (fun I1 z1 => ⟨_, rfl, rfl, ?_, rfl, ?_⟩)⟩⟩) rfl (Nat.le_of_ble_eq_true rfl) rfl
    · rw [(zScrd.told I 0).nm hr2, (zScrd.told I 0).1 25 (by decide)]
    · exact ((zScrd.told I 0).trans z1.scr).all hA
  · have cv := Classical.not_not.mp (fun q => c1 (isCu_0.mpr q))
    exact ⟨_, rfl, ZC.of' (vX12_reads__0 hS ⟨fun q => absurd cv (isIn_01.mp q), fun _ => ⟨hv, fun _ => ⟨rfl, rfl, hT⟩, fun q => absurd ((mJnt_0 hT.1.2.1 hT.1.2.2.2.1).mpr c0) q⟩⟩) rfl (Nat.le_of_ble_eq_true rfl) rfl⟩
