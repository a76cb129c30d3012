set_option maxHeartbeats 16000000 in
theorem op_mark {G : Gp} {S : zSh} {I : zFI} {L : zFL} {n jn mn tl ln on : Nat} {v1 : Int32} (h : iAll S I n jn mn tl ln on) : zOpI G mX11_mark fX11_mark lX11_mark mX12_mark fX12_mark lX12_mark [.int v1] S I L 0 0 (fun S' I' L' => S' = S ∧ (∃ mn' tl', iAll S I' n jn mn' tl' ln on) ∧ (I' 0 16 = 1 ∨ (zSameJ I L I' L' jn ∧ I' 0 16 = I 0 16))) := by
  obtain ⟨hS, hNow, hTim, hJnt, hMrk, hShn, hTap, hFlt, hCus, hRng, hLea, hOut, hWrd⟩ := h
  obtain ⟨t1, t2, t3, t4⟩ := id hTap
  obtain ⟨j1, j2, j3, j4, j5, j6⟩ := id hJnt
  obtain ⟨m1, m2, m3, m4⟩ := id hMrk
  -- refused: the class has changed nothing but the tape and places of row 24 that hold no mark
  have bad : ∀ (J : zFI), (∀ b, b ≠ 24 → J b = I b) → (∀ i, i < 6 * mn → J 24 i = I 24 i) →
      (∃ mn' tl', iAll S (u2 (u2 (u2 J 1 1 0) 84 0 0) 84 26 0) n jn mn' tl' ln on) ∧ ((u2 (u2 (u2 J 1 1 0) 84 0 0) 84 26 0) 0 16 = 1 ∨ (zSameJ I L (u2 (u2 (u2 J 1 1 0) 84 0 0) 84 26 0) L jn ∧ (u2 (u2 (u2 J 1 1 0) 84 0 0) 84 26 0) 0 16 = I 0 16)) := by
    intro J g1 g2
    have hr : ∀ b, b ∉ ([1, 24, 84] : List Nat) → (u2 (u2 (u2 J 1 1 0) 84 0 0) 84 26 0) b = I b := fun b hb => by
      simp only [List.mem_cons, List.mem_nil_iff, or_false, not_or] at hb
      rw [← u2_row _ _ _ _ hb.2.2, ← u2_row _ _ _ _ hb.2.2, ← u2_row _ _ _ _ hb.1]
      exact g1 b hb.2.1
    have h84 : ∀ k, k ∉ ([0, 26] : List Nat) → (u2 (u2 (u2 J 1 1 0) 84 0 0) 84 26 0) 84 k = I 84 k := fun k hk => by
      simp only [List.mem_cons, List.mem_nil_iff, or_false, not_or] at hk
      rw [u2_ne _ _ _ _ (by omega), u2_ne _ _ _ _ (by omega), u2_ne _ _ _ _ (by omega), g1 84 (by decide)]
    have h0 : ∀ k, k ∉ ([] : List Nat) → (u2 (u2 (u2 J 1 1 0) 84 0 0) 84 26 0) 0 k = I 0 k := fun k _ => by rw [hr 0 (by decide)]
    have h24 : ∀ i, i < 6 * mn → (u2 (u2 (u2 J 1 1 0) 84 0 0) 84 26 0) 24 i = I 24 i := fun i hi => g2 i hi
    refine ⟨⟨mn, 0, hS, hNow.fr (h0 14 (by decide)) (h0 15 (by decide)) (h84 1 (by decide)) (h84 2 (by decide)), hTim.fr (by rw [h0 14 (by decide)]; exact Int32.le_refl _) (congrFun (hr 10 (by decide)) 0) (h84 3 (by decide)) (hr 11 (by decide)) (hr 12 (by decide)) (hr 13 (by decide)) (hr 85 (by decide)) (hr 86 (by decide)) (hr 87 (by decide)), hJnt.fr (Int32.le_refl _) (by rw [h0 14 (by decide)]; exact Int32.le_refl _) (congrFun (hr 10 (by decide)) 4) (h84 13 (by decide)) (hr 14 (by decide)) (hr 15 (by decide)) (hr 16 (by decide)) (hr 17 (by decide)) (hr 18 (by decide)) (hr 94 (by decide)) (hr 95 (by decide)) (hr 96 (by decide)) (hr 97 (by decide)) (hr 98 (by decide)) (hr 88 (by decide)), ?_, hShn.fr (by unfold p_X11_lastDaySeen; rw [h0 15 (by decide)]) (hr 20 (by decide)) (hr 21 (by decide)) (hr 25 (by decide)), ⟨rfl, by omega, rfl, fun k hk => absurd hk (Nat.not_lt_zero _)⟩, hFlt.fr (h84 36 (by decide)) (h84 37 (by decide)) (congrFun (hr 3 (by decide)) 5) (congrFun (hr 3 (by decide)) 6), hCus.fr hS (hr 8 (by decide)) (hr 9 (by decide)) (hr 83 (by decide)) (hr 105 (by decide)), hRng.fr (by rw [h0 14 (by decide)]; exact Int32.le_refl _) (hr 68 (by decide)) (hr 69 (by decide)) (hr 70 (by decide)) (hr 71 (by decide)) (hr 72 (by decide)) (hr 73 (by decide)) (hr 89 (by decide)) (hr 90 (by decide)) (hr 91 (by decide)) (hr 92 (by decide)) (hr 93 (by decide)) (hr 131 (by decide)) (hr 132 (by decide)), hLea.fr (Int32.le_refl _) (by rw [h0 14 (by decide)]; exact Int32.le_refl _) (congrFun (hr 77 (by decide)) 0) (h84 79 (by decide)) (hr 78 (by decide)) (hr 79 (by decide)) (hr 80 (by decide)) (hr 81 (by decide)) (hr 134 (by decide)) (hr 135 (by decide)) (hr 136 (by decide)) (hr 137 (by decide)), hOut.fr (h0 12 (by decide)) (h84 90 (by decide)) (hr 82 (by decide)) (hr 138 (by decide)), hWrd.fr (hr 106 (by decide))⟩, Or.inr ⟨?_, h0 16 (by decide)⟩⟩
    · refine ⟨(congrFun (hr 19 (by decide)) 0).trans m1, m2, (h84 19 (by decide)).trans m3, fun k hk => ?_⟩
      rw [hr 99 (by decide), hr 100 (by decide), hr 101 (by decide), hr 102 (by decide), hr 103 (by decide), hr 20 (by decide), hr 21 (by decide), hr 22 (by decide), hr 23 (by decide), h0 14 (by decide)]
      obtain ⟨b1, b2, b3, b4, b5, b6, b7, b8, b9, b10, b11, b12⟩ := m4 k hk
      exact ⟨b1, b2, b3, b4, b5, b6, b7, b8, b9, b10, b11, fun i h1 h2 => by rw [h24 _ (by omega)]; exact b12 i h1 h2⟩
    · refine ⟨h0 15 (by decide), congrFun (hr 10 (by decide)) 4, fun k hk => ?_, fun a h1 h2 h3 => hr a (by simp only [List.mem_cons, List.mem_nil_iff, or_false, not_or]; omega), fun i hi => h24 i (by rw [m1, znIc (by omega)] at hi; exact hi), hr 8 (by decide), hr 9 (by decide), hr 83 (by decide), fun a ha => hr a (by simp only [List.mem_cons, List.mem_nil_iff, or_false, not_or]; omega), rfl, hr 14 (by decide), hr 16 (by decide), hr 17 (by decide), hr 18 (by decide)⟩
      rw [hr 14 (by decide), hr 16 (by decide), hr 17 (by decide), hr 18 (by decide), hr 11 (by decide)]
      exact ⟨rfl, rfl, rfl, rfl, rfl⟩
  -- the model's side condition is the class's
  have zs : ∀ J : zFI, (∀ b, b ≠ 24 → J b = I b) → zSd (u2 J 1 1 0) 104 tl = zSd I 2 tl ∧ ∀ i, i < tl → (u2 J 1 1 0) 104 i = I 2 i := by
    intro J g
    have : ∀ i, i < tl → (u2 J 1 1 0) 104 i = I 2 i := fun i hi => by
      show J 104 i = I 2 i
      rw [g 104 (by decide)]
      exact (t4 i hi).1
    exact ⟨zcong this, this⟩
  have hsd := zSd_le I 2 tl
  refine ZC.of' (vX11_mark_0 hS ⟨fun c0 => ?_, fun c0 => ?_⟩) rfl (Nat.le_of_ble_eq_true rfl) rfl
  · rw [hasJ_0 j1 j2] at c0
    refine c_clear hS ⟨rfl, rfl, fun _ => ⟨_, rfl, ?_⟩, fun q => absurd rfl q⟩
    exact m_mark hS (mn := mn) (tl := tl) (jn := jn) m3 m2 t3 t2 j3 j2 (fun _ => ⟨rfl, rfl, bad I (fun _ _ => rfl) (fun _ _ => rfl)⟩) (fun hj => absurd hj c0)
  · rw [hasJ_0 j1 j2, Classical.not_not] at c0
    refine c_tell hS m1 m2 t1 t2 (fun hno I1 g1 g2 => ⟨_, rfl, rfl, ?_⟩) (fun hm hl hok I1 g1 g2 g3 => ⟨_, rfl, rfl, ?_⟩)
    · refine c_clear hS ⟨rfl, rfl, fun _ => ⟨_, rfl, ?_⟩, fun q => absurd rfl q⟩
      obtain ⟨z1, z2⟩ := zs I1 g1
      have x84 : (u2 I1 1 1 0) 84 = I 84 := g1 84 (by decide)
      refine m_mark hS (mn := mn) (tl := tl) (jn := jn) (by rw [x84]; exact m3) m2 (by rw [x84]; exact t3) t2 (by rw [x84]; exact j3) j2 (fun _ => ⟨rfl, rfl, bad I1 g1 g2⟩) (fun hj hm hl hok => ?_)
      exact absurd ⟨hm, by rw [← z1]; exact hl, fun i hi => by rw [← z2 i (by omega)]; exact hok i (by rw [z1]; exact hi)⟩ hno
    · generalize hsdv : zSd I 2 tl = sd at hsd hl hok g3
      have hln : tl - sd ≤ 6 := hl
      refine c_clear hS ⟨rfl, rfl, fun q => ?_, fun _ => ?_⟩
      · exfalso
        rw [zeq, znI (by omega)] at q
        rw [show (-1 : Int32).toInt = -1 from rfl] at q
        omega
      · generalize hI4 : u2 (u2 (u2 (u2 (u2 (u2 I1 20 mn v1) 21 mn (I 0 14)) 22 mn (nI (tl - sd))) 23 mn (nI sd)) 19 0 (nI (mn + 1))) 1 1 0 = I4
        have y20 : ∀ k, I4 20 k = if k = mn then v1 else I 20 k := fun k => by
          rw [← hI4]
          show u2 I1 20 mn v1 20 k = _
          rw [show I 20 = I1 20 from (g1 20 (by decide)).symm]
          by_cases hk : k = mn
          · rw [hk, u2_same, if_pos rfl]
          · rw [u2_ne _ _ _ _ (fun q => hk q.2), if_neg hk]
        have y21 : ∀ k, I4 21 k = if k = mn then I 0 14 else I 21 k := fun k => by
          rw [← hI4]
          show u2 I1 21 mn (I 0 14) 21 k = _
          rw [show I 21 = I1 21 from (g1 21 (by decide)).symm]
          by_cases hk : k = mn
          · rw [hk, u2_same, if_pos rfl]
          · rw [u2_ne _ _ _ _ (fun q => hk q.2), if_neg hk]
        have y22 : ∀ k, I4 22 k = if k = mn then nI (tl - sd) else I 22 k := fun k => by
          rw [← hI4]
          show u2 I1 22 mn (nI (tl - sd)) 22 k = _
          rw [show I 22 = I1 22 from (g1 22 (by decide)).symm]
          by_cases hk : k = mn
          · rw [hk, u2_same, if_pos rfl]
          · rw [u2_ne _ _ _ _ (fun q => hk q.2), if_neg hk]
        have y23 : ∀ k, I4 23 k = if k = mn then nI sd else I 23 k := fun k => by
          rw [← hI4]
          show u2 I1 23 mn (nI sd) 23 k = _
          rw [show I 23 = I1 23 from (g1 23 (by decide)).symm]
          by_cases hk : k = mn
          · rw [hk, u2_same, if_pos rfl]
          · rw [u2_ne _ _ _ _ (fun q => hk q.2), if_neg hk]
        have y19 : I4 19 0 = nI (mn + 1) := by rw [← hI4]; rfl
        have y24 : I4 24 = I1 24 := by rw [← hI4]; rfl
        have yb : ∀ b, b ∉ ([1, 19, 20, 21, 22, 23, 24] : List Nat) → I4 b = I b := fun b hb => by
          simp only [List.mem_cons, List.mem_nil_iff, or_false, not_or] at hb
          rw [← hI4, ← u2_row _ _ _ _ hb.1, ← u2_row _ _ _ _ hb.2.1, ← u2_row _ _ _ _ hb.2.2.2.2.2.1, ← u2_row _ _ _ _ hb.2.2.2.2.1, ← u2_row _ _ _ _ hb.2.2.2.1, ← u2_row _ _ _ _ hb.2.2.1]
          exact g1 b hb.2.2.2.2.2.2
        have y1 : I4 1 1 = 0 := by rw [← hI4]; rfl
        have lds : p_X11_lastDaySeen I4 = p_X11_lastDaySeen I := by
          unfold p_X11_lastDaySeen
          rw [yb 0 (by decide)]
        refine c_showUpTo hS (n := mn + 1) y19 (by omega) (fun k hk => ?_) (fun I5 f1 f2 => ⟨rfl, rfl, _, rfl, ?_⟩)
        · rw [y20 k]
          by_cases hkm : k = mn
          · rw [if_pos hkm]
            have := zlt.mp c0.2
            rw [znI (by omega)] at this
            exact ⟨c0.1, by rw [zlt, show (48 : Int32).toInt = 48 from rfl]; omega⟩
          · rw [if_neg hkm]
            exact jRange hJnt hMrk (by omega)
        · have w84 : (u2 I5 0 16 1) 84 = I 84 := by
            show I5 84 = I 84
            rw [f1 84 (by decide), yb 84 (by decide)]
          have w104 : ∀ i, i < tl → (u2 I5 0 16 1) 104 i = I 2 i := fun i hi => by
            show I5 104 i = I 2 i
            rw [f1 104 (by decide), yb 104 (by decide)]
            exact (t4 i hi).1
          have wsd : zSd (u2 I5 0 16 1) 104 tl = sd := by rw [zcong w104, hsdv]
          refine m_mark hS (mn := mn) (tl := tl) (jn := jn) (by rw [w84]; exact m3) m2 (by rw [w84]; exact t3) t2 (by rw [w84]; exact j3) j2 (fun hno => ?_) (fun hj hm2 hl2 hok2 I6 q1 q2 q3 => ⟨by rw [wsd], rfl, ?_, Or.inl ?_⟩)
          · exfalso
            refine hno ⟨c0, hm, by rw [wsd]; exact hl, fun i hi => ?_⟩
            rw [wsd] at hi
            rw [w104 i (by omega)]
            exact hok i hi
          · rw [wsd] at q1 q3
            -- the last state
            have hr : ∀ b, b ∉ ([0, 1, 19, 20, 21, 22, 23, 24, 25, 84, 99, 100, 101, 102, 103] : List Nat) → (u2 I6 84 19 (nI (mn + 1))) b = I b := fun b hb => by
              simp only [List.mem_cons, List.mem_nil_iff, or_false, not_or] at hb
              rw [← u2_row _ _ _ _ (show b ≠ 84 by omega), q1 b (by omega), ← u2_row _ _ _ _ (show b ≠ 102 by omega), ← u2_row _ _ _ _ (show b ≠ 101 by omega), ← u2_row _ _ _ _ (show b ≠ 100 by omega), ← u2_row _ _ _ _ (show b ≠ 99 by omega), ← u2_row _ _ _ _ (show b ≠ 84 by omega), ← u2_row _ _ _ _ (show b ≠ 84 by omega), ← u2_row _ _ _ _ (show b ≠ 0 by omega), f1 b (by omega)]
              exact yb b (by simp only [List.mem_cons, List.mem_nil_iff, or_false, not_or]; omega)
            have h84 : ∀ k, k ∉ ([0, 19, 26] : List Nat) → (u2 I6 84 19 (nI (mn + 1))) 84 k = I 84 k := fun k hk => by
              simp only [List.mem_cons, List.mem_nil_iff, or_false, not_or] at hk
              rw [u2_ne _ _ _ _ (by omega), q1 84 (by decide)]
              show u2 (u2 (u2 I5 0 16 1) 84 0 0) 84 26 0 84 k = _
              rw [u2_ne _ _ _ _ (by omega), u2_ne _ _ _ _ (by omega), w84]
            have h0 : ∀ k, k ∉ ([16] : List Nat) → (u2 I6 84 19 (nI (mn + 1))) 0 k = I 0 k := fun k hk => by
              simp only [List.mem_cons, List.mem_nil_iff, or_false] at hk
              show I6 0 k = I 0 k
              rw [q1 0 (by decide)]
              show u2 I5 0 16 1 0 k = _
              rw [u2_ne _ _ _ _ (by omega), f1 0 (by decide), yb 0 (by decide)]
            have hcl : ∀ b, b ∈ ([19, 20, 21, 22, 23, 24, 1] : List Nat) → (u2 I6 84 19 (nI (mn + 1))) b = I4 b := fun b hb => by
              simp only [List.mem_cons, List.mem_nil_iff, or_false] at hb
              rw [← u2_row _ _ _ _ (show b ≠ 84 by omega), q1 b (by omega), ← u2_row _ _ _ _ (show b ≠ 102 by omega), ← u2_row _ _ _ _ (show b ≠ 101 by omega), ← u2_row _ _ _ _ (show b ≠ 100 by omega), ← u2_row _ _ _ _ (show b ≠ 99 by omega), ← u2_row _ _ _ _ (show b ≠ 84 by omega), ← u2_row _ _ _ _ (show b ≠ 84 by omega), ← u2_row _ _ _ _ (show b ≠ 0 by omega), f1 b (by omega)]
            have x5 : ∀ b, b ∉ ([0, 1, 19, 20, 21, 22, 23, 24, 25] : List Nat) → (u2 I5 0 16 1) b = I b := fun b hb => by
              simp only [List.mem_cons, List.mem_nil_iff, or_false, not_or] at hb
              rw [← u2_row _ _ _ _ (show b ≠ 0 by omega), f1 b (by omega)]
              exact yb b (by simp only [List.mem_cons, List.mem_nil_iff, or_false, not_or]; omega)
            have i99 : ∀ k, (u2 I6 84 19 (nI (mn + 1))) 99 k = if k = mn then v1 else I 99 k := fun k => by
              show I6 99 k = _
              rw [q1 99 (by decide)]
              show u2 (u2 I5 0 16 1) 99 mn v1 99 k = _
              by_cases hk : k = mn
              · rw [hk, u2_same, if_pos rfl]
              · rw [u2_ne _ _ _ _ (fun q => hk q.2), if_neg hk, x5 99 (by decide)]
            have i100 : ∀ k, (u2 I6 84 19 (nI (mn + 1))) 100 k = if k = mn then I 84 1 else I 100 k := fun k => by
              show I6 100 k = _
              rw [q1 100 (by decide)]
              show u2 (u2 I5 0 16 1) 100 mn ((u2 I5 0 16 1) 84 1) 100 k = _
              by_cases hk : k = mn
              · rw [hk, u2_same, if_pos rfl, w84]
              · rw [u2_ne _ _ _ _ (fun q => hk q.2), if_neg hk, x5 100 (by decide)]
            have i101 : ∀ k, (u2 I6 84 19 (nI (mn + 1))) 101 k = if k = mn then nI (tl - sd) else I 101 k := fun k => by
              show I6 101 k = _
              rw [q1 101 (by decide)]
              show u2 (u2 I5 0 16 1) 101 mn (nI (tl - sd)) 101 k = _
              by_cases hk : k = mn
              · rw [hk, u2_same, if_pos rfl]
              · rw [u2_ne _ _ _ _ (fun q => hk q.2), if_neg hk, x5 101 (by decide)]
            have i102 : ∀ k, (u2 I6 84 19 (nI (mn + 1))) 102 k = if k = mn then nI sd else I 102 k := fun k => by
              show I6 102 k = _
              rw [q1 102 (by decide)]
              show u2 (u2 I5 0 16 1) 102 mn (nI sd) 102 k = _
              by_cases hk : k = mn
              · rw [hk, u2_same, if_pos rfl]
              · rw [u2_ne _ _ _ _ (fun q => hk q.2), if_neg hk, x5 102 (by decide)]
            have i103 : (u2 I6 84 19 (nI (mn + 1))) 103 = I6 103 := rfl
            refine ⟨mn + 1, 0, hS, hNow.fr (h0 14 (by decide)) (h0 15 (by decide)) (h84 1 (by decide)) (h84 2 (by decide)), hTim.fr (by rw [h0 14 (by decide)]; exact Int32.le_refl _) (congrFun (hr 10 (by decide)) 0) (h84 3 (by decide)) (hr 11 (by decide)) (hr 12 (by decide)) (hr 13 (by decide)) (hr 85 (by decide)) (hr 86 (by decide)) (hr 87 (by decide)), hJnt.fr (Int32.le_refl _) (by rw [h0 14 (by decide)]; exact Int32.le_refl _) (congrFun (hr 10 (by decide)) 4) (h84 13 (by decide)) (hr 14 (by decide)) (hr 15 (by decide)) (hr 16 (by decide)) (hr 17 (by decide)) (hr 18 (by decide)) (hr 94 (by decide)) (hr 95 (by decide)) (hr 96 (by decide)) (hr 97 (by decide)) (hr 98 (by decide)) (hr 88 (by decide)), ⟨?_, by omega, rfl, fun k hk => ?_⟩, ?_, ⟨?_, by omega, ?_, fun k hk => absurd hk (Nat.not_lt_zero _)⟩, hFlt.fr (h84 36 (by decide)) (h84 37 (by decide)) (congrFun (hr 3 (by decide)) 5) (congrFun (hr 3 (by decide)) 6), hCus.fr hS (hr 8 (by decide)) (hr 9 (by decide)) (hr 83 (by decide)) (hr 105 (by decide)), hRng.fr (by rw [h0 14 (by decide)]; exact Int32.le_refl _) (hr 68 (by decide)) (hr 69 (by decide)) (hr 70 (by decide)) (hr 71 (by decide)) (hr 72 (by decide)) (hr 73 (by decide)) (hr 89 (by decide)) (hr 90 (by decide)) (hr 91 (by decide)) (hr 92 (by decide)) (hr 93 (by decide)) (hr 131 (by decide)) (hr 132 (by decide)), hLea.fr (Int32.le_refl _) (by rw [h0 14 (by decide)]; exact Int32.le_refl _) (congrFun (hr 77 (by decide)) 0) (h84 79 (by decide)) (hr 78 (by decide)) (hr 79 (by decide)) (hr 80 (by decide)) (hr 81 (by decide)) (hr 134 (by decide)) (hr 135 (by decide)) (hr 136 (by decide)) (hr 137 (by decide)), hOut.fr (h0 12 (by decide)) (h84 90 (by decide)) (hr 82 (by decide)) (hr 138 (by decide)), hWrd.fr (hr 106 (by decide))⟩
            · rw [hcl 19 (by decide), y19]
            · rw [i99, i100, i101, i102, i103, hcl 20 (by decide), hcl 21 (by decide), hcl 22 (by decide), hcl 23 (by decide), hcl 24 (by decide), y20, y21, y22, y23, y24, h0 14 (by decide)]
              by_cases hkm : k = mn
              · subst hkm
                rw [if_pos rfl, if_pos rfl, if_pos rfl, if_pos rfl, if_pos rfl, if_pos rfl, if_pos rfl, if_pos rfl]
                refine ⟨rfl, hNow.2.2.2.2.1, rfl, rfl, c0.1, c0.2, hNow.1, Int32.le_refl _, nI_pos' (by omega), nI_le (b := 6) (by omega) (by omega), ?_, fun i hi1 hi2 => ?_⟩
                · rcases (by omega : sd = 0 ∨ sd = 1) with rfl | rfl
                  · exact Or.inl rfl
                  · exact Or.inr rfl
                · have hi3 : i < tl - sd := by
                    rw [nI_ltI (by omega) (by omega)] at hi1
                    exact hi1
                  rw [q3 i hi3, g3 i hi3, w104 i (by omega)]
                  exact ⟨rfl, hok i hi3⟩
              · rw [if_neg hkm, if_neg hkm, if_neg hkm, if_neg hkm, if_neg hkm, if_neg hkm, if_neg hkm, if_neg hkm]
                obtain ⟨b1, b2, b3, b4, b5, b6, b7, b8, b9, b10, b11, b12⟩ := m4 k (by omega)
                refine ⟨b1, b2, b3, b4, b5, b6, b7, b8, b9, b10, b11, fun i hi1 hi2 => ?_⟩
                rw [q2 _ (by omega), g2 _ (by omega), x5 103 (by decide)]
                exact b12 i hi1 hi2
            · intro j hj2
              have e25 : (u2 I6 84 19 (nI (mn + 1))) 25 j = I5 25 j := by
                show I6 25 j = _
                rw [q1 25 (by decide)]
                rfl
              rw [e25, f2 j hj2]
              refine zlate_congr (fun k hk => ?_)
              rw [hcl 20 (by decide), hcl 21 (by decide)]
              have e : p_X11_lastDaySeen (u2 I6 84 19 (nI (mn + 1))) = p_X11_lastDaySeen I4 := by
                rw [lds]
                unfold p_X11_lastDaySeen
                rw [h0 15 (by decide)]
              rw [e]
            · rw [hcl 1 (by decide), y1]
              rfl
            · show I6 84 26 = nI 0
              rw [q1 84 (by decide)]
              rfl
          · show I6 0 16 = 1
            rw [q1 0 (by decide)]
            rfl
