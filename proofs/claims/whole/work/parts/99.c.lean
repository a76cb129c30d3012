/-- how many frames -/
noncomputable def zfc (I : zFI) (c : Nat) : Nat := zcnt (zst (I (44 + 8 * c + 1))) 16
theorem zfc_8 {S : zSh} {I : zFI} {n jn mn tl ln on : Nat} {L : zFL} {c : Nat} (h : iAll S I n jn mn tl ln on) (hJ : zJ2 S I L (zsj I jn)) (hc : c ≤ 1) : zfc I c ≤ 8 := by
  obtain ⟨p1, p2, p3⟩ := hJ.pr h hc
  have := zst_8 (zMt_16 p1 p3) (zMt_sym p1 p3) (zMt_irr p1 p3) 16 (Nat.le_refl _)
  unfold zfc
  omega
theorem c_isFrame {G : Gp} {S : zSh} {I : zFI} {L : zFL} {n jn mn tl ln on : Nat} {Q : zPost} {v1 v2 : Int32} (h : iAll S I n jn mn tl ln on) (hJ : I 0 16 = 0 → zJ2 S I L (zsj I jn))
    (q1 : ∀ I' L' (c g : Nat), c ≤ 1 → v1 = nI c → v2 = nI g → g < zfc I' c → iAll S I' n jn mn tl ln on → zJ2 S I' L' (zsj I' jn) → zAft S I L I' L' jn → Q (some (.int 1)) S I' L')
    (q0 : ∀ I' L' (c : Nat), c ≤ 1 → v1 = nI c → (∀ g, v2 = nI g → g < 2147483648 → ¬ g < zfc I' c) → iAll S I' n jn mn tl ln on → zJ2 S I' L' (zsj I' jn) → zAft S I L I' L' jn → Q (some (.int 0)) S I' L')
    (qn : ¬ (v1 = 0 ∨ v1 = 1) → Q (some (.int 0)) S I L) : ZC G mX11_isFrame fX11_isFrame lX11_isFrame [zo G 0, .int v1, .int v2] S I L 0 0 Q := by
  refine ZC.of' (vX11_isFrame_0 h.1 ⟨fun c1 => ?_, fun c1 => qn (isCu_0.mp c1)⟩) rfl (Nat.le_of_ble_eq_true rfl) rfl
  have cv := Classical.not_not.mp (fun q => c1 (isCu_0.mpr q))
  obtain ⟨c, hc, e1⟩ := of_01 cv
  refine c_fresh h hJ (fun I1 L1 A w z a => ⟨rfl, rfl, fun neg => q0 I1 L1 c hc e1 (fun g e hg => ?_) A z a, fun pos => ⟨cv, fun big => q0 I1 L1 c hc e1 (fun g e hg => ?_) A z a, fun small => ?_⟩⟩)
  · rw [e] at neg
    exact absurd neg (nI_pos hg)
  · have f8 := zfc_8 A z hc
    have es : p_X3_size I1 (zgid v1) = nI (zfc I1 c) := by
      rw [e1, zgid_c hc]
      exact (z.gth hc).2.1
    rw [es, e, zle, znI (by omega), znI hg] at big
    omega
  · have f8 := zfc_8 A z hc
    have es : p_X3_size I1 (zgid v1) = nI (zfc I1 c) := by
      rw [e1, zgid_c hc]
      exact (z.gth hc).2.1
    obtain ⟨g, hg, e⟩ := zof (Int32.not_lt.mp pos)
    refine q1 I1 L1 c g hc e1 e (Classical.byContradiction (fun no => small ?_)) A z a
    rw [es, e, zle, znI (by omega), znI hg]
    omega
theorem isIn_cnt {v : Int32} {k : Nat} (hk : k < 2147483647) : p_X12_isIn v 0 (nI k - 1) = 0 ↔ ¬ ∃ g, g < k ∧ v = nI g := by
  rw [isIn_0]
  have e : (nI k - 1 : Int32).toInt = (k : Int) - 1 := by
    rw [zsub (by rw [znI (by omega), show (1 : Int32).toInt = 1 from rfl]; omega) (by rw [znI (by omega), show (1 : Int32).toInt = 1 from rfl]; omega), znI (by omega)]
    rfl
  refine ⟨fun h ⟨g, g1, g2⟩ => h ⟨by rw [g2]; exact nI_pos' (by omega), ?_⟩, fun h ⟨h1, h2⟩ => ?_⟩
  · rw [zle, e, g2, znI (by omega)]
    omega
  · obtain ⟨g, g1, g2⟩ := zof h1
    rw [zle, e, g2, znI g1] at h2
    exact h ⟨g, by omega, g2⟩
theorem m_hasFrame {G : Gp} {S : zSh} {I : zFI} {L : zFL} {n jn mn tl ln on : Nat} {Q : zPost} {c : Nat} {v2 : Int32} (h : iAll S I n jn mn tl ln on) (hc : c ≤ 1) (hJ : zJ2 S I L (zsj I jn))
    (q : ∀ K, zScrd I K → zMj I L K c (27 + 8 * c) jn → zMg K (I (44 + 8 * c + 1)) → (∀ a, a < 16 → ¬ I (44 + 8 * c + 1) a = 0 → K 124 a = I (44 + 8 * c + 1) a) → Q (some (.int (p_X12_isIn v2 0 (nI (zfc I c) - 1)))) S K L) : ZC G mX12_hasFrame fX12_hasFrame lX12_hasFrame [zo G 84, .int (nI c), .int v2] S (u2 I 84 0 0) L 0 0 Q := by
  refine ZC.of' (vX12_hasFrame_0 h.1 ⟨fun _ => m_joinsTold h hc hJ (fun J wj m => ⟨rfl, rfl, ?_⟩), fun q => absurd (nI_01 hc) (isIn_01.mp q)⟩) rfl (Nat.le_of_ble_eq_true rfl) rfl
  obtain ⟨AJ, -, -⟩ := zScrd.all (L := L) h wj
  refine m_framesOf AJ hc hJ wj m (fun K f1 f2 g g4 => ⟨rfl, rfl, ?_⟩)
  have wk := wj.trans (zScrd.fr f1 f2)
  have mk : zMj I L K c (27 + 8 * c) jn := by
    unfold zMj at m ⊢
    rw [f1 119 (by omega) (by omega) (by omega), f1 120 (by omega) (by omega) (by omega), f1 121 (by omega) (by omega) (by omega), f1 122 (by omega) (by omega) (by omega), f1 123 (by omega) (by omega) (by omega)]
    exact m
  have := q K wk mk g g4
  rw [g.1]
  exact this
theorem m_pairsIn {G : Gp} {S : zSh} {I : zFI} {L : zFL} {n jn mn tl ln on : Nat} {Q : zPost} {c t : Nat} {K : zFI} (h : iAll S I n jn mn tl ln on) (hc : c ≤ 1) (hJ : zJ2 S I L (zsj I jn)) (w : zScrd I K) (m : zMj I L K c (27 + 8 * c) jn) (ht : t < 16) (hst : zst (I (44 + 8 * c + 1)) t = true)
    (q : Q (some (.int (I (44 + 8 * c + 4) (zcnt (zst (I (44 + 8 * c + 1))) t)))) S K L) : ZC G mX12_pairsIn fX12_pairsIn lX12_pairsIn [zo G 84, .int (nI c), .int (zcm (I (44 + 8 * c + 1)) t)] S K L 0 0 Q := by
  obtain ⟨AK, -, -⟩ := zScrd.all (L := L) h w
  have hjn : K 84 13 = nI jn := AK.2.2.2.1.2.2.1
  have h48 := h.2.2.2.1.2.1
  have sl := zsj_le I jn
  obtain ⟨p1, p2, p3⟩ := hJ.pr h hc
  have gth := hJ.gth hc
  have e8 := zst_8 (zMt_16 p1 p3) (zMt_sym p1 p3) (zMt_irr p1 p3) (t + 1) (by omega)
  rw [zcnt_succ, if_pos hst] at e8
  rw [gth.2.2.2.2 _ (by omega)] at q
  have pz : ∀ x, x < 48 → I (27 + 8 * c + 5) x = -1 → ¬ zpf (I 14) (I (27 + 8 * c + 5)) (I 16) (I (44 + 8 * c + 2)) (zcnt (zst (I (44 + 8 * c + 1))) t) x = true := fun x hx e => by
    unfold zpf
    rw [decide_eq_false (fun y => y e)]
    exact Bool.noConfusion
  have full : zcnt (zpf (I 14) (I (27 + 8 * c + 5)) (I 16) (I (44 + 8 * c + 2)) (zcnt (zst (I (44 + 8 * c + 1))) t)) 48 = zcnt (zpf (I 14) (I (27 + 8 * c + 5)) (I 16) (I (44 + 8 * c + 2)) (zcnt (zst (I (44 + 8 * c + 1))) t)) jn := zcnt_part h48 (fun x h1 h2 => pz x h2 (p2 x h2 (by omega)))
  rw [full] at q
  have key : ∀ (k x : Nat), x + k = jn → ZW G mX12_pairsIn fX12_pairsIn lX12_pairsIn 5 [zo G 84, .int (nI c), .int (zcm (I (44 + 8 * c + 1)) t), .int (nI (zcnt (zpf (I 14) (I (27 + 8 * c + 5)) (I 16) (I (44 + 8 * c + 2)) (zcnt (zst (I (44 + 8 * c + 1))) t)) x)), .int (nI x)] [] S K L 0 0 Q := by
    intro k
    induction k with
    | zero =>
      intro x hx
      have : x = jn := by omega
      subst this
      refine vX12_pairsIn_5 h.1 ⟨fun _ => q, fun no => ?_⟩
      rw [hjn] at no
      exact absurd (Int32.le_refl _) no
    | succ k ih =>
      intro x hx
      have i1 := ih (x + 1) (by omega)
      rw [zcnt_succ] at i1
      have xc : (nI x).toNatClampNeg = x := znIc (by omega)
      have mj := mJnt_0 (v := nI x) AK.2.1 AK.2.2.2.1
      rw [w.sj] at mj
      have row := h.2.2.2.1.2.2.2.1 x (by omega)
      have e94 : K 94 x = I 14 x := by
        rw [w.1 94 (by decide)]
        exact row.1
      have e96 : K 96 x = I 16 x := by
        rw [w.1 96 (by decide)]
        exact row.2.2.1
      have e119 := m.1 x (by omega)
      refine vX12_pairsIn_5 h.1 ⟨fun no => ?_, fun _ => ⟨fun _ _ => znIin (by omega) (by omega), fun no => ?_, fun _ => ⟨znIin (by omega) (by omega), ?_⟩⟩⟩
      · rw [hjn] at no
        exact absurd no (nI_ge (by omega) (by omega))
      · have hs : zsj I jn ≤ x := Classical.byContradiction (fun y => mj.mp no ⟨nI_pos' (by omega), nI_lt (by omega) (by omega)⟩)
        rw [if_neg (pz x (by omega) (p2 x (by omega) hs))] at i1
        rw [nI_1]
        exact i1
      · rw [zx48, xc, znIc (show 48 * c + x < 2147483648 by omega), e94, e96, e119, nI_1]
        refine ⟨fun d => ?_, fun d2 => ⟨znIin (by omega) (by omega), fun d => ?_, fun d1 => ?_⟩⟩
        · rw [if_neg (by unfold zpf; rw [decide_eq_false d, Bool.and_false]; exact Bool.noConfusion)] at i1
          exact i1
        · rw [if_neg (pz x (by omega) d)] at i1
          exact i1
        · obtain ⟨y, a, b, y1, y2, y3, y4, y5, y6, y7, y8⟩ := p1 x (by omega) d1
          rw [y6]
          have fr : I (44 + 8 * c + 2) a = nI (zcnt (zst (I (44 + 8 * c + 1))) t) ↔ zb (zcm (I (44 + 8 * c + 1)) t) a := by
            rcases zfr_of gth p1 y4 with ⟨c1, c2⟩ | ⟨t', t1, t2, t3, t4, t5⟩
            · rw [c1]
              exact ⟨fun z => absurd z.symm (nI_neg1 (by omega)), fun z => absurd z (c2 t ht hst)⟩
            · rw [t4]
              refine ⟨fun z => ?_, fun z => by rw [t5 t ht hst z]⟩
              have u := zcnt_le (zst (I (44 + 8 * c + 1))) t'
              have z := nI_same (by omega) (by omega) z
              have : t' = t := by
                rcases Nat.lt_trichotomy t' t with y | y | y
                · have := zcnt_up (p := zst (I (44 + 8 * c + 1))) (show t' + 1 ≤ t by omega)
                  rw [zcnt_succ, if_pos t2] at this
                  omega
                · exact y
                · have := zcnt_up (p := zst (I (44 + 8 * c + 1))) (show t + 1 ≤ t' by omega)
                  rw [zcnt_succ, if_pos hst] at this
                  omega
              rw [← this]
              exact t3
          have pv : zpf (I 14) (I (27 + 8 * c + 5)) (I 16) (I (44 + 8 * c + 2)) (zcnt (zst (I (44 + 8 * c + 1))) t) x = decide (I (44 + 8 * c + 2) a = nI (zcnt (zst (I (44 + 8 * c + 1))) t)) := by
            unfold zpf
            rw [decide_eq_true d1, decide_eq_true d2, y6, znIc (by omega)]
            rfl
          rw [pv] at i1
          refine ⟨fun z => ?_, fun z => ?_⟩
          · rw [if_neg (fun y => z ((zb_test (by omega)).mpr (fr.mp (of_decide_eq_true y))))] at i1
            exact i1
          · rw [if_pos (decide_eq_true (fr.mpr ((zb_test (by omega)).mp z)))] at i1
            rw [nI_1]
            exact i1
  exact ZC.of' (vX12_pairsIn_0 h.1 (key jn 0 (by omega))) rfl (Nat.le_of_ble_eq_true rfl) rfl
