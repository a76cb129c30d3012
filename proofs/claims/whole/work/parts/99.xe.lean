/-! the spans in which the sure timbers of a frame were used -/
def zsw (I : zFI) (t : Nat) : Int32 := if nI (zrs I t) < I 72 t then nI (zrs I t) else I 72 t
def zhF (I : zFI) (r t : Nat) : Int32 := zfF (I 73 t) (zal (zagr (I 68) (I 70) t (zrs I t)) 200) (I r 6) (zsw I t)
def zhT (I : zFI) (r t : Nat) : Int32 := zfT (I 73 t) (zal (zagr (I 68) (I 70) t (zrs I t)) 200) (I r 6) (I r 7) (zsw I t)
def zhU (I : zFI) (r t : Nat) : Int32 := zfU (zhT I r t) (I r 8)
noncomputable def zsr (I : zFI) (r t : Nat) : Bool := @decide (zsu (zagr (I 68) (I 70) t (zrs I t)) (I r 4) (I r 5) (zrs I t)) (Classical.propDecidable _)
theorem zsr_iff {I : zFI} {r t : Nat} : zsr I r t = true ↔ zsu (zagr (I 68) (I 70) t (zrs I t)) (I r 4) (I r 5) (zrs I t) := @decide_eq_true_iff _ (Classical.propDecidable _)
theorem zsp_eq {I J : zFI} (w : zScrd I J) {r : Nat} (hr : zCu r) (t : Nat) : zhF J r t = zhF I r t ∧ zhT J r t = zhT I r t ∧ zhU J r t = zhU I r t ∧ zsr J r t = zsr I r t := by
  have e : J r = I r := w.1 r (by rcases hr with rfl | rfl | rfl <;> decide)
  unfold zhU zhF zhT zsr zsw
  rw [e, w.rs, w.1 68 (by decide), w.1 70 (by decide), w.1 72 (by decide), w.1 73 (by decide)]
  exact ⟨rfl, rfl, rfl, rfl⟩
theorem zspan_b {bk la s6 s7 sw st : Int32} (l0 : 0 ≤ la) (l1 : la ≤ 199) (a0 : 0 ≤ s6) (a1 : s6 ≤ 99) (b0 : s6 ≤ s7) (b1 : s7 ≤ 99) (c0 : 0 ≤ sw) (c1 : sw ≤ 24) (d0 : 0 ≤ st) (d1 : st ≤ 99) : 0 ≤ zfF bk la s6 sw ∧ zfF bk la s6 sw ≤ zfU (zfT bk la s6 s7 sw) st ∧ zfU (zfT bk la s6 s7 sw) st ≤ 999 := by
  have hF : 0 ≤ zfF bk la s6 sw ∧ zfF bk la s6 sw ≤ 298 := by
    unfold zfF
    by_cases c : bk = 0
    · rw [if_pos c]
      by_cases d : la < la + s6 - sw
      · rw [if_pos d]
        constructor <;> lia
      · rw [if_neg d]
        constructor <;> lia
    · rw [if_neg c]
      constructor <;> lia
  have hT : zfF bk la s6 sw ≤ zfT bk la s6 s7 sw ∧ zfT bk la s6 s7 sw ≤ 999 := by
    unfold zfT
    by_cases c : bk = 0
    · rw [if_pos c]
      have e : zfF bk la s6 sw = zfF 0 la s6 sw := by rw [c]
      rw [e] at hF ⊢
      by_cases d : sw ≤ 0
      · rw [if_pos d]
        constructor <;> lia
      · rw [if_neg d]
        by_cases q : zfF 0 la s6 sw < la + s7 - sw
        · rw [if_pos q]
          constructor <;> lia
        · rw [if_neg q]
          constructor <;> lia
    · rw [if_neg c]
      have e : zfF bk la s6 sw = la := if_neg c
      rw [e]
      constructor <;> lia
  refine ⟨hF.1, ?_⟩
  generalize zfT bk la s6 s7 sw = T at *
  generalize zfF bk la s6 sw = F at *
  unfold zfU
  by_cases c : T + st < 999
  · rw [if_pos c]
    constructor <;> lia
  · rw [if_neg c]
    constructor <;> lia
theorem zfU_eq {T s : Int32} : (if T + s ≤ 999 then T + s else 999) = zfU T s := by
  unfold zfU
  by_cases z : T + s < 999
  · rw [if_pos z, if_pos (by lia)]
  · rw [if_neg z]
    split
    · lia
    · rfl
theorem zsp_in {S : zSh} {I : zFI} {n jn mn tl ln on : Nat} {c t : Nat} (h : iAll S I n jn mn tl ln on) (hc : c ≤ 1) (ht : t < 16) (hs : zsr I (zrl S (nI c)) t = true) : ∃ a b, a ≤ b ∧ b < 1000 ∧ zhF I (zrl S (nI c)) t = nI a ∧ zhU I (zrl S (nI c)) t = nI b ∧ ¬ zal (zagr (I 68) (I 70) t (zrs I t)) 200 = -1 := by
  have hu := iCus_c h.2.2.2.2.2.2.2.2.1 hc
  obtain ⟨-, -, -, -, -, -, -, -, -, -, -, -, u6, u6', u67, u7, u8, u8', -⟩ := hu
  obtain ⟨s1, s2, s3, s4, s5, s6, s7, s8, s9⟩ := h.2.2.2.2.2.2.2.2.2.1.2 t ht
  have su := zsr_iff.mp hs
  obtain ⟨q, q1, q2, q3⟩ := zi_le (n := 24) s2 s3 (by decide)
  have n24 : zrs I t ≤ 24 := by
    unfold zrs
    rw [q2, znIc (by omega)]
    exact Nat.le_trans (zlead_le _ _) q1
  have inv := (zda_inv (A := zagr (I 68) (I 70) t (zrs I t)) (fun e => (zagr_lo _ _ _ _ _ n24).1) 200 (by omega)).2.2.2.1
  rcases inv with ⟨y, -⟩ | ⟨e, e1, e2, -⟩
  · exact absurd y su.1
  · have sw0 : 0 ≤ zsw I t ∧ zsw I t ≤ 24 := by
      unfold zsw
      split
      · exact ⟨nI_pos' (by omega), (show nI (zrs I t) ≤ nI 24 from nI_le n24 (by omega))⟩
      · exact ⟨s5, s6⟩
    have sp := zspan_b (bk := I 73 t) (la := zal (zagr (I 68) (I 70) t (zrs I t)) 200) (s6 := I (zrl S (nI c)) 6) (s7 := I (zrl S (nI c)) 7) (sw := zsw I t) (st := I (zrl S (nI c)) 8) (by rw [e2]; exact nI_pos' (by omega)) (by rw [e2]; exact (show nI e ≤ nI 199 from nI_le (by omega) (by omega))) u6 u6' u67 u7 sw0.1 sw0.2 u8 u8'
    obtain ⟨a, a1, a2⟩ := zof sp.1
    obtain ⟨b, b1, b2⟩ := zof (Int32.le_trans sp.1 sp.2.1)
    have x1 := sp.2.1
    have x2 := sp.2.2
    rw [a2, b2, zle, znI a1, znI b1] at x1
    rw [b2, zle, znI b1, show (999 : Int32).toInt = 999 from rfl] at x2
    exact ⟨a, b, by omega, by omega, a2, b2, su.1⟩
noncomputable def zyq (I : zFI) (r : Nat) (F : Int32) (t : Nat) : Bool := zbb F t && zsr I r t
noncomputable def zyN (I : zFI) (r : Nat) (F : Int32) (T y : Nat) : Nat := zcnt (fun t => zyq I r F t && (decide (zhF I r t ≤ nI y) && decide (nI y ≤ zhU I r t))) T
theorem c_dateOf {G : Gp} {S : zSh} {I : zFI} {L : zFL} {n jn mn tl ln on : Nat} {Q : zPost} {c t : Nat} (h : iAll S I n jn mn tl ln on) (hc : c ≤ 1) (ht : t < 16) (q : ∀ J x, (∀ b, b ≠ 67 → J b = I b) → J 67 8 = x → (x = 0 ∨ x = 1) → (x = 1 ↔ zsr I (zrl S (nI c)) t = true) → (x = 1 → p_X8_dated J 5 = zhF I (zrl S (nI c)) t ∧ p_X8_dated J 6 = zhU I (zrl S (nI c)) t) → Q none S J L) :
    ZC G mX8_dateBy fX8_dateBy lX8_dateBy [zo G 67, zo G (zrl S (nI c)), .int (nI t), .int (p_X11_lastDaySeen I)] S I L 0 0 Q := by
  obtain ⟨s1, s2, s3, s4, s5, s6, s7, s8, s9⟩ := h.2.2.2.2.2.2.2.2.2.1.2 t ht
  obtain ⟨k, q1, q2, q3⟩ := zi_le (n := 24) s2 s3 (by decide)
  have hrs : zlead (fun k => decide (I 71 (24 * t + k) ≤ p_X11_lastDaySeen I)) k = zrs I t := by
    unfold zrs
    rw [q2, znIc (by omega)]
  refine c_dateBy h.1 (h.1.rl (nI_01 hc)).2 ht q2 q1 s8 hrs (fun J x w1 w2 w3 w4 w5 w6 w7 => q J x w1 w4 w5 (w6.trans zsr_iff.symm) (fun x1 => ?_))
  have nz : ¬ J 67 6 = -1 := by
    rw [w2]
    exact (w6.mp x1).1
  have e8 : ¬ J 67 8 = 0 := by
    rw [w4, x1]
    decide
  obtain ⟨v1, v2, v3⟩ := w7 x1
  constructor
  · unfold p_X8_dated p_X8_felledOrUsed
    rw [if_neg nz, if_neg (by decide), if_neg (by decide), if_neg (by decide), if_neg e8, if_neg (by decide), if_neg (by decide), if_pos rfl]
    exact v1
  · unfold p_X8_dated p_X8_felledOrUsed
    rw [if_neg nz, if_neg (by decide), if_neg (by decide), if_neg (by decide), if_neg e8, if_neg (by decide), if_neg (by decide), if_neg (by decide), if_pos rfl]
    exact v3
/-- FrameReader.built behind isFrame -/
theorem c_builtOf {G : Gp} {S : zSh} {I : zFI} {L : zFL} {n jn mn tl ln on : Nat} {Q : zPost} {c g : Nat} {v3 : Int32} (h : iAll S I n jn mn tl ln on) (hc : c ≤ 1) (hg : g < 8)
    (q : ∀ J, zScrd I J → J 74 0 = nI (zcnt (zyq I (zrl S (nI c)) (I (44 + 8 * c + 3) g)) 16) → J 74 3 = zyf (zyN I (zrl S (nI c)) (I (44 + 8 * c + 3) g) 16) 1000 → J 74 4 = zyl (zyN I (zrl S (nI c)) (I (44 + 8 * c + 3) g) 16) 1000 → J 74 5 = nI (zym (zyN I (zrl S (nI c)) (I (44 + 8 * c + 3) g) 16) 1000) → zym (zyN I (zrl S (nI c)) (I (44 + 8 * c + 3) g) 16) 1000 ≤ 16 → Q (some (.int (p_X0_found J v3))) S J L) :
    ZC G mX0_begin fX0_begin lX0_begin [zo G 74] S I L 0 0 (fun w S' I2 L2 => w = none ∧ S = S' ∧ ZW G mX11_built fX11_built lX11_built 21 [zo G 0, .int (nI c), .int (nI g), .int v3, .int 0] [] S I2 L2 0 0 Q) := by
  have hS := h.1
  have r := (hS.rl (nI_01 hc)).2
  generalize hF : I (44 + 8 * c + 3) g = F at *
  have main : ∀ (d T : Nat) (J : zFI), T + d = 16 → zScrd I J → J 74 0 = nI (zcnt (zyq I (zrl S (nI c)) F) T) → (∀ t, t < T → zyq I (zrl S (nI c)) F t = true → J 75 (zcnt (zyq I (zrl S (nI c)) F) t) = zhF I (zrl S (nI c)) t ∧ J 76 (zcnt (zyq I (zrl S (nI c)) F) t) = zhU I (zrl S (nI c)) t) → ZW G mX11_built fX11_built lX11_built 21 [zo G 0, .int (nI c), .int (nI g), .int v3, .int (nI T)] [] S J L 0 0 Q := by
    intro d
    induction d with
    | zero =>
      intro T J hT w j1 j2
      have : T = 16 := by omega
      rw [this] at j1 j2
      rw [this]
      have k16 := zcnt_le (zyq I (zrl S (nI c)) F) 16
      refine vX11_built_21 hS ⟨fun _ => c_settle (f := zyN I (zrl S (nI c)) F 16) hS j1 k16 (fun y hy => zcnt_list (P := fun t => decide (zhF I (zrl S (nI c)) t ≤ nI y) && decide (nI y ≤ zhU I (zrl S (nI c)) t)) (fun t ht qt => ?_) 16 (Nat.le_refl _)) (fun K k1 k2 k3 k4 k5 k6 => ⟨rfl, rfl, ?_⟩), fun no => absurd (Int32.le_refl _) no⟩
      · show (decide (J 75 _ ≤ nI y) && decide (nI y ≤ J 76 _)) = _
        rw [(j2 t ht qt).1, (j2 t ht qt).2]
      · exact q K (w.trans ⟨fun b hb => k1 b (fun y => hb (by rw [y]; decide)), by rw [k1 77 (by omega)], fun k _ => by rw [k1 84 (by omega)]⟩) k2 k3 k4 k5 k6
    | succ d ih =>
      intro T J hT w j1 j2
      have ck := zcnt_le (zyq I (zrl S (nI c)) F) T
      obtain ⟨AJ, -, -⟩ := zScrd.all (L := L) h w
      have mem : p_X3_membersOf J (zgid (nI c)) (nI g) = F := by
        rw [zgid_c hc, ← hF, ← w.low (show 44 + 8 * c + 3 < 67 by omega)]
        exact pick_in hg (by omega)
      have i1 := ih (T + 1)
      refine vX11_built_21 hS ⟨fun no => absurd no (nI_ge (b := 16) (by omega) (by omega)), fun _ => ⟨nI_01 hc, ?_⟩⟩
      rw [mem, nI_1]
      have skip : ∀ K, zScrd J K → K 74 = J 74 → K 75 = J 75 → K 76 = J 76 → ¬ zyq I (zrl S (nI c)) F T = true → ZW G mX11_built fX11_built lX11_built 21 [zo G 0, .int (nI c), .int (nI g), .int v3, .int (nI (T + 1))] [] S K L 0 0 Q := fun K wk e4 e5 e6 nq => by
        refine i1 K (by omega) (w.trans wk) ?_ (fun t ht qt => ?_)
        · rw [e4, j1, zcnt_succ, if_neg nq]
        · rw [e5, e6]
          refine j2 t (Classical.byContradiction (fun y => nq ?_)) qt
          rw [show T = t by omega]
          exact qt
      refine ⟨fun no => ?_, fun yes => ⟨nI_01 hc, c_dateOf AJ hc (by omega) (fun K x k1 k2 k3 k4 k5 => ⟨rfl, rfl, ?_, ?_⟩)⟩⟩
      · refine skip J (zScrd.refl J) rfl rfl rfl (fun y => no ((zb_test (by omega)).mpr ?_))
        unfold zyq at y
        rw [Bool.and_eq_true] at y
        exact zbb_iff.mp y.1
      · rw [k2]
        exact zb01n k3
      · have sq := zsp_eq w r T
        rw [sq.2.2.2] at k4
        rw [sq.1, sq.2.2.1] at k5
        have wK : zScrd J K := zScrd.r67 k1
        have e : p_X8_isSure K = x := k2
        rw [e]
        refine ⟨fun z => skip K wK (k1 74 (by omega)) (k1 75 (by omega)) (k1 76 (by omega)) (fun y => ?_), fun nz => ?_⟩
        · unfold zyq at y
          rw [Bool.and_eq_true] at y
          have := k4.mpr y.2
          rw [z] at this
          exact absurd this (by decide)
        · have x1 := k3.resolve_left nz
          have yq : zyq I (zrl S (nI c)) F T = true := by
            unfold zyq
            rw [zbb_iff.mpr ((zb_test (by omega)).mp yes), k4.mp x1]
            rfl
          rw [(k5 x1).1, (k5 x1).2]
          have kc : K 74 0 = nI (zcnt (zyq I (zrl S (nI c)) F) T) := by rw [k1 74 (by omega)]; exact j1
          refine ZC.of' (vX0_addSpan_0 hS ⟨fun no => ?_, fun _ => ?_⟩) rfl (Nat.le_of_ble_eq_true rfl) rfl
          · rw [kc] at no
            exact absurd no (nI_ge (b := 16) (by omega) (by omega))
          · rw [kc, znIc (by omega), nI_1]
            refine ⟨znIin (by omega) (by omega), rfl, rfl, i1 _ (by omega) ((w.trans wK).trans ⟨fun b hb => ?_, ?_, fun k hk => ?_⟩) ?_ (fun t ht qt => ?_)⟩
            · rw [← u2_row _ _ _ _ (show b ≠ 74 from fun y => hb (by rw [y]; decide)), ← u2_row _ _ _ _ (show b ≠ 76 from fun y => hb (by rw [y]; decide)), ← u2_row _ _ _ _ (show b ≠ 75 from fun y => hb (by rw [y]; decide))]
            · rw [u2_ne _ _ _ _ (by omega), u2_ne _ _ _ _ (by omega), u2_ne _ _ _ _ (by omega)]
            · rw [u2_ne _ _ _ _ (by omega), u2_ne _ _ _ _ (by omega), u2_ne _ _ _ _ (by omega)]
            · rw [u2_same, zcnt_succ, if_pos yq]
            · rcases (by omega : t < T ∨ t = T) with y | y
              · have lt : zcnt (zyq I (zrl S (nI c)) F) t < zcnt (zyq I (zrl S (nI c)) F) T := zcnt_mem qt y
                rw [u2_ne _ _ _ _ (by omega), u2_ne _ _ _ _ (by omega), u2_ne _ _ _ _ (by omega), u2_ne _ _ _ _ (by omega), u2_ne _ _ _ _ (by omega), u2_ne _ _ _ _ (by omega), k1 75 (by omega), k1 76 (by omega)]
                exact j2 t y qt
              · rw [y, u2_ne _ _ _ _ (by omega), u2_ne _ _ _ _ (by omega), u2_same, u2_ne _ _ _ _ (by omega), u2_same]
                exact ⟨rfl, rfl⟩
  refine ZC.of' (vX0_begin_0 hS ⟨rfl, rfl, main 16 0 _ (by omega) ⟨fun b hb => (u2_row _ _ _ _ (fun y => hb (by rw [y]; decide))).symm, u2_ne _ _ _ _ (by omega), fun k _ => u2_ne _ _ _ _ (by omega)⟩ (u2_same _ _ _ _) (fun t ht => absurd ht (Nat.not_lt_zero _))⟩) rfl (Nat.le_of_ble_eq_true rfl) rfl
