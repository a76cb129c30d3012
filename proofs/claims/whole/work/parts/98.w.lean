/-- a timber is in a frame iff a joint of it is paired -/
theorem zfr_iff {I : zFI} {f a : Nat} {T P s : Nat → Int32} (h : zGth I f T P s) (hP : zPrt T P) (ha : a < 16) : ¬ I (f + 2) a = -1 ↔ ∃ x, x < 48 ∧ ¬ P x = -1 ∧ T x = nI a := by
  have h1 := h.1
  have m16 := zMt_16 hP h1
  have mS := zMt_sym hP h1
  have some_ : ¬ I (f + 1) a = 0 ↔ ∃ x, x < 48 ∧ ¬ P x = -1 ∧ T x = nI a := by
    refine ⟨fun q => ?_, fun ⟨x, x1, x2, x3⟩ q => ?_⟩
    · obtain ⟨k, k1, k2⟩ : ∃ k, k < 32 ∧ zb (I (f + 1) a) k := Classical.byContradiction (fun no => q (zb_ext (fun k hk => ⟨fun y => absurd ⟨k, hk, y⟩ no, fun y => absurd y (zb_0 k)⟩)))
      obtain ⟨x, x1, x2, x3, -⟩ := (h1 a ha k k1).mp k2
      exact ⟨x, x1, x2, x3⟩
    · obtain ⟨y, a', b, y1, y2, y3, y4, y5, y6, y7, y8⟩ := hP x x1 x2
      have : zb (I (f + 1) a) b := (h1 a ha b (by omega)).mpr ⟨x, x1, x2, x3, by rw [y2, znIc (by omega)]; exact y7⟩
      rw [q] at this
      exact zb_0 b this
  rw [← some_]
  refine ⟨fun q => ?_, fun q => ?_⟩
  · rcases zfr_of h hP ha with ⟨c, -⟩ | ⟨t, t1, t2, t3, -⟩
    · exact absurd c q
    · have hD : zcl (I (f + 1)) (fun k => ¬ I (f + 1) k = 0) := fun t ht _ k hk y z => by
        have := mS t k ht y
        rw [z] at this
        exact zb_0 t this
      exact zcm_in hD t1 (zst_iff.mp t2).1 (by omega) t3
  · obtain ⟨t, t1, t2, t3⟩ := zst_ex m16 mS ha q
    rw [(h.2.2.1 t (by omega) t2).2 a ha t3]
    have := zcnt_le (zst (I (f + 1))) t
    exact nI_neg1 (by omega)
def zru (I : zFI) (t : Nat) : Bool := decide (¬ I 46 t = -1) && decide (¬ I 54 t = -1)
def zid (I : zFI) (s : Int32) (x : Nat) : Bool := decide (I 16 x = s) && decide (I 32 x = -1) && decide (I 40 x = -1)
theorem c_reused {G : Gp} {S : zSh} {I : zFI} {L : zFL} {n jn mn tl ln on : Nat} {Q : zPost} (h : iAll S I n jn mn tl ln on) (hJ : I 0 16 = 0 → zJ2 S I L (zsj I jn)) (q : ∀ I' L', iAll S I' n jn mn tl ln on → zJ2 S I' L' (zsj I' jn) → zAft S I L I' L' jn → Q (some (.int (nI (zcnt (zru I') 16)))) S I' L') : ZC G mX11_countReused fX11_countReused lX11_countReused [zo G 0] S I L 0 0 Q := by
  refine ZC.of' (vX11_countReused_0 h.1 (c_fresh h hJ (fun I1 L1 A w z a => ⟨rfl, rfl, ?_⟩))) rfl (Nat.le_of_ble_eq_true rfl) rfl
  have key : ∀ (k t : Nat), t + k = 16 → ZW G mX11_countReused fX11_countReused lX11_countReused 8 [zo G 0, .int (nI (zcnt (zru I1) t)), .int (nI t)] [] S I1 L1 0 0 Q := by
    intro k
    induction k with
    | zero =>
      intro t ht
      have : t = 16 := by omega
      subst this
      exact vX11_countReused_8 h.1 ⟨fun _ => q I1 L1 A z a, fun no => absurd (Int32.le_refl _) no⟩
    | succ k ih =>
      intro t ht
      have i1 := ih (t + 1) (by omega)
      have e1 : p_X3_holding I1 44 (nI t) = I1 46 t := pick_in (by omega) (by omega)
      have e2 : p_X3_holding I1 52 (nI t) = I1 54 t := pick_in (by omega) (by omega)
      refine vX11_countReused_8 h.1 ⟨fun no => absurd no (nI_ge (b := 16) (by omega) (by omega)), fun _ => ?_⟩
      rw [e1, e2, nI_1]
      rw [zcnt_succ] at i1
      refine ⟨fun c => ?_, fun c => ⟨fun d => ?_, fun d => ?_⟩⟩
      · rw [if_neg (by unfold zru; rw [decide_eq_false (fun y => y c)]; exact Bool.noConfusion)] at i1
        exact i1
      · rw [if_neg (by unfold zru; rw [decide_eq_false (p := ¬ I1 54 t = -1) (fun y => y d), Bool.and_false]; exact Bool.noConfusion)] at i1
        exact i1
      · rw [if_pos (by unfold zru; rw [decide_eq_true c, decide_eq_true d]; rfl)] at i1
        rw [nI_1]
        exact i1
  exact key 16 0 (by omega)
theorem c_idle {G : Gp} {S : zSh} {I : zFI} {L : zFL} {n jn mn tl ln on : Nat} {Q : zPost} {s : Int32} (h : iAll S I n jn mn tl ln on) (hJ : I 0 16 = 0 → zJ2 S I L (zsj I jn)) (q : ∀ I' L', iAll S I' n jn mn tl ln on → zJ2 S I' L' (zsj I' jn) → zAft S I L I' L' jn → Q (some (.int (nI (zcnt (zid I' s) (zsj I' jn))))) S I' L') : ZC G mX11_countIdle fX11_countIdle lX11_countIdle [zo G 0, .int s] S I L 0 0 Q := by
  refine ZC.of' (vX11_countIdle_0 h.1 (c_fresh h hJ (fun I1 L1 A w z a => ⟨rfl, rfl, c_jointsSeen h.1 A.2.2.2.1 ⟨_, rfl, rfl, ?_⟩⟩))) rfl (Nat.le_of_ble_eq_true rfl) rfl
  have h48 := A.2.2.2.1.2.1
  have sl := zsj_le I1 jn
  have key : ∀ (k x : Nat), x + k = zsj I1 jn → ZW G mX11_countIdle fX11_countIdle lX11_countIdle 14 [zo G 0, .int s, .int (nI (zsj I1 jn)), .int (nI (zcnt (zid I1 s) x)), .int (nI x)] [] S I1 L1 0 0 Q := by
    intro k
    induction k with
    | zero =>
      intro x hx
      rw [show x = zsj I1 jn by omega]
      exact vX11_countIdle_14 h.1 ⟨fun _ => q I1 L1 A z a, fun no => absurd (Int32.le_refl _) no⟩
    | succ k ih =>
      intro x hx
      have i1 := ih (x + 1) (by omega)
      have e1 : p_X4_partnerOf I1 27 (nI x) = I1 32 x := pick_in (by omega) (by omega)
      have e2 : p_X4_partnerOf I1 35 (nI x) = I1 40 x := pick_in (by omega) (by omega)
      have e3 : p_X10_sortOf I1 (nI x) = I1 16 x := pick_in (by omega) (by omega)
      refine vX11_countIdle_14 h.1 ⟨fun no => absurd no (nI_ge (by omega) (by omega)), fun _ => ?_⟩
      rw [e1, e2, e3, nI_1]
      rw [zcnt_succ] at i1
      refine ⟨fun c => ?_, fun c => ⟨fun d => ?_, fun d => ⟨fun e => ?_, fun e => ?_⟩⟩⟩
      · rw [if_neg (by unfold zid; rw [decide_eq_false c]; exact Bool.noConfusion)] at i1
        exact i1
      · rw [if_neg (by unfold zid; rw [decide_eq_false d, Bool.and_false]; exact Bool.noConfusion)] at i1
        exact i1
      · rw [if_neg (by unfold zid; rw [decide_eq_false e, Bool.and_false]; exact Bool.noConfusion)] at i1
        exact i1
      · rw [if_pos (by unfold zid; rw [decide_eq_true c, decide_eq_true d, decide_eq_true e]; rfl)] at i1
        rw [nI_1]
        exact i1
  exact key (zsj I1 jn) 0 (by omega)
/-- the model's idle joints -/
theorem m_idle {G : Gp} {S : zSh} {I : zFI} {L : zFL} {n jn mn tl ln on : Nat} {Q : zPost} {v1 s : Int32} {J : zFI} (h : iAll S I n jn mn tl ln on) (w : zScrd I J) (m0 : zMj I L J 0 27 jn) (m1 : zMj I L J 1 35 jn) (hv : v1 = 5 ∧ s = 1 ∨ v1 = 6 ∧ s = 0) (q : Q (some (.int (nI (zcnt (zid I s) (zsj I jn))))) S J L) : ZW G mX12_look fX12_look lX12_look 121 [zo G 84, .int v1, .int 0, .int 0, .null, .null] [] S J L 0 0 Q := by
  obtain ⟨AJ, -, -⟩ := zScrd.all (L := L) h w
  have hjn : J 84 13 = nI jn := AJ.2.2.2.1.2.2.1
  have h48 := h.2.2.2.1.2.1
  have sl := zsj_le I jn
  have rest : ∀ (k x : Nat), x + k = jn → zsj I jn ≤ x → ZW G mX12_look fX12_look lX12_look 121 [zo G 84, .int v1, .int (nI (zcnt (zid I s) (zsj I jn))), .int (nI x), .null, .null] [] S J L 0 0 Q := by
    intro k
    induction k with
    | zero =>
      intro x hx _
      refine vX12_look_121 h.1 ⟨fun _ => q, fun no => ?_⟩
      rw [hjn, show x = jn by omega] at no
      exact absurd (Int32.le_refl _) no
    | succ k ih =>
      intro x hx hs
      refine vX12_look_121 h.1 ⟨fun no => ?_, fun _ => ⟨fun _ _ => znIin (by omega) (by omega), fun _ => ?_, fun no => absurd ((mJnt_0 AJ.2.1 AJ.2.2.2.1).mpr (fun y => ?_)) no⟩⟩
      · rw [hjn] at no
        exact absurd no (nI_ge (by omega) (by omega))
      · rw [nI_1]
        exact ih (x + 1) (by omega) (by omega)
      · have y := y.2
        rw [w.sj, zlt, znI (by omega), znI (by omega)] at y
        omega
  have key : ∀ (k x : Nat), x + k = zsj I jn → ZW G mX12_look fX12_look lX12_look 121 [zo G 84, .int v1, .int (nI (zcnt (zid I s) x)), .int (nI x), .null, .null] [] S J L 0 0 Q := by
    intro k
    induction k with
    | zero =>
      intro x hx
      rw [show x = zsj I jn by omega]
      exact rest (jn - zsj I jn) (zsj I jn) (by omega) (by omega)
    | succ k ih =>
      intro x hx
      have i1 := ih (x + 1) (by omega)
      have e0 := m0.1 x (by omega)
      rw [show 48 * 0 + x = x by omega] at e0
      have e1 := m1.1 x (by omega)
      rw [show 48 * 1 + x = 48 + x by omega] at e1
      have e2 : J 96 x = I 16 x := by
        rw [w.1 96 (by decide)]
        exact (h.2.2.2.1.2.2.2.1 x (by omega)).2.2.1
      have ec : (48 + nI x : Int32) = nI (48 + x) := by rw [show (48 : Int32) = nI 48 from rfl, nI_add]
      refine vX12_look_121 h.1 ⟨fun no => ?_, fun _ => ⟨fun _ _ => znIin (by omega) (by omega), fun no => ?_, fun _ => ?_⟩⟩
      · rw [hjn] at no
        exact absurd no (nI_ge (by omega) (by omega))
      · refine absurd ⟨nI_pos' (by omega), ?_⟩ ((mJnt_0 AJ.2.1 AJ.2.2.2.1).mp no)
        rw [w.sj]
        exact nI_lt (by omega) (by omega)
      · rw [ec, znIc (by omega), znIc (show 48 + x < 2147483648 by omega), e0, e1, e2, nI_1]
        rw [zcnt_succ] at i1
        have i16 : vp_in (nI x) 48 := znIin (by omega) (by omega)
        have i96 : vp_in (nI x) 96 := znIin (by omega) (by omega)
        have i97 : vp_in (nI (48 + x)) 96 := znIin (by omega) (by omega)
        have tail : ∀ {u : Int32}, u = s → (¬ I 16 x = u → ZW G mX12_look fX12_look lX12_look 121 [zo G 84, .int v1, .int (nI (zcnt (zid I s) x)), .int (nI (x + 1)), .null, .null] [] S J L 0 0 Q) ∧ (I 16 x = u → vp_in (nI x) 96 ∧ ((¬ I 32 x = -1 → ZW G mX12_look fX12_look lX12_look 121 [zo G 84, .int v1, .int (nI (zcnt (zid I s) x)), .int (nI (x + 1)), .null, .null] [] S J L 0 0 Q) ∧ (I 32 x = -1 → vp_in (nI (48 + x)) 96 ∧ ((¬ I 40 x = -1 → ZW G mX12_look fX12_look lX12_look 121 [zo G 84, .int v1, .int (nI (zcnt (zid I s) x)), .int (nI (x + 1)), .null, .null] [] S J L 0 0 Q) ∧ (I 40 x = -1 → ZW G mX12_look fX12_look lX12_look 121 [zo G 84, .int v1, .int (nI (zcnt (zid I s) x) + 1), .int (nI (x + 1)), .null, .null] [] S J L 0 0 Q))))) := fun {u} e => by
          rw [e]
          refine ⟨fun c => ?_, fun c => ⟨i96, fun d => ?_, fun d => ⟨i97, fun e => ?_, fun e => ?_⟩⟩⟩
          · rw [if_neg (by unfold zid; rw [decide_eq_false c]; exact Bool.noConfusion)] at i1
            exact i1
          · rw [if_neg (by unfold zid; rw [decide_eq_false d, Bool.and_false]; exact Bool.noConfusion)] at i1
            exact i1
          · rw [if_neg (by unfold zid; rw [decide_eq_false e, Bool.and_false]; exact Bool.noConfusion)] at i1
            exact i1
          · rw [if_pos (by unfold zid; rw [decide_eq_true c, decide_eq_true d, decide_eq_true e]; rfl)] at i1
            rw [nI_1]
            exact i1
        refine ⟨i16, fun n5 => ?_, fun y5 => ?_⟩
        · rcases hv with ⟨c1, -⟩ | ⟨-, c2⟩
          · exact absurd c1 n5
          · exact tail c2.symm
        · rcases hv with ⟨-, c2⟩ | ⟨c1, -⟩
          · exact tail c2.symm
          · rw [c1] at y5
            exact absurd y5 (by decide)
  exact key (zsj I jn) 0 (by omega)
