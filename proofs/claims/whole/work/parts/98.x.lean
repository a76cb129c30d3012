theorem zcnt_part {p : Nat → Bool} {a b : Nat} (h : a ≤ b) (no : ∀ k, a ≤ k → k < b → ¬ p k = true) : zcnt p b = zcnt p a := by
  induction b with
  | zero => rw [show a = 0 by omega]
  | succ b ih =>
    rcases (by omega : a = b + 1 ∨ a ≤ b) with c | c
    · rw [c]
    · rw [zcnt_succ, if_neg (no b c (by omega))]
      exact ih c (fun k h1 h2 => no k h1 (by omega))
/-- the timbers of the paired joints below m, as bits -/
def zts (v : Int32) (T P : Nat → Int32) (m : Nat) : Prop := ∀ k, k < 32 → (zb v k ↔ ∃ x, x < m ∧ ¬ P x = -1 ∧ T x = nI k)
theorem zts_skip {v : Int32} {T P : Nat → Int32} {m : Nat} (h : zts v T P m) (e : P m = -1) : zts v T P (m + 1) := fun k hk => by
  rw [h k hk]
  refine ⟨fun ⟨x, x1, x2⟩ => ⟨x, by omega, x2⟩, fun ⟨x, x1, x2, x3⟩ => ?_⟩
  rcases (by omega : x < m ∨ x = m) with c | c
  · exact ⟨x, c, x2, x3⟩
  · rw [c] at x2
    exact absurd e x2
theorem zts_take {v : Int32} {T P : Nat → Int32} {m a : Nat} (h : zts v T P m) (e : ¬ P m = -1) (ha : a < 32) (t : T m = nI a) : zts (v ||| zone a) T P (m + 1) := fun k hk => by
  rw [zb_or, zb_one ha hk, h k hk]
  refine ⟨fun q => ?_, fun ⟨x, x1, x2, x3⟩ => ?_⟩
  · rcases q with ⟨x, x1, x2⟩ | q
    · exact ⟨x, by omega, x2⟩
    · exact ⟨m, by omega, e, by rw [q]; exact t⟩
  · rcases (by omega : x < m ∨ x = m) with c | c
    · exact Or.inl ⟨x, c, x2, x3⟩
    · rw [c, t] at x3
      exact Or.inr (nI_same (by omega) (by omega) x3).symm
/-- the model's timbers used twice -/
theorem m_reused {G : Gp} {S : zSh} {I : zFI} {L : zFL} {n jn mn tl ln on : Nat} {Q : zPost} {v1 : Int32} {J : zFI} (h : iAll S I n jn mn tl ln on) (hJ : zJ2 S I L (zsj I jn)) (w : zScrd I J) (m0 : zMj I L J 0 27 jn) (m1 : zMj I L J 1 35 jn) (q : Q (some (.int (nI (zcnt (zru I) 16)))) S J L) : ZW G mX12_look fX12_look lX12_look 199 [zo G 84, .int v1, .int 0, .int 0, .int 0, .int 0] [] S J L 0 0 Q := by
  obtain ⟨AJ, -, -⟩ := zScrd.all (L := L) h w
  have hjn : J 84 13 = nI jn := AJ.2.2.2.1.2.2.1
  have h48 := h.2.2.2.1.2.1
  have hn16 := h.2.2.1.2.1
  have sl := zsj_le I jn
  have p0 := hJ.pr h (c := 0) (by omega)
  have p1 := hJ.pr h (c := 1) (by omega)
  have g0 := hJ.gth (c := 0) (by omega)
  have g1 := hJ.gth (c := 1) (by omega)
  have key : ∀ (k x : Nat) (v3 v4 : Int32), x + k = jn → zts v3 (I 14) (I 32) x → zts v4 (I 14) (I 40) x → ZW G mX12_look fX12_look lX12_look 199 [zo G 84, .int v1, .int 0, .int v3, .int v4, .int (nI x)] [] S J L 0 0 Q := by
    intro k
    induction k with
    | zero =>
      intro x v3 v4 hx t3 t4
      have hx : x = jn := by omega
      rw [hx] at t3 t4
      rw [hx]
      refine vX12_look_199 h.1 ⟨fun _ => m_ones h.1 ⟨_, rfl, rfl, ?_⟩, fun no => ?_⟩
      · have full : ∀ (P : Nat → Int32) (v : Int32), zts v (I 14) P jn → (∀ x, x < 48 → zsj I jn ≤ x → P x = -1) → ∀ k, k < 32 → (zb v k ↔ ∃ x, x < 48 ∧ ¬ P x = -1 ∧ I 14 x = nI k) := fun P v t o k hk => by
          rw [t k hk]
          refine ⟨fun ⟨x, x1, x2⟩ => ⟨x, by omega, x2⟩, fun ⟨x, x1, x2⟩ => ⟨x, ?_, x2⟩⟩
          exact Classical.byContradiction (fun no => x2.1 (o x x1 (by omega)))
        have f3 := full _ _ t3 p0.2.1
        have f4 := full _ _ t4 p1.2.1
        have small : ∀ (P : Nat → Int32) k, k < 32 → zPrt (I 14) P → (∃ x, x < 48 ∧ ¬ P x = -1 ∧ I 14 x = nI k) → k < 16 := fun P k hk hP ⟨x, x1, x2, x3⟩ => by
          obtain ⟨y, a, b, y1, y2, y3, y4, y5, y6, y7, y8⟩ := hP x x1 x2
          rw [y6] at x3
          have := nI_same (by omega) (by omega) x3
          omega
        have e : zpc (v3 &&& v4) = zcnt (zru I) 16 := by
          unfold zpc
          have bits : ∀ k, (v3 &&& v4).toBitVec.getLsbD k = true ↔ zb v3 k ∧ zb v4 k := fun k => by
            unfold zb
            rw [Int32.toBitVec_and, BitVec.getLsbD_and, Bool.and_eq_true]
          rw [zcnt_part (a := 16) (b := 32) (by omega) (fun k h1 h2 y => ?_)]
          · refine zcnt_congr (fun k hk => Bool.eq_iff_iff.mpr ?_)
            rw [bits, f3 k (by omega), f4 k (by omega), ← zfr_iff g0 p0.1 hk, ← zfr_iff g1 p1.1 hk]
            unfold zru
            rw [Bool.and_eq_true, decide_eq_true_iff, decide_eq_true_iff]
          · have := small _ k (by omega) p0.1 ((f3 k (by omega)).mp ((bits k).mp y).1)
            omega
        rw [e]
        exact q
      · rw [hjn] at no
        exact absurd (Int32.le_refl _) no
    | succ k ih =>
      intro x v3 v4 hx t3 t4
      have ec : (48 + nI x : Int32) = nI (48 + x) := by rw [show (48 : Int32) = nI 48 from rfl, nI_add]
      have e0 := m0.1 x (by omega)
      rw [show 48 * 0 + x = x by omega] at e0
      have e1 := m1.1 x (by omega)
      rw [show 48 * 1 + x = 48 + x by omega] at e1
      have e2 : J 94 x = I 14 x := by
        rw [w.1 94 (by decide)]
        exact (h.2.2.2.1.2.2.2.1 x (by omega)).1
      have i48 : vp_in (nI x) 48 := znIin (by omega) (by omega)
      have i96 : vp_in (nI x) 96 := znIin (by omega) (by omega)
      have i97 : vp_in (nI (48 + x)) 96 := znIin (by omega) (by omega)
      have e0 : J 119 x = I 32 x := e0
      have e1 : J 119 (48 + x) = I 40 x := e1
      obtain ⟨-, -, -, -, -, d1, d2, -⟩ := h.2.2.2.1.2.2.2.1 x (by omega)
      obtain ⟨a, a1, ea⟩ := zof d1
      rw [ea, zlt, znI a1, znI (by omega)] at d2
      refine vX12_look_199 h.1 ⟨fun no => ?_, fun _ => ⟨fun _ _ => i48, fun _ => ?_, fun no => ?_⟩⟩
      · rw [hjn] at no
        exact absurd no (nI_ge (by omega) (by omega))
      · rw [ec, znIc (by omega), znIc (show 48 + x < 2147483648 by omega), e0, e1, e2, ea, zone_eq, nI_1]
        refine ⟨i96, fun c => ⟨i97, fun d => ?_, fun d => ⟨i48, ?_⟩⟩, fun c => ⟨i48, i97, fun d => ?_, fun d => ?_⟩⟩
        · exact ih (x + 1) _ _ (by omega) (zts_skip t3 c) (zts_skip t4 d)
        · exact ih (x + 1) _ _ (by omega) (zts_skip t3 c) (zts_take t4 d (by omega) ea)
        · exact ih (x + 1) _ _ (by omega) (zts_take t3 c (by omega) ea) (zts_skip t4 d)
        · exact ih (x + 1) _ _ (by omega) (zts_take t3 c (by omega) ea) (zts_take t4 d (by omega) ea)
      · have hs : zsj I jn ≤ x := by
          have y := (mJnt_0 AJ.2.1 AJ.2.2.2.1).mp no
          refine Classical.byContradiction (fun z => y ⟨nI_pos' (by omega), ?_⟩)
          rw [w.sj]
          exact nI_lt (by omega) (by omega)
        rw [nI_1]
        exact ih (x + 1) _ _ (by omega) (zts_skip t3 (p0.2.1 x (by omega) hs)) (zts_skip t4 (p1.2.1 x (by omega) hs))
  exact key jn 0 0 0 (by omega) (fun k _ => ⟨fun y => absurd y (zb_0 k), fun ⟨x, x1, _⟩ => absurd x1 (Nat.not_lt_zero _)⟩) (fun k _ => ⟨fun y => absurd y (zb_0 k), fun ⟨x, x1, _⟩ => absurd x1 (Nat.not_lt_zero _)⟩)
theorem zJ2.both {G : Gp} {S : zSh} {I : zFI} {L : zFL} {n jn mn tl ln on : Nat} {Q : zPost} (h : iAll S I n jn mn tl ln on) (hJ : zJ2 S I L (zsj I jn)) (q : ∀ I', zScrd I I' → zMj I L I' 0 27 jn → zMj I L I' 1 35 jn → Q none S I' L) : ZC G mX12_findJoins fX12_findJoins lX12_findJoins [zo G 84, .int 1] S (u2 I 84 0 0) L 0 0 Q :=
  m_joinsTold2 (c := 1) h.mid (by omega) hJ (fun I' w m1 m0 => q I' w m0 m1)
theorem zOpI.mono {G : Gp} {m m' : Mi} {f l f' l' bc bs : Nat} {As : List Value} {S : zSh} {I : zFI} {L : zFL} {R R' : zSh → zFI → zFL → Prop} (k : ∀ (S' : zSh) (I' : zFI) (L' : zFL), R S' I' L' → R' S' I' L') (g : zOpI G m f l m' f' l' As S I L bc bs R) : zOpI G m f l m' f' l' As S I L bc bs R' :=
  ZC.mono (fun v S' I' L' ⟨r, e, y⟩ => ⟨r, e, ZC.mono (fun v' S'' I'' L'' ⟨e', z⟩ => ⟨e', k _ _ _ z⟩) y⟩) g
theorem op_look {G : Gp} {S : zSh} {I : zFI} {L : zFL} {n jn mn tl ln on : Nat} {v1 : Int32} (h : iAll S I n jn mn tl ln on) (hJ : I 0 16 = 0 → zJ2 S I L (zsj I jn)) : zOpI G mX11_look fX11_look lX11_look mX12_look fX12_look lX12_look [.int v1] S I L 0 0 (fun S' I' L' => S' = S ∧ iAll S I' n jn mn tl ln on ∧ zAft S I L I' L' jn) := by
  by_cases hv : 4 ≤ v1 ∧ v1 ≤ 6
  · have c : v1 = 4 ∨ v1 = 5 ∨ v1 = 6 := by
      obtain ⟨h1, h2⟩ := hv
      have h1 := zle.mp h1
      have h2 := zle.mp h2
      rw [zeq, zeq, zeq]
      rw [show (4 : Int32).toInt = 4 from rfl] at h1 ⊢
      rw [show (6 : Int32).toInt = 6 from rfl] at h2 ⊢
      rw [show (5 : Int32).toInt = 5 from rfl]
      omega
    have n0 : ¬ v1 = 0 := fun q => by rw [q] at c; exact absurd c (by decide)
    have n1 : ¬ v1 = 1 := fun q => by rw [q] at c; exact absurd c (by decide)
    have n2 : ¬ v1 = 2 := fun q => by rw [q] at c; exact absurd c (by decide)
    have n3 : ¬ v1 = 3 := fun q => by rw [q] at c; exact absurd c (by decide)
    have in46 : ¬ p_X12_isIn v1 4 6 = 0 := fun q => (isIn_0 _ _ _).mp q hv
    refine ZC.of' (vX11_look_0 h.1 ⟨fun q => absurd q n0, fun q => absurd q n1, fun q => absurd q n2, fun q => absurd q n3, fun e => ?_, fun e => ?_, fun e => ?_, fun _ _ _ _ m4 m5 m6 => ?_⟩) rfl (Nat.le_of_ble_eq_true rfl) rfl
    · refine c_reused h hJ (fun I1 L1 A z a => ⟨_, rfl, rfl, _, rfl, ?_⟩)
      refine ZC.of' (vX12_look_0 h.1 ⟨fun _ => ⟨fun _ => ⟨fun _ => ⟨fun _ => ⟨fun _ => zJ2.both A z (fun J w m0 m1 => ⟨rfl, rfl, fun _ => m_reused A z w m0 m1 ⟨rfl, rfl, a.scr A w⟩, fun no => absurd ?_ no⟩), fun q => absurd q in46⟩, fun q => absurd q n3⟩, fun q => absurd q n2⟩, fun q => absurd q n1⟩, fun q => absurd q n0⟩) rfl (Nat.le_of_ble_eq_true rfl) rfl
      rw [e]
      exact Int32.le_refl _
    · refine c_idle h hJ (fun I1 L1 A z a => ⟨_, rfl, rfl, _, rfl, ?_⟩)
      refine ZC.of' (vX12_look_0 h.1 ⟨fun _ => ⟨fun _ => ⟨fun _ => ⟨fun _ => ⟨fun _ => zJ2.both A z (fun J w m0 m1 => ⟨rfl, rfl, fun no => absurd no ?_, fun _ => m_idle A w m0 m1 (Or.inl ⟨e, rfl⟩) ⟨rfl, rfl, a.scr A w⟩⟩), fun q => absurd q in46⟩, fun q => absurd q n3⟩, fun q => absurd q n2⟩, fun q => absurd q n1⟩, fun q => absurd q n0⟩) rfl (Nat.le_of_ble_eq_true rfl) rfl
      rw [e]
      decide
    · refine c_idle h hJ (fun I1 L1 A z a => ⟨_, rfl, rfl, _, rfl, ?_⟩)
      refine ZC.of' (vX12_look_0 h.1 ⟨fun _ => ⟨fun _ => ⟨fun _ => ⟨fun _ => ⟨fun _ => zJ2.both A z (fun J w m0 m1 => ⟨rfl, rfl, fun no => absurd no ?_, fun _ => m_idle A w m0 m1 (Or.inr ⟨e, rfl⟩) ⟨rfl, rfl, a.scr A w⟩⟩), fun q => absurd q in46⟩, fun q => absurd q n3⟩, fun q => absurd q n2⟩, fun q => absurd q n1⟩, fun q => absurd q n0⟩) rfl (Nat.le_of_ble_eq_true rfl) rfl
      rw [e]
      decide
    · exfalso
      rcases c with q | q | q
      · exact m4 q
      · exact m5 q
      · exact m6 q
  · exact zOpI.mono (fun S' (I' : zFI) L' ⟨a, b, c, d⟩ => ⟨a, b, Or.inl ⟨c, d⟩⟩) (op_look03 h hv)
