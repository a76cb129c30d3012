/-! the class's Join: bits, relaxing -/
theorem zsh_all : ∀ k : Fin 64, ((((nI k.1).toInt64 &&& 63).toBitVec).smod 64).toNat = k.1 := by decide +kernel
theorem zbit_1 (y : Int64) : y &&& 1 = 1 ↔ y.toBitVec.getLsbD 0 = true := by
  constructor
  · intro h
    have := congrArg (fun z : Int64 => z.toBitVec.getLsbD 0) h
    simp only [Int64.toBitVec_and, BitVec.getLsbD_and] at this
    have e : (1 : Int64).toBitVec.getLsbD 0 = true := by decide
    rw [e, Bool.and_true] at this
    exact this
  · intro h
    refine Int64.toBitVec_inj.mp (BitVec.eq_of_getLsbD_eq (fun i hi => ?_))
    have e : ∀ i : Fin 64, (1 : Int64).toBitVec.getLsbD i.1 = decide (i.1 = 0) := by decide
    rw [Int64.toBitVec_and, BitVec.getLsbD_and, e ⟨i, hi⟩]
    by_cases c : i = 0
    · subst c
      rw [h]
      rfl
    · simp [c]
theorem has_iff {v : Int64} {x : Nat} (hx : x < 64) : p_X4_has v (nI x) = 0 ↔ ¬ (x < 48 ∧ zhas v x) := by
  unfold p_X4_has
  rw [if_neg (nI_pos (by omega))]
  by_cases c : x < 48
  · rw [if_neg (show ¬ (48 : Int32) ≤ nI x from nI_ge (b := 48) c (by omega))]
    have e : lg_cmp ((v >>> ((nI x).toInt64 &&& 63)) &&& 1) 1 = 0 ↔ zhas v x := by
      rw [lg_cmp_eq, zbit_1, Int64.toBitVec_shiftRight, BitVec.getLsbD_sshiftRight', zsh_all ⟨x, hx⟩]
      unfold zhas
      simp [hx]
    by_cases d : zhas v x
    · rw [if_pos (e.mpr d)]
      exact ⟨fun q => absurd q (by decide), fun q => absurd ⟨c, d⟩ q⟩
    · rw [if_neg (fun q => d (e.mp q))]
      exact ⟨fun _ q => d q.2, fun _ => rfl⟩
  · rw [if_pos (show (48 : Int32) ≤ nI x from nI_le (a := 48) (by omega) (by omega))]
    exact ⟨fun _ q => c q.1, fun _ => rfl⟩
def jArc (na : Nat) (aT aH : Nat → Nat) (t h : Nat) : Prop := ∃ i, i < na ∧ aT i = t ∧ aH i = h
def jSt (I : zFI) (L : zFL) (j na : Nat) (aT aH : Nat → Nat) (w : Nat → Nat → Int) : Prop :=
  I j 4 = nI na ∧ na ≤ 576 ∧ (∀ i, i < na → I (j + 2) i = nI (aT i) ∧ I (j + 3) i = nI (aH i) ∧ (I (j + 4) i).toInt = w (aT i) (aH i)) ∧ (∀ x, x < 48 → (zhas (L j 5) x ↔ jTn (jArc na aT aH) x) ∧ (zhas (L j 6) x ↔ jHl (jArc na aT aH) x)) ∧ jOk (jArc na aT aH) w
def jPt (I : zFI) (j : Nat) (F : Nat → Nat → Prop) (m : Nat → Nat) : Prop := ∀ x, x < 48 → (jTn F x → I (j + 5) x = if m x = 50 then -1 else nI (m x)) ∧ (jHl F x → (jFr m x → I (j + 5) x = -1) ∧ ∀ t, t < 48 → m t = x → I (j + 5) x = nI t) ∧ (¬ jTn F x → ¬ jHl F x → I (j + 5) x = -1)
def bS (I0 I : zFI) (j : Nat) (E : Nat → Nat → Int → Prop) (z : Nat) (d0 : Nat → Int) (P : Nat → Nat → Int → Prop) (f : Bool) : Prop :=
  (∀ b, b ≠ j + 6 → b ≠ j + 7 → I b = I0 b) ∧ bJ E z d0 P (fun u => (I (j + 6) u).toInt) (fun u => (I (j + 7) u).toNatClampNeg) f ∧ ∀ u, u < 50 → ¬ (I (j + 6) u).toInt = 1000000 → ¬ u = z → 0 ≤ I (j + 7) u
theorem bS_mono {I0 I : zFI} {j z : Nat} {E P P' : Nat → Nat → Int → Prop} {d0 : Nat → Int} {f : Bool} (h : bS I0 I j E z d0 P f) (hp : ∀ a b k, P' a b k → P a b k) : bS I0 I j E z d0 P' f :=
  ⟨h.1, ⟨h.2.1.1, h.2.1.2.1, fun a b k q => h.2.1.2.2.1 a b k (hp a b k q), h.2.1.2.2.2⟩, h.2.2⟩
theorem bS_flag {I0 I : zFI} {j z : Nat} {E P : Nat → Nat → Int → Prop} {d0 : Nat → Int} {f : Bool} (h : bS I0 I j E z d0 P f) : bS I0 I j E z d0 P true :=
  ⟨h.1, ⟨h.2.1.1, h.2.1.2.1, h.2.1.2.2.1, fun q => Bool.noConfusion q⟩, h.2.2⟩
theorem c_relax {G : Gp} {Q : zPost} {S : zSh} {I0 I : zFI} {L : zFL} {j u v z : Nat} {c : Int32} {E P P' : Nat → Nat → Int → Prop} {π d0 : Nat → Int} {f : Bool} (hS : zStd S) (hj : zJn j) (hE : bOk E π) (hd0 : ∀ u, u < 50 → d0 u ≤ 1000000) (hb : bS I0 I j E z d0 P f) (he : E u v c.toInt) (hP : ∀ a b k, P' a b k → P a b k ∨ (a = u ∧ b = v ∧ k = c.toInt))
    (h0 : bS I0 I j E z d0 P' f → Q (some (.int 0)) S I L) (h1 : ∀ I', bS I0 I' j E z d0 P' true → Q (some (.int 1)) S I' L) : ZC G mX4_relax fX4_relax lX4_relax [zo G j, .int (nI u), .int (nI v), .int c] S I L 0 0 Q := by
  obtain ⟨b1, b2, b3⟩ := hb
  have hb := hE _ _ _ he
  have lov : -147 ≤ (I (j + 6) v).toInt := b_low hE b2.1 hb.2.1
  have upv : (I (j + 6) v).toInt ≤ 1000000 := b2.1.2.1 v hb.2.1
  have cv : (nI v).toNatClampNeg = v := znIc (by omega)
  have cu : (nI u).toNatClampNeg = u := znIc (by omega)
  have far : I (j + 6) v = 1000000 ↔ (I (j + 6) v).toInt = 1000000 := zeq
  have ea : (I (j + 6) v + c).toInt = (I (j + 6) v).toInt + c.toInt := zadd (by omega) (by omega)
  refine ZC.of' (vX4_relax_0 hS hj ?_) rfl (Nat.le_of_ble_eq_true rfl) rfl
  rw [cv, cu]
  refine ⟨fun no => absurd no (nI_pos (by omega)), fun _ => ⟨fun no => absurd no (nI_ge (b := 50) hb.1 (by omega)), fun _ => ⟨fun no => absurd no (nI_pos (by omega)), fun _ => ⟨fun _ => ⟨znIin hb.2.1 (by decide), fun q => h0 ⟨b1, ?_, b3⟩, fun q => ⟨znIin hb.1 (by decide), fun q2 => h1 _ ⟨fun b hb1 hb2 => ?_, ?_, fun x hx hd hz => ?_⟩, fun q2 => h0 ⟨b1, ?_, b3⟩⟩⟩, fun no => absurd (nI_lt (b := 50) hb.2.1 (by omega)) no⟩⟩⟩⟩
  · exact bJ_keep hE b2 hd0 he (Or.inl (far.mp q)) hP
  · rw [← u2_row _ _ _ _ hb2, ← u2_row _ _ _ _ hb1]
    exact b1 b hb1 hb2
  · rw [zlt, ea] at q2
    refine bJ_move hE b2 he (fun w => q (far.mpr w)) q2 ?_ (fun x hx => ?_) ?_ (fun x hx => ?_) hP
    · show (u2 (u2 I (j + 6) u (I (j + 6) v + c)) (j + 7) u (nI v) (j + 6) u).toInt = _
      rw [u2_ne _ _ _ _ (by omega), u2_same, ea]
    · show (u2 (u2 I (j + 6) u (I (j + 6) v + c)) (j + 7) u (nI v) (j + 6) x).toInt = _
      rw [u2_ne _ _ _ _ (by omega), u2_ne _ _ _ _ (by omega)]
    · show (u2 (u2 I (j + 6) u (I (j + 6) v + c)) (j + 7) u (nI v) (j + 7) u).toNatClampNeg = _
      rw [u2_same, cv]
    · show (u2 (u2 I (j + 6) u (I (j + 6) v + c)) (j + 7) u (nI v) (j + 7) x).toNatClampNeg = _
      rw [u2_ne _ _ _ _ (by omega), u2_ne _ _ _ _ (by omega)]
  · by_cases y : x = u
    · rw [y, u2_same]
      exact nI_pos' (by omega)
    · rw [u2_ne _ _ _ _ (by omega), u2_ne _ _ _ _ (by omega)] at hd ⊢
      exact b3 x hx hd hz
  · rw [zlt, ea] at q2
    exact bJ_keep hE b2 hd0 he (Or.inr (Int.not_lt.mp q2)) hP
/-- edges by the first i arcs -/
def jPa (w : Nat → Nat → Int) (op : Nat → Prop) (m : Nat → Nat) (aT aH : Nat → Nat) (n : Nat) (a b : Nat) (k : Int) : Prop :=
  ∃ i, i < n ∧ ((aT i = a ∧ aH i = b ∧ op a ∧ ¬ m a = b ∧ k = w a b) ∨ (aH i = a ∧ aT i = b ∧ op b ∧ m b = a ∧ k = - w b a))
theorem c_relaxArcs {G : Gp} {Q : zPost} {S : zSh} {I0 I : zFI} {L : zFL} {j na z : Nat} {aT aH : Nat → Nat} {w : Nat → Nat → Int} {op : Nat → Prop} {m : Nat → Nat} {π d0 : Nat → Int} (hS : zStd S) (hj : zJn j) (hst : jSt I0 L j na aT aH w) (hm : jVal (jArc na aT aH) m) (hpt : jPt I0 j (jArc na aT aH) m) (hE : bOk (jE (jArc na aT aH) w op m) π) (hop : ∀ x, x < 48 → (zhas (L j 7) x ↔ ¬ op x)) (hd0 : ∀ u, u < 50 → d0 u ≤ 1000000)
    (hb : bS I0 I j (jE (jArc na aT aH) w op m) z d0 (fun _ _ _ => False) false) (h : ∀ I' f, bS I0 I' j (jE (jArc na aT aH) w op m) z d0 (jPa w op m aT aH na) f → Q (some (.int (bI f))) S I' L) : ZC G mX4_relaxArcs fX4_relaxArcs lX4_relaxArcs [zo G j] S I L 0 0 Q := by
  obtain ⟨s1, s2, s3, s4, s5⟩ := hst
  have key : ∀ (k i : Nat) (J : zFI) (f : Bool), i + k = na → bS I0 J j (jE (jArc na aT aH) w op m) z d0 (jPa w op m aT aH i) f → ZW G mX4_relaxArcs fX4_relaxArcs lX4_relaxArcs 4 [zo G j, .int (bI f), .int (nI i), .null, .null] [] S J L 0 0 Q := by
    intro k
    induction k with
    | zero =>
      intro i J f hi hJ
      have : i = na := by omega
      subst this
      refine vX4_relaxArcs_4 hS hj ⟨fun _ => ⟨bI_n f, h J f hJ⟩, fun hc => ?_⟩
      rw [hJ.1 j (by omega) (by omega), s1] at hc
      exact absurd (Int32.le_refl _) hc
    | succ k ih =>
      intro i J f hi hJ
      have ic : (nI i).toNatClampNeg = i := znIc (by omega)
      obtain ⟨a1, a2, a3⟩ := s3 i (by omega)
      have hF : jArc na aT aH (aT i) (aH i) := ⟨i, by omega, rfl, rfl⟩
      obtain ⟨t48, h48, w0, w3, -⟩ := s5 _ _ hF
      have e2 : J (j + 2) i = nI (aT i) := by rw [hJ.1 _ (by omega) (by omega)]; exact a1
      have e3 : J (j + 3) i = nI (aH i) := by rw [hJ.1 _ (by omega) (by omega)]; exact a2
      have e4 : (J (j + 4) i).toInt = w (aT i) (aH i) := by rw [hJ.1 _ (by omega) (by omega)]; exact a3
      have e5 : J (j + 5) (aT i) = I0 (j + 5) (aT i) := by rw [hJ.1 _ (by omega) (by omega)]
      have mt : (J (j + 5) (aT i) = nI (aH i)) ↔ m (aT i) = aH i := by
        rw [e5, (hpt _ t48).1 ⟨_, hF⟩]
        by_cases c : m (aT i) = 50
        · rw [if_pos c]
          refine ⟨fun q => ?_, fun q => by omega⟩
          rw [zeq, znI (by omega), show (-1 : Int32).toInt = -1 from rfl] at q
          omega
        · have := (s5 _ _ ((hm.1 _ t48).resolve_left c)).2.1
          rw [if_neg c]
          exact nI_eq (by omega) (by omega)
      have nx : ∀ (K : zFI) (g : Bool), bS I0 K j (jE (jArc na aT aH) w op m) z d0 (jPa w op m aT aH (i + 1)) g → ZW G mX4_relaxArcs fX4_relaxArcs lX4_relaxArcs 4 [zo G j, .int (bI g), .int (nI i + 1), .null, .null] [] S K L 0 0 Q := fun K g hK => by
        rw [nI_1]
        exact ih (i + 1) K g (by omega) hK
      have fl : ∀ (K : zFI) (g : Bool), bS I0 K j (jE (jArc na aT aH) w op m) z d0 (jPa w op m aT aH (i + 1)) g → (bI g = 0 → ZW G mX4_relaxArcs fX4_relaxArcs lX4_relaxArcs 4 [zo G j, .int 0, .int (nI i + 1), .null, .null] [] S K L 0 0 Q) ∧ (¬ bI g = 0 → ZW G mX4_relaxArcs fX4_relaxArcs lX4_relaxArcs 4 [zo G j, .int 1, .int (nI i + 1), .null, .null] [] S K L 0 0 Q) := fun K g hK => by
        have := nx K g hK
        cases g
        · exact ⟨fun _ => this, fun q => absurd rfl q⟩
        · exact ⟨fun q => absurd q (by decide), fun _ => this⟩
      refine vX4_relaxArcs_4 hS hj ⟨fun hc => ?_, fun _ => ?_⟩
      · rw [hJ.1 j (by omega) (by omega), s1] at hc
        exact absurd hc (nI_ge (by omega) (by omega))
      · rw [ic, e2, e3, pick_in t48 (by decide), has_iff (by omega), mt]
        refine ⟨fun no => absurd no (nI_ge (b := 576) (by omega) (by omega)), fun _ => ⟨znIin (by omega) (by decide), fun c => ⟨fun d => ?_, fun d => ?_⟩, fun c => ?_⟩⟩
        · have ho : op (aT i) := Classical.not_not.mp (fun q => c ⟨t48, (hop _ t48).mpr q⟩)
          refine c_relax (P' := jPa w op m aT aH (i + 1)) hS hj hE hd0 hJ (Or.inl ⟨hF, ho, d, e4⟩) ?_ (fun q => ⟨_, rfl, rfl, fun z => absurd rfl z, fun _ => fl J f q⟩) (fun K q => ⟨_, rfl, rfl, fun _ => nx K true q, fun z => absurd z (by decide)⟩)
          rintro a b k ⟨i', i1, i2⟩
          rcases (by omega : i' < i ∨ i' = i) with y | y
          · exact Or.inl ⟨i', y, i2⟩
          · subst y
            refine Or.inr ?_
            rcases i2 with ⟨y1, y2, y3, y4, y5⟩ | ⟨y1, y2, y3, y4, y5⟩
            · exact ⟨y1.symm, y2.symm, by rw [y5, e4, y1, y2]⟩
            · exact absurd (by rw [y2, y1]; exact y4) d
        · have ho : op (aT i) := Classical.not_not.mp (fun q => c ⟨t48, (hop _ t48).mpr q⟩)
          have e4n : (-J (j + 4) i).toInt = - w (aT i) (aH i) := by rw [zneg (by omega), e4]
          refine c_relax (P' := jPa w op m aT aH (i + 1)) hS hj hE hd0 hJ (Or.inr (Or.inl ⟨hF, ho, d, e4n⟩)) ?_ (fun q => ⟨_, rfl, rfl, fun z => absurd rfl z, fun _ => fl J f q⟩) (fun K q => ⟨_, rfl, rfl, fun _ => nx K true q, fun z => absurd z (by decide)⟩)
          rintro a b k ⟨i', i1, i2⟩
          rcases (by omega : i' < i ∨ i' = i) with y | y
          · exact Or.inl ⟨i', y, i2⟩
          · subst y
            refine Or.inr ?_
            rcases i2 with ⟨y1, y2, y3, y4, y5⟩ | ⟨y1, y2, y3, y4, y5⟩
            · exact absurd (by rw [← y1, ← y2]; exact d) y4
            · exact ⟨y1.symm, y2.symm, by rw [y5, e4n, y1, y2]⟩
        · have c := Classical.not_not.mp c
          refine nx J f (bS_mono hJ ?_)
          rintro a b k ⟨i', i1, i2⟩
          rcases (by omega : i' < i ∨ i' = i) with y | y
          · exact ⟨i', y, i2⟩
          · subst y
            exfalso
            have no := (hop _ t48).mp c.2
            rcases i2 with ⟨y1, y2, y3, y4, y5⟩ | ⟨y1, y2, y3, y4, y5⟩
            · exact no (y1 ▸ y3)
            · exact no (y2 ▸ y3)
  refine ZC.of' (vX4_relaxArcs_0 hS hj (key na 0 I false (by omega) (bS_mono hb ?_))) rfl (Nat.le_of_ble_eq_true rfl) rfl
  rintro a b k ⟨i', i1, -⟩
  exact absurd i1 (Nat.not_lt_zero _)
