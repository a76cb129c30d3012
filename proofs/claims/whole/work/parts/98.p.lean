theorem zScrd.F {I J : zFI} (w : zScrd I J) {r : Nat} (hr : zCu r) (sj : Nat) (dl : Nat → Prop) : zF J r sj dl = zF I r sj dl := by
  have e : J r = I r := w.1 r (by rcases hr with rfl | rfl | rfl <;> decide)
  unfold zF pT zFt
  funext t h
  rw [w.nm hr, w.nm hr, w.1 16 (by decide), w.1 25 (by decide), canFit_rows e (w.1 14 (by decide)) (w.1 17 (by decide)) (w.1 11 (by decide)) (w.1 22 (by decide)) (w.1 23 (by decide)) (w.1 25 (by decide))]
theorem zScrd.w {I J : zFI} (w : zScrd I J) : zw J = zw I := by
  unfold zw
  rw [w.1 17 (by decide)]
/-- the model's join c in J is the class's in cell j of I -/
def zMj (I : zFI) (L : zFL) (J : zFI) (c j jn : Nat) : Prop :=
  (∀ x, x < jn → J 119 (48 * c + x) = I (j + 5) x) ∧ J 121 c = I j 12 ∧ J 122 c = I j 13 ∧ J 123 c = nI (zcnt (fun k => (L j 8 &&& L j 5).toBitVec.getLsbD k) 64) ∧
  ∀ x, x < jn → ¬ I (j + 5) x = -1 → (J 120 (48 * c + x) = 0 ↔ ¬ zhas (L j 8) x)
theorem zMj_of {I J : zFI} {L : zFL} {c j jn : Nat} {F : Nat → Nat → Prop} {w : Nat → Nat → Int} {M M0 : Nat → Nat} (hjn : jn ≤ 48) (hok : jOk F w) (hm : mOut J c jn F w M) (hb : jBest F w M) (h0 : zJb I L j F w M0) : zMj I L J c j jn := by
  obtain ⟨b0, p0, z0, o0, f0, t0⟩ := h0
  obtain ⟨m1, m2, m3, m4, m5⟩ := hm
  have eM : ∀ t, t < 48 → M t = M0 t := j_unique hb b0
  have hv := hb.1.1
  have hv0 := b0.1.1
  have tie : ∀ t, t < 48 → (jTie F w M t ↔ jTie F w M0 t) := fun t ht => by
    unfold jTie
    rw [eM t ht]
  have noTn : ∀ t, t < 48 → ¬ M0 t = 50 → ¬ jTn F (M0 t) := fun t ht hn ⟨x, q⟩ => by
    have f := (hv0.1 t ht).resolve_left hn
    exact (hok _ _ f).2.2.2.2.1 x q
  have sz : jSz M = jSz M0 := by
    unfold jSz
    exact sm_congr (fun t ht => by rw [eM t ht])
  have co : jCo w M = jCo w M0 := by
    unfold jCo
    exact sm_congr (fun t ht => by rw [eM t ht])
  have bits : ∀ k, (L j 8 &&& L j 5).toBitVec.getLsbD k = true ↔ zhas (L j 8) k ∧ zhas (L j 5) k := fun k => by
    unfold zhas
    rw [Int64.toBitVec_and, BitVec.getLsbD_and, Bool.and_eq_true]
  refine ⟨fun x hx => ?_, ?_, ?_, ?_, fun x hx hn => ?_⟩
  · have x48 : x < 48 := by omega
    by_cases c1 : M x = 50
    · by_cases c2 : jFr M x
      · rw [m5 x hx c1 c2]
        have c3 : jFr M0 x := fun t ht q => c2 t ht (by rw [eM t ht]; exact q)
        by_cases a : jTn F x
        · rw [(p0 x x48).1 a, if_pos (by rw [← eM x x48]; exact c1)]
        · by_cases b : jHl F x
          · rw [((p0 x x48).2.1 b).1 c3]
          · rw [(p0 x x48).2.2 a b]
      · obtain ⟨t, g1⟩ := Classical.not_forall.mp c2
        obtain ⟨g2, g3⟩ := Classical.not_imp.mp g1
        have g3 := Classical.not_not.mp g3
        have f := (hv.1 t g2).resolve_left (by omega)
        rw [g3] at f
        have e := (m4 t g2 (by omega)).2.1
        rw [g3] at e
        rw [e, ((p0 x x48).2.1 ⟨t, f⟩).2 t g2 (by rw [← eM t g2]; exact g3)]
    · have f := (hv.1 x x48).resolve_left c1
      rw [(m4 x x48 c1).1, (p0 x x48).1 ⟨_, f⟩, if_neg (by rw [← eM x x48]; exact c1), eM x x48]
  · rw [zeq, m1, z0, sz]
  · rw [zeq, m2, o0, co]
  · have cnt : ∀ n, n ≤ 48 → sm (zti F w M) n = ((zcnt (fun k => (L j 8 &&& L j 5).toBitVec.getLsbD k) n : Nat) : Int) := by
      intro n
      induction n with
      | zero => intro _; rfl
      | succ n ih =>
        intro hn
        have n48 : n < 48 := by omega
        have i1 := ih (by omega)
        rw [sm_succ, zcnt_succ, i1]
        by_cases c1 : ¬ M n = 50 ∧ jTie F w M n
        · have f := (hv.1 n n48).resolve_left c1.1
          have b : (L j 8 &&& L j 5).toBitVec.getLsbD n = true := (bits n).mpr ⟨(f0 n (by omega)).mpr ⟨n, n48, by rw [← eM n n48]; exact c1.1, (tie n n48).mp c1.2, Or.inl rfl⟩, (t0 n n48).mpr ⟨_, f⟩⟩
          rw [zti_1 c1.1 c1.2, if_pos b]
          omega
        · have b : ¬ (L j 8 &&& L j 5).toBitVec.getLsbD n = true := fun q => by
            obtain ⟨q1, q2⟩ := (bits n).mp q
            obtain ⟨t, y1, y2, y3, y4⟩ := (f0 n (by omega)).mp q1
            have tn := (t0 n n48).mp q2
            rcases y4 with y4 | y4
            · rw [← y4] at y2 y3
              exact c1 ⟨by rw [eM n n48]; exact y2, (tie n n48).mpr y3⟩
            · rw [y4] at tn
              exact noTn t y1 y2 tn
          rw [zti_0 c1, if_neg b]
          omega
    have rest : ∀ d, d ≤ 16 → zcnt (fun k => (L j 8 &&& L j 5).toBitVec.getLsbD k) (48 + d) = zcnt (fun k => (L j 8 &&& L j 5).toBitVec.getLsbD k) 48 := by
      intro d
      induction d with
      | zero => intro _; rfl
      | succ d ih =>
        intro hd
        rw [← Nat.add_assoc, zcnt_succ, if_neg (fun q => ?_)]
        · exact ih (by omega)
        · obtain ⟨t, y1, y2, y3, y4⟩ := (f0 (48 + d) (by omega)).mp ((bits (48 + d)).mp q).1
          have f := (hok _ _ ((hv0.1 t y1).resolve_left y2)).2.1
          omega
    have e : zcnt (fun k => (L j 8 &&& L j 5).toBitVec.getLsbD k) 64 = zcnt (fun k => (L j 8 &&& L j 5).toBitVec.getLsbD k) 48 := rest 16 (Nat.le_refl _)
    have u := zcnt_le (fun k => (L j 8 &&& L j 5).toBitVec.getLsbD k) 48
    rw [zeq, m3, cnt 48 (Nat.le_refl _), e, znI (by omega)]
  · have x48 : x < 48 := by omega
    by_cases c1 : M x = 50
    · by_cases a : jTn F x
      · exact absurd ((p0 x x48).1 a) (by rw [if_pos (by rw [← eM x x48]; exact c1)]; exact hn)
      · by_cases b : jHl F x
        · by_cases g : jFr M0 x
          · exact absurd (((p0 x x48).2.1 b).1 g) hn
          · obtain ⟨t, g1⟩ := Classical.not_forall.mp g
            obtain ⟨g2, g3⟩ := Classical.not_imp.mp g1
            have g3 := Classical.not_not.mp g3
            have e := (m4 t g2 (by rw [eM t g2]; omega)).2.2.2
            rw [eM t g2, g3] at e
            rw [e, f0 x (by omega)]
            have key : (∃ t, t < 48 ∧ ¬ M0 t = 50 ∧ jTie F w M0 t ∧ (x = t ∨ x = M0 t)) ↔ jTie F w M t := by
              refine ⟨fun ⟨t', y1, y2, y3, y4⟩ => ?_, fun q => ⟨t, g2, by omega, (tie t g2).mp q, Or.inr g3.symm⟩⟩
              rcases y4 with y4 | y4
              · exact absurd ⟨_, by rw [y4]; exact (hv0.1 t' y1).resolve_left y2⟩ a
              · have := hv0.2 t t' g2 y1 (by omega) (by rw [g3, ← y4])
                rw [this]
                exact (tie t' y1).mpr y3
            rw [key]
            by_cases q : jTie F w M t
            · rw [zfl_1 q]
              exact ⟨fun y => absurd y (by decide), fun y => absurd q y⟩
            · rw [zfl_0 q]
              exact ⟨fun _ => q, fun _ => rfl⟩
        · exact absurd ((p0 x x48).2.2 a b) hn
    · rw [(m4 x x48 c1).2.2.1, f0 x (by omega)]
      have fx := (hv.1 x x48).resolve_left c1
      have key : (∃ t, t < 48 ∧ ¬ M0 t = 50 ∧ jTie F w M0 t ∧ (x = t ∨ x = M0 t)) ↔ jTie F w M x := by
        refine ⟨fun ⟨t', y1, y2, y3, y4⟩ => ?_, fun q => ⟨x, x48, by rw [← eM x x48]; exact c1, (tie x x48).mp q, Or.inl rfl⟩⟩
        rcases y4 with y4 | y4
        · rw [y4]
          exact (tie t' y1).mpr y3
        · exact absurd (show jTn F x from ⟨_, fx⟩) (by rw [y4]; exact noTn t' y1 y2)
      rw [key]
      by_cases q : jTie F w M x
      · rw [zfl_1 q]
        exact ⟨fun y => absurd y (by decide), fun y => absurd q y⟩
      · rw [zfl_0 q]
        exact ⟨fun _ => q, fun _ => rfl⟩
