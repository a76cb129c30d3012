theorem m_findJoins2 {G : Gp} {S : zSh} {I : zFI} {L : zFL} {n jn mn tl ln : Nat} {Q : zPost} {c : Nat} (h : iMid S I n jn mn tl ln) (hc : c ≤ 1) (hJ : zJ2 S I L (zsj I jn)) (q : ∀ I', zJr I I' → zMj I L I' c (27 + 8 * c) jn → zMj I L I' 0 27 jn → Q none S I' L) : ZC G mX12_findJoins fX12_findJoins lX12_findJoins [zo G 84, .int (nI c)] S I L 0 0 Q := by
  have hA := h
  obtain ⟨hS, hNow, hTim, hJnt, hMrk, hShn, hTap, hFlt, hCus, hRng, hLea, hWrd⟩ := h
  have hj48 : jn ≤ 48 := hJnt.2.1
  have sjn := zsj_le I jn
  have hr0 := (hS.rl (x := 0) (Or.inl rfl)).2
  have hr1 := (hS.rl (x := 1) (Or.inr rfl)).2
  obtain ⟨⟨⟨M0, g0⟩, -⟩, ⟨⟨M1, g1⟩, -⟩, -⟩ := hJ
  refine ZC.of' (vX12_findJoins_0 hS (m_findJoin (c := 0) (dl := fun _ => True) hA hr0 (by omega) hCus.1 (fun x hx => ⟨fun y => absurd y (by decide), fun _ => trivial⟩) (fun I1 M r1 o1 b1 m1 => ⟨rfl, rfl, fun no => ?_, fun e => ?_⟩))) rfl (Nat.le_of_ble_eq_true rfl) rfl
  · have c0 : c = 0 := Classical.byContradiction (fun y => no (by rw [show c = 1 by omega]; rfl))
    rw [c0] at q
    have z0 := zMj_of hj48 (zF_ok hTim hJnt hCus.1 sjn) m1 b1 g0
    exact q I1 r1 z0 z0
  · have c1 : c = 1 := nI_same (by omega) (by omega) e
    have w1 := r1.scr
    have A1 := zScrd.mid hA w1
    have z0 := zMj_of hj48 (zF_ok hTim hJnt hCus.1 sjn) m1 b1 g0
    have A1' := A1
    obtain ⟨-, -, -, -, -, -, -, -, hCus1, -⟩ := A1'
    rw [c1] at q
    refine m_findJoin (c := 1) (dl := fun x => I 32 x = -1) A1 hr1 (by omega) hCus1.2 (fun x hx => ⟨fun _ => ?_, fun y => absurd y (by decide)⟩) (fun I2 M2 r2 o2 b2 m2 => ⟨rfl, rfl, ?_⟩)
    · rw [w1.sj] at hx
      have := z0.1 x (by omega)
      rw [show 48 * 0 + x = x by omega] at this
      rw [this]
    · rw [w1.sj, w1.F hr1, w1.w] at m2 b2
      refine q I2 (r1.trans r2) (zMj_of hj48 (zF_ok hTim hJnt hCus.2 sjn) m2 b2 g1) ?_
      obtain ⟨y1, y2⟩ := o2
      obtain ⟨z1, z2, z3, z4, z5⟩ := z0
      have e := fun x (hx : x < jn) => y1 (48 * 0 + x) (by omega)
      have e3 := y2 0 (by omega)
      exact ⟨fun x hx => by rw [(e x hx).1]; exact z1 x hx, by rw [e3.1]; exact z2, by rw [e3.2.1]; exact z3, by rw [e3.2.2]; exact z4, fun x hx hn => by rw [(e x hx).2]; exact z5 x hx hn⟩
theorem m_findJoins {G : Gp} {S : zSh} {I : zFI} {L : zFL} {n jn mn tl ln on : Nat} {Q : zPost} {c : Nat} (h : iAll S I n jn mn tl ln on) (hc : c ≤ 1) (hJ : zJ2 S I L (zsj I jn)) (q : ∀ I', zJr I I' → zMj I L I' c (27 + 8 * c) jn → Q none S I' L) : ZC G mX12_findJoins fX12_findJoins lX12_findJoins [zo G 84, .int (nI c)] S I L 0 0 Q := m_findJoins2 h.mid hc hJ (fun I' r m _ => q I' r m)
/-- behind a question about joins -/
def zAft (S : zSh) (I : zFI) (L : zFL) (I' : zFI) (L' : zFL) (jn : Nat) : Prop :=
  (zSameJ I L I' L' jn ∧ I' 0 16 = I 0 16) ∨ (I' 0 16 = 0 ∧ zJ2 S I' L' (zsj I' jn) ∧ I' 44 5 = 0 ∧ I' 52 5 = 0)
theorem zSameJ.refl (I : zFI) (L : zFL) (jn : Nat) : zSameJ I L I L jn := zSameJ.of_rows rfl (fun _ _ => rfl)
/-- refresh, and what it rests on -/
theorem c_fresh {G : Gp} {S : zSh} {I : zFI} {L : zFL} {n jn mn tl ln on : Nat} {Q : zPost} (h : iAll S I n jn mn tl ln on) (hJ : I 0 16 = 0 → zJ2 S I L (zsj I jn)) (q : ∀ I' L', iAll S I' n jn mn tl ln on → zJi I I' → zJ2 S I' L' (zsj I' jn) → zAft S I L I' L' jn → Q none S I' L') : ZC G mX11_refresh fX11_refresh lX11_refresh [zo G 0] S I L 0 0 Q := by
  refine c_refresh h (fun e => q I L h (zJi.refl I) (hJ e) (Or.inl ⟨zSameJ.refl I L jn, rfl⟩)) (fun I' L' w e z f1 f2 => ?_)
  have z' : zJ2 S I' L' (zsj I' jn) := by rw [w.sj]; exact z
  exact q I' L' (zJi.all h w) w z' (Or.inr ⟨e, z', f1, f2⟩)
theorem zGth.scr {I J : zFI} {f : Nat} {T P s : Nat → Int32} (h : zGth I f T P s) (w : zScrd I J) (hf : zFm f) : zGth J f T P s := h.fr (fun d hd => w.1 _ (fun q => by
  have : ∀ x, x ∈ zScr → 67 ≤ x := by decide
  have := this _ q
  have : f = 44 ∨ f = 52 := hf
  omega))
theorem zJo.scr {I J : zFI} {L : zFL} {j f r sj : Nat} {dl : Nat → Prop} (h : zJo I L j f r sj dl) (hr : zCu r) (w : zScrd I J) (hj : zJn j) (hf : zFm f) : zJo J L j f r sj dl := by
  have big : ∀ x, x ∈ zScr → 67 ≤ x := by decide
  have e : ∀ d, d ≤ 7 → J (j + d) = I (j + d) := fun d hd => w.1 _ (fun q => by
    have := big _ q
    have : j = 27 ∨ j = 35 := hj
    omega)
  obtain ⟨⟨m, h1⟩, h2⟩ := h
  refine ⟨⟨m, ?_⟩, ?_⟩
  · unfold zJb jPt at h1 ⊢
    rw [w.F hr, w.w, e 5 (by omega), show J j = I j from e 0 (by omega)]
    exact h1
  · rw [w.1 14 (by decide), w.1 16 (by decide), e 5 (by omega)]
    exact h2.scr w hf
theorem zJ2.scr {S : zSh} {I J : zFI} {L : zFL} {sj : Nat} (h : zJ2 S I L sj) (hS : zStd S) (w : zScrd I J) : zJ2 S J L sj := by
  obtain ⟨h1, h2, h3⟩ := h
  have e32 : J 32 = I 32 := w.1 32 (by decide)
  refine ⟨h1.scr (hS.rl (Or.inl rfl)).2 w (Or.inl rfl) (Or.inl rfl), ?_, fun x hx hs => ?_⟩
  · rw [e32]
    exact h2.scr (hS.rl (Or.inr rfl)).2 w (Or.inr rfl) (Or.inr rfl)
  · rw [e32, w.1 40 (by decide)]
    exact h3 x hx hs
theorem zAft.scr {S : zSh} {I I' J : zFI} {L L' : zFL} {n jn mn tl ln on : Nat} (h : zAft S I L I' L' jn) (hA : iAll S I' n jn mn tl ln on) (w : zScrd I' J) : iAll S J n jn mn tl ln on ∧ zAft S I L J L' jn := by
  obtain ⟨a, b, c⟩ := zScrd.all (L := L') hA w
  refine ⟨a, ?_⟩
  rcases h with ⟨h1, h2⟩ | ⟨h1, h2, h3, h4⟩
  · exact Or.inl ⟨h1.trans b, c.trans h2⟩
  · refine Or.inr ⟨c.trans h1, ?_, ?_, ?_⟩
    · rw [w.sj]
      exact h2.scr hA.1 w
    · rw [w.1 44 (by decide)]
      exact h3
    · rw [w.1 52 (by decide)]
      exact h4
