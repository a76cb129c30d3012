theorem zGth.fr {I J : zFI} {f : Nat} {T P s : Nat → Int32} (h : zGth I f T P s) (g : ∀ d, d ≤ 4 → J (f + d) = I (f + d)) : zGth J f T P s := by
  unfold zGth at h ⊢
  rw [g 1 (by omega), g 2 (by omega), g 3 (by omega), g 4 (by omega), show J f = I f from g 0 (by omega)]
  exact h
theorem zJo.fr {I J : zFI} {L M : zFL} {j f r sj : Nat} {dl : Nat → Prop} (h : zJo I L j f r sj dl) (hr : zCu r) (w : zJi I J) (e : ∀ d, d ≤ 7 → J (j + d) = I (j + d)) (g : ∀ d, d ≤ 4 → J (f + d) = I (f + d)) (l : M j = L j) : zJo J M j f r sj dl := by
  obtain ⟨⟨m, h1⟩, h2⟩ := h
  refine ⟨⟨m, ?_⟩, ?_⟩
  · unfold zJb jPt at h1 ⊢
    rw [w.F hr, w.w, e 5 (by omega), show J j = I j from e 0 (by omega), l]
    exact h1
  · rw [w.1 14 (by decide), w.1 16 (by decide), e 5 (by omega)]
    exact h2.fr g
/-- what the joins and their frames hold when they are not stale -/
def zJ2 (S : zSh) (I : zFI) (L : zFL) (sj : Nat) : Prop :=
  zJo I L 27 44 (zrl S 0) sj (fun _ => True) ∧ zJo I L 35 52 (zrl S 1) sj (fun x => I 32 x = -1) ∧ ∀ x, x < 48 → sj ≤ x → I 32 x = -1 ∧ I 40 x = -1
/-- FrameReader.refresh -/
theorem c_refresh {G : Gp} {S : zSh} {I : zFI} {L : zFL} {n jn mn tl ln on : Nat} {Q : zPost} (h : iAll S I n jn mn tl ln on) (q0 : I 0 16 = 0 → Q none S I L) (q1 : ∀ I' L', zJi I I' → I' 0 16 = 0 → zJ2 S I' L' (zsj I jn) → I' 44 5 = 0 → I' 52 5 = 0 → Q none S I' L') : ZC G mX11_refresh fX11_refresh lX11_refresh [zo G 0] S I L 0 0 Q := by
  have hA := h
  obtain ⟨hS, hNow, hTim, hJnt, hMrk, hShn, hTap, hFlt, hCus, hRng, hLea, hOut, hWrd⟩ := h
  have j27 : zJn 27 := Or.inl rfl
  have j35 : zJn 35 := Or.inr rfl
  refine ZC.of' (vX11_refresh_0 hS ⟨fun _ => ?_, q0⟩) rfl (Nat.le_of_ble_eq_true rfl) rfl
  have w0 : zJi I (u2 I 0 16 0) := ⟨fun b hb => (u2_row _ _ _ _ (fun q => hb (by rw [q]; decide))).symm, fun k hk => u2_ne _ _ _ _ (fun q => hk q.2)⟩
  have A0 := zJi.all hA w0
  have A0' := A0
  obtain ⟨-, -, -, hJnt0, -⟩ := A0'
  refine c_jointsSeen hS hJnt0 ⟨_, rfl, rfl, ?_⟩
  rw [w0.sj]
  refine c_begin hS j27 (fun I1 L1 r1 k1 p1 a1 a2 a3 l1 l5 l6 l7 l8 => ⟨rfl, rfl, ?_⟩)
  refine c_begin hS j35 (fun I2 L2 r2 k2 p2 b1 b2 b3 m1 m5 m6 m7 m8 => ⟨rfl, rfl, ?_⟩)
  have w1 : zJi (u2 I 0 16 0) I1 := zJi.of (fun b hb => r1 b (by omega) (by omega))
  have w2 : zJi I1 I2 := zJi.of (fun b hb => r2 b (by omega) (by omega))
  have W2 := (w0.trans w1).trans w2
  have A2 := zJi.all hA W2
  have z2 : I2 0 16 = 0 := by rw [r2 0 (by omega) (by omega), r1 0 (by omega) (by omega), u2_same]
  have hCu2 := A2.2.2.2.2.2.2.2.2.1
  have sj2 := W2.sj jn
  refine vX11_refresh_38 hS ⟨fun no => absurd no (by decide), fun _ => ⟨Or.inl rfl, ?_⟩⟩
  rw [← sj2]
  refine c_joinOf (j := 27) (f := 44) (r := zrl S 0) (cc := 0) (dl := fun _ => True) A2 (Or.inl rfl) rfl rfl (Or.inl rfl) rfl hCu2.1 (fun x hx => ?_) ?_ ?_ ?_ ?_ ?_ ?_ ?_ (fun x hx => ?_) (fun I3 L3 r3 l3 f3 g3 o3 => ?_)
  · rw [r2 32 (by omega) (by omega)]
    exact p1 x hx
  · rw [r2 27 (by omega) (by omega)]
    exact a1
  · rw [r2 27 (by omega) (by omega)]
    exact a2
  · rw [r2 27 (by omega) (by omega)]
    exact a3
  · rw [m1 27 (by omega)]
    exact l5
  · rw [m1 27 (by omega)]
    exact l6
  · rw [m1 27 (by omega)]
    exact l7
  · rw [m1 27 (by omega)]
    exact l8
  · have := A2.2.2.2.1.2.1
    have := zsj_le I2 jn
    rw [r2 32 (by omega) (by omega)]
    exact ⟨fun _ => trivial, fun _ => p1 x (by omega)⟩
  · have w3 : zJi I2 I3 := zJi.of (fun b hb => r3 b (by omega) (by omega))
    have A3 := zJi.all A2 w3
    have hCu3 := A3.2.2.2.2.2.2.2.2.1
    refine vX11_refresh_38 hS ⟨fun no => absurd no (by decide), fun _ => ⟨Or.inr rfl, ?_⟩⟩
    rw [← w3.sj]
    have x35 : I3 35 = I2 35 := r3 35 (by omega) (by omega)
    have x40 : I3 40 = I2 40 := r3 40 (by omega) (by omega)
    have y35 : L3 35 = L2 35 := l3 35 (by omega)
    refine c_joinOf (j := 35) (f := 52) (r := zrl S 1) (cc := 1) (dl := fun x => I3 32 x = -1) A3 (Or.inr rfl) rfl rfl (Or.inr rfl) rfl hCu3.2 (fun x hx => ?_) ?_ ?_ ?_ ?_ ?_ ?_ ?_ (fun x hx => Iff.rfl) (fun I4 L4 r4 l4 f4 g4 o4 => ?_)
    · rw [x40]
      exact p2 x hx
    · rw [x35]
      exact b1
    · rw [x35]
      exact b2
    · rw [x35]
      exact b3
    · rw [y35]
      exact m5
    · rw [y35]
      exact m6
    · rw [y35]
      exact m7
    · rw [y35]
      exact m8
    · have w4 : zJi I3 I4 := zJi.of (fun b hb => r4 b (by omega) (by omega))
      rw [w3.sj, sj2] at g4 o4
      rw [sj2] at g3 o3
      have r32 : I4 32 = I3 32 := r4 32 (by omega) (by omega)
      refine vX11_refresh_38 hS ⟨fun _ => q1 I4 L4 (W2.trans (w3.trans w4)) ?_ ⟨?_, ?_, fun x hx hs => ⟨?_, o4 x hx hs⟩⟩ ?_ f4, fun no => absurd (by decide) no⟩
      · rw [r4 0 (by omega) (by omega), r3 0 (by omega) (by omega)]
        exact z2
      · exact g3.fr (hS.rl (Or.inl rfl)).2 w4 (fun d hd => r4 _ (by omega) (by omega)) (fun d hd => r4 _ (by omega) (by omega)) (l4 27 (by omega))
      · rw [r32]
        exact g4
      · rw [r32]
        exact o3 x hx hs
      · rw [r4 44 (by omega) (by omega)]
        exact f3
