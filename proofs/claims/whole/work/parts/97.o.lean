/-- what refresh does for custom c: join cell j, frames f, rules r -/
theorem c_joinOf {G : Gp} {S : zSh} {I : zFI} {L : zFL} {n jn mn tl ln on : Nat} {Q : zPost} {j f r cc : Nat} {c : Int32} {dl : Nat → Prop} (h : iAll S I n jn mn tl ln on) (hc : c = 0 ∨ c = 1) (hjd : zjid c = j) (hgd : zgid c = f) (hf : zFm f) (hrd : zrl S c = r) (hCu : iCu1 I r cc)
    (b5 : ∀ x, x < 48 → I (j + 5) x = -1) (b4 : I j 4 = 0) (b12 : I j 12 = 0) (b13 : I j 13 = 0) (l5 : L j 5 = 0) (l6 : L j 6 = 0) (l7 : L j 7 = 0) (l8 : L j 8 = 0) (hdl : ∀ x, x < zsj I jn → (I 32 x = -1 ↔ dl x))
    (q : ∀ I' L', (∀ b, b < j ∨ j + 7 < b → b < f ∨ f + 4 < b → I' b = I b) → (∀ b, b < j ∨ j + 1 < b → L' b = L b) → I' f 5 = 0 → zJo I' L' j f r (zsj I jn) dl → (∀ x, x < 48 → zsj I jn ≤ x → I' (j + 5) x = -1) → ZW G mX11_refresh fX11_refresh lX11_refresh 38 [zo G 0, .int (nI (zsj I jn)), .int (c + 1), .null, .null] [] S I' L' 0 0 Q) :
    ZW G mX11_refresh fX11_refresh lX11_refresh 53 [zo G 0, .int (nI (zsj I jn)), .int c, zo G j, .int 0] [] S I L 0 0 Q := by
  have hA := h
  obtain ⟨hS, hNow, hTim, hJnt, hMrk, hShn, hTap, hFlt, hCus, hRng, hLea, hOut, hWrd⟩ := h
  have hj : zJn j := by rw [← hjd]; exact zjid_or c
  have hr : zCu r := by rw [← hrd]; exact (hS.rl hc).2
  have jr : j = 27 ∨ j = 35 := hj
  have fr : f = 44 ∨ f = 52 := hf
  have rr : r = 8 ∨ r = 9 ∨ r = 83 := hr
  have sjn := zsj_le I jn
  have hj48 : jn ≤ 48 := hJnt.2.1
  have key : ∀ (k x : Nat) (M : zFL), x + k = zsj I jn → (∀ b, b ≠ j + 1 → M b = L b) → (∀ y, y < x → M (j + 1) y = zNm I r (I 25 y)) → ZW G mX11_refresh fX11_refresh lX11_refresh 53 [zo G 0, .int (nI (zsj I jn)), .int c, zo G j, .int (nI x)] [] S I M 0 0 Q := by
    intro k
    induction k with
    | zero =>
      intro x M hx m1 m2
      have hx' : x = zsj I jn := by omega
      rw [hx'] at m2
      rw [hx', ← hjd]
      refine vX11_refresh_53 hS ⟨fun _ => ?_, fun no => absurd (Int32.le_refl _) no⟩
      rw [hjd, hgd]
      refine c_addFits (j := j) (r := r) (cc := cc) (n := n) (jn := jn) hS hc hjd hrd hTim hJnt hCu sjn m2 hdl b4 (by rw [m1 j (by omega)]; exact l5) (by rw [m1 j (by omega)]; exact l6) (fun I1 L1 na aT aH f1 s1 iff1 ord1 => ⟨rfl, rfl, ?_⟩)
      have eF : jArc na aT aH = zF I r (zsj I jn) dl := funext (fun t => funext (fun h => propext (iff1 t h)))
      obtain ⟨fa, fb, fc⟩ := f1
      have L1j : ∀ k, ¬ (k = 5 ∨ k = 6) → L1 j k = L j k := fun k hk => by rw [fc j k (fun y => hk y.2), m1 j (by omega)]
      refine c_fillJ hS hj s1 (fun x hx => by rw [fa (j + 5) (by omega) (by omega) (by omega) (by omega)]; exact b5 x hx) (by rw [L1j 7 (by omega)]; exact l7) (fun I2 m π v2 e2 g2 p2 r2 => ⟨rfl, rfl, ?_⟩)
      have s2 : jSt I2 L1 j na aT aH (zw I) := jSt_rows s1 (by rw [r2 j (by omega) (by omega) (by omega)]) (r2 _ (by omega) (by omega) (by omega)) (r2 _ (by omega) (by omega) (by omega)) (r2 _ (by omega) (by omega) (by omega)) rfl rfl
      refine c_chooseHoles hS hj s2 ord1 v2 p2 e2 g2 (by rw [L1j 7 (by omega)]; exact l7) (fun I3 L3 m3 b3 e3 p3 r3 q3 l3 => ⟨rfl, rfl, ?_⟩)
      have s3 : jSt I3 L3 j na aT aH (zw I) := jSt_rows s2 (by rw [r3 j (by omega) (by omega) (by omega)]) (r3 _ (by omega) (by omega) (by omega)) (r3 _ (by omega) (by omega) (by omega)) (r3 _ (by omega) (by omega) (by omega)) (q3 _ _ (by omega)) (q3 _ _ (by omega))
      refine c_findForced hS hj s3 ord1 b3.1.1 p3 e3 g2 l3 (by rw [q3 j 8 (by omega), L1j 8 (by omega)]; exact l8) ?_ ?_ (fun I4 L4 r4 c4 q4 z4 o4 h4 => ⟨rfl, rfl, hc, ?_⟩)
      · rw [r3 j (by omega) (by omega) (by omega), r2 j (by omega) (by omega) (by omega), fb 12 (by omega)]
        exact b12
      · rw [r3 j (by omega) (by omega) (by omega), r2 j (by omega) (by omega) (by omega), fb 13 (by omega)]
        exact b13
      have p4 : jPt I4 j (jArc na aT aH) m3 := jPt_rows p3 (r4 _ (by omega) (by omega) (by omega))
      have same4 : ∀ b, b < j ∨ j + 7 < b → I4 b = I b := fun b hb => by
        rw [r4 b (by omega) (by omega) (by omega), r3 b (by omega) (by omega) (by omega), r2 b (by omega) (by omega) (by omega), fa b (by omega) (by omega) (by omega) (by omega)]
      have L4s : ∀ b, b < j ∨ j + 1 < b → L4 b = L b := fun b hb => by
        funext k
        rw [q4 b k (by omega), q3 b k (by omega), fc b k (by omega), m1 b (by omega)]
      have w4 : zJi I I4 := zJi.of (fun b hb => same4 b (by omega))
      have hA4 := zJi.all hA w4
      obtain ⟨-, -, hTim4, hJnt4, -⟩ := hA4
      have hCu4 : iCu1 I4 r cc := by
        have e1 : I4 r = I r := w4.r hr
        have e2 : I4 105 = I 105 := w4.1 105 (by decide)
        unfold iCu1 at hCu ⊢
        rw [e1, e2]
        exact hCu
      rw [eF] at b3 p4 h4
      have pr := zPrt_of (I := I4) (r := r) (sj := zsj I jn) (dl := dl) (M := m3) hTim4 hJnt4 hCu4 sjn (by rw [w4.F hr]; exact b3.1.1) (by rw [w4.F hr]; exact p4)
      refine c_gather hS hf hj pr.1 (fun I5 r5 k5 z5 g5 => ⟨rfl, rfl, ?_⟩)
      have s5 : ∀ b, b < j ∨ j + 7 < b → b < f ∨ f + 4 < b → I5 b = I b := fun b h1 h2 => by rw [r5 b (by omega), same4 b h1]
      have w5 : zJi I I5 := zJi.of (fun b hb => s5 b (by omega) (by omega))
      have j5 : ∀ d, d ≤ 7 → I5 (j + d) = I4 (j + d) := fun d hd => r5 _ (by omega)
      refine q I5 L4 s5 L4s z5 ⟨⟨m3, ?_, ?_, ?_, ?_, ?_, ?_⟩, ?_⟩ (fun x hx hs => ?_)
      · rw [w5.F hr, w5.w]
        exact b3
      · rw [w5.F hr]
        exact jPt_rows p4 (j5 5 (by omega))
      · rw [show I5 j = I4 j from j5 0 (by omega)]
        exact z4
      · rw [show I5 j = I4 j from j5 0 (by omega), w5.w]
        exact o4
      · rw [w5.F hr, w5.w]
        exact h4
      · intro x hx
        have t3 := (s3.2.2.2.1 x hx).1
        rw [eF] at t3
        rw [q4 j 5 (by omega), w5.F hr]
        exact t3
      · rw [j5 5 (by omega), r5 14 (by omega), r5 16 (by omega)]
        exact g5
      · rw [j5 5 (by omega)]
        exact pr.2 x hx hs
    | succ k ih =>
      intro x M hx m1 m2
      have xc : (nI x).toNatClampNeg = x := znIc (by omega)
      have i1 := ih (x + 1) (u2 M (j + 1) x (zNm I r (I 25 x))) (by omega) (fun b hb => by rw [← u2_row _ _ _ _ hb]; exact m1 b hb) (fun y hy => by
        by_cases e : y = x
        · rw [e, u2_same]
        · rw [u2_ne _ _ _ _ (fun y => e y.2)]
          exact m2 y (by omega))
      rw [← hjd]
      refine vX11_refresh_53 hS ⟨fun no => absurd no (nI_ge (by omega) (by omega)), fun _ => ⟨hc, ?_⟩⟩
      rw [hjd, hrd]
      refine c_numbersOn hS hr hMrk hShn (by omega) ⟨_, rfl, rfl, ?_⟩
      refine ZC.of' (vX4_keepNumbers_0 hS hj ⟨fun no => absurd no (nI_pos (by omega)), fun _ => ⟨fun no => absurd no (nI_ge (b := 48) (by omega) (by omega)), fun _ => ⟨znIin (by omega) (by omega), rfl, rfl, ?_⟩⟩⟩) rfl (Nat.le_of_ble_eq_true rfl) rfl
      rw [xc, nI_1]
      exact i1
  exact key (zsj I jn) 0 L (by omega) (fun _ _ => rfl) (fun y hy => absurd hy (Nat.not_lt_zero _))
