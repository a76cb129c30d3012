/-- what gather leaves in the frames f, for joints with timbers T, partners P and sorts s -/
def zGth (I : zFI) (f : Nat) (T P s : Nat → Int32) : Prop :=
  zMt T P 48 (I (f + 1)) ∧ I f 0 = nI (zcnt (zst (I (f + 1))) 16) ∧
  (∀ t, t < 16 → zst (I (f + 1)) t = true → I (f + 3) (zcnt (zst (I (f + 1))) t) = zcm (I (f + 1)) t ∧ ∀ x, x < 16 → zb (zcm (I (f + 1)) t) x → I (f + 2) x = nI (zcnt (zst (I (f + 1))) t)) ∧
  (∀ x, x < 16 → (∀ t, t < 16 → zst (I (f + 1)) t = true → ¬ zb (zcm (I (f + 1)) t) x) → I (f + 2) x = -1) ∧
  ∀ g, g < 8 → I (f + 4) g = nI (zcnt (zpf T P s (I (f + 2)) g) 48)
/-- frames below t are found -/
def zG0 (J : zFI) (mt : Nat → Int32) (f t : Nat) : Prop :=
  J f 0 = nI (zcnt (zst mt) t) ∧
  (∀ t', t' < t → zst mt t' = true → J (f + 3) (zcnt (zst mt) t') = zcm mt t' ∧ ∀ x, x < 16 → zb (zcm mt t') x → J (f + 2) x = nI (zcnt (zst mt) t')) ∧
  ∀ x, x < 16 → (∀ t', t' < t → zst mt t' = true → ¬ zb (zcm mt t') x) → J (f + 2) x = -1
theorem zcnt_up {p : Nat → Bool} {a b : Nat} (h : a ≤ b) : zcnt p a ≤ zcnt p b := by
  induction b with
  | zero => rw [show a = 0 by omega]; exact Nat.le_refl _
  | succ b ih =>
    rcases (by omega : a ≤ b ∨ a = b + 1) with c | c
    · have := ih c
      rw [zcnt_succ]
      split <;> omega
    · rw [c]
      exact Nat.le_refl _
theorem zG0_no {J : zFI} {mt : Nat → Int32} {f t : Nat} (h : zG0 J mt f t) (no : ¬ zst mt t = true) : zG0 J mt f (t + 1) := by
  obtain ⟨h1, h2, h3⟩ := h
  have ne : ∀ t', t' < t + 1 → zst mt t' = true → t' < t := fun t' a b => by
    rcases (by omega : t' < t ∨ t' = t) with c | c
    · exact c
    · rw [c] at b
      exact absurd b no
  refine ⟨?_, fun t' a b => h2 t' (ne t' a b) b, fun x hx q => h3 x hx (fun t' a b => q t' (by omega) b)⟩
  rw [zcnt_succ, if_neg no]
  exact h1
theorem zst_here {mt : Nat → Int32} {J : zFI} {f t : Nat} (h16 : ∀ a k, a < 16 → zb (mt a) k → k < 16) (hsym : ∀ a k, a < 16 → zb (mt a) k → zb (mt k) a) (ht : t < 16) (h : zG0 J mt f t) (hm : ¬ mt t = 0) : J (f + 2) t = -1 ↔ zst mt t = true := by
  obtain ⟨h1, h2, h3⟩ := h
  refine ⟨fun c => zst_iff.mpr ⟨hm, fun t' ht' hm' q => ?_⟩, fun c => h3 t ht (fun t' a b => (zst_iff.mp c).2 t' a (zst_iff.mp b).1)⟩
  obtain ⟨s, s1, s2, s3⟩ := zst_ex h16 hsym (show t' < 16 by omega) hm'
  have e := zcm_eq h16 hsym (show s < 16 by omega) (show t' < 16 by omega) s3
  rw [e] at q
  have := (h2 s (by omega) s2).2 t ht q
  rw [this] at c
  have := zcnt_le (zst mt) s
  exact nI_neg1 (by omega) c
/-- Frames.gather -/
theorem c_gather {G : Gp} {Q : zPost} {S : zSh} {I : zFI} {L : zFL} {f j : Nat} (hS : zStd S) (hf : zFm f) (hj : zJn j) (hP : zPrt (I 14) (I (j + 5)))
    (h : ∀ I', (∀ b, b < f ∨ f + 5 ≤ b → I' b = I b) → (∀ k, k ≠ 0 → k ≠ 5 → I' f k = I f k) → I' f 5 = 0 → zGth I' f (I 14) (I (j + 5)) (I 16) → Q none S I' L) : ZC G mX3_gather fX3_gather lX3_gather [zo G f, zo G j, zo G 10] S I L 0 0 Q := by
  have hf' : f = 44 ∨ f = 52 := hf
  have hj' : j = 27 ∨ j = 35 := hj
  have found : ∀ (K : zFI), (∀ b, b < f ∨ f + 5 ≤ b → K b = I b) → (∀ k, k ≠ 0 → k ≠ 5 → K f k = I f k) → K f 5 = 0 → (∀ g, g < 8 → K (f + 4) g = 0) → zMt (I 14) (I (j + 5)) 48 (K (f + 1)) → ∀ (k t : Nat) (J : zFI), t + k = 16 → (∀ b, b ≠ f → b ≠ f + 2 → b ≠ f + 3 → J b = K b) → (∀ k, k ≠ 0 → J f k = K f k) → zG0 J (K (f + 1)) f t → ZW G mX3_gather fX3_gather lX3_gather 98 [zo G f, zo G j, zo G 10, .int (nI t), .null, .null] [] S J L 0 0 Q := by
    intro K k1 k2 k3 k4 hM k
    have m16 := zMt_16 hP hM
    have mS := zMt_sym hP hM
    have mI := zMt_irr hP hM
    induction k with
    | zero =>
      intro t J ht j1 j2 j3
      have : t = 16 := by omega
      subst this
      obtain ⟨g1, g2, g3⟩ := j3
      have r14 : J 14 = I 14 := by rw [j1 14 (by omega) (by omega) (by omega), k1 14 (by omega)]
      have r16 : J 16 = I 16 := by rw [j1 16 (by omega) (by omega) (by omega), k1 16 (by omega)]
      have rP : J (j + 5) = I (j + 5) := by rw [j1 (j + 5) (by omega) (by omega) (by omega), k1 (j + 5) (by omega)]
      have r1 : J (f + 1) = K (f + 1) := j1 (f + 1) (by omega) (by omega) (by omega)
      refine vX3_gather_98 hS hf hj ⟨fun _ => c_countPairs hS hf hj (by rw [r14, rP]; exact hP) (fun g hg => ?_) (fun a ha => ?_) (fun I' i1 i2 => ⟨rfl, rfl, ?_⟩), fun hc => absurd (Int32.le_refl _) hc⟩
      · rw [j1 (f + 4) (by omega) (by omega) (by omega)]
        exact k4 g hg
      · by_cases c : ∃ t, t < 16 ∧ zst (K (f + 1)) t = true ∧ zb (zcm (K (f + 1)) t) a
        · obtain ⟨t, t1, t2, t3⟩ := c
          refine Or.inr ⟨zcnt (zst (K (f + 1))) t, ?_, (g2 t t1 t2).2 a ha t3⟩
          have e8 := zst_8 m16 mS mI (t + 1) (by omega)
          rw [zcnt_succ, if_pos t2] at e8
          omega
        · exact Or.inl (g3 a ha (fun t t1 t2 t3 => c ⟨t, t1, t2, t3⟩))
      · rw [r14, rP, r16] at i2
        have w : ∀ b, b ≠ f + 4 → I' b = J b := i1
        refine h I' (fun b hb => ?_) (fun k h0 h5 => ?_) ?_ ⟨?_, ?_, ?_, ?_, ?_⟩
        · rw [w b (by omega), j1 b (by omega) (by omega) (by omega), k1 b hb]
        · rw [w f (by omega), j2 k h0, k2 k h0 h5]
        · rw [w f (by omega), j2 5 (by omega), k3]
        · rw [w (f + 1) (by omega), r1]
          exact hM
        · rw [w f (by omega), w (f + 1) (by omega), r1]
          exact g1
        · rw [w (f + 1) (by omega), w (f + 2) (by omega), w (f + 3) (by omega), r1]
          exact g2
        · rw [w (f + 1) (by omega), w (f + 2) (by omega), r1]
          exact g3
        · rw [w (f + 2) (by omega)]
          exact i2
    | succ k ih =>
      intro t J ht j1 j2 j3
      have t16 : t < 16 := by omega
      have r1 : J (f + 1) = K (f + 1) := j1 (f + 1) (by omega) (by omega) (by omega)
      have tc : (nI t).toNatClampNeg = t := znIc (by omega)
      refine vX3_gather_98 hS hf hj ⟨fun hc => absurd hc (nI_ge (b := 16) t16 (by omega)), fun _ => ⟨znIin t16 (by omega), ?_⟩⟩
      rw [tc, r1, nI_1]
      refine ⟨fun c => ih (t + 1) J (by omega) j1 j2 (zG0_no j3 (fun q => (zst_iff.mp q).1 c)), fun c => ?_⟩
      have hh := zst_here m16 mS t16 j3 c
      refine ⟨fun d => ih (t + 1) J (by omega) j1 j2 (zG0_no j3 (fun q => d (hh.mpr q))), fun d => ?_⟩
      have st := hh.mp d
      obtain ⟨g1, g2, g3⟩ := j3
      have e8 := zst_8 m16 mS mI (t + 1) (by omega)
      rw [zcnt_succ, if_pos st] at e8
      refine c_addFrame hS hf g1 (by omega) t16 (fun I' i1 i2 i3 i4 i5 i6 => ⟨rfl, rfl, ?_⟩)
      rw [r1] at i4 i6
      have lower : ∀ t', t' < t → zst (K (f + 1)) t' = true → zcnt (zst (K (f + 1))) t' < zcnt (zst (K (f + 1))) t := fun t' a b => by
        have := zcnt_up (p := zst (K (f + 1))) (show t' + 1 ≤ t by omega)
        rw [zcnt_succ, if_pos b] at this
        omega
      refine ih (t + 1) I' (by omega) (fun b b1 b2 b3 => (i1 b b1 b2 b3).trans (j1 b b1 b2 b3)) (fun k hk => (i2 k hk).trans (j2 k hk)) ⟨?_, fun t' a b => ?_, fun x hx q => ?_⟩
      · rw [i3, zcnt_succ, if_pos st]
      · rcases (by omega : t' < t ∨ t' = t) with e | e
        · have old := g2 t' e b
          refine ⟨?_, fun x hx y => ?_⟩
          · rw [i5 _ (by have := lower t' e b; omega)]
            exact old.1
          · rw [i6 x hx, if_neg (fun z => ?_)]
            · exact old.2 x hx y
            · have := zst_one m16 mS (show t' < 16 by omega) t16 hx b st y (zbb_iff.mp z)
              omega
        · rw [e]
          refine ⟨i4, fun x hx y => ?_⟩
          rw [i6 x hx, if_pos (zbb_iff.mpr y)]
      · rw [i6 x hx, if_neg (fun z => q t (by omega) st (zbb_iff.mp z))]
        exact g3 x hx (fun t' a b => q t' (by omega) b)
  have mates : ∀ (K0 : zFI), (∀ b, b < f ∨ f + 5 ≤ b → K0 b = I b) → (∀ k, k ≠ 0 → k ≠ 5 → K0 f k = I f k) → K0 f 5 = 0 → K0 f 0 = 0 → (∀ a, a < 16 → K0 (f + 1) a = 0) → (∀ a, a < 16 → K0 (f + 2) a = -1) → (∀ g, g < 8 → K0 (f + 4) g = 0) → ∀ (k x : Nat) (J : zFI), x + k = 48 → (∀ b, b ≠ f + 1 → J b = K0 b) → zMt (I 14) (I (j + 5)) x (J (f + 1)) → ZW G mX3_gather fX3_gather lX3_gather 36 [zo G f, zo G j, zo G 10, .int (nI x), .null, .null] [] S J L 0 0 Q := by
    intro K0 k1 k2 k3 k0 km kf kp k
    induction k with
    | zero =>
      intro x J hx j1 j2
      have : x = 48 := by omega
      subst this
      refine vX3_gather_36 hS hf hj ⟨fun _ => found J (fun b hb => ?_) (fun k a b => ?_) ?_ (fun g hg => ?_) j2 16 0 J (by omega) (fun _ _ _ _ => rfl) (fun _ _ => rfl) ⟨?_, fun t' a => absurd a (Nat.not_lt_zero _), fun x hx _ => ?_⟩, fun hc => absurd (Int32.le_refl _) hc⟩
      · rw [j1 b (by omega)]
        exact k1 b hb
      · rw [j1 f (by omega)]
        exact k2 k a b
      · rw [j1 f (by omega)]
        exact k3
      · rw [j1 (f + 4) (by omega)]
        exact kp g hg
      · rw [j1 f (by omega), k0]
        rfl
      · rw [j1 (f + 2) (by omega)]
        exact kf x hx
    | succ k ih =>
      intro x J hx j1 j2
      have e1 : p_X4_partnerOf J j (nI x) = I (j + 5) x := by
        show p_X11_pick J (j + 5) 48 (nI x) = _
        rw [pick_in (by omega) (by omega), j1 (j + 5) (by omega), k1 (j + 5) (by omega)]
      have e3 : ∀ y, y < 48 → p_X10_timberOf J (nI y) = I 14 y := fun y hy => by
        show p_X11_pick J 14 48 (nI y) = _
        rw [pick_in hy (by omega), j1 14 (by omega), k1 14 (by omega)]
      refine vX3_gather_36 hS hf hj ⟨fun hc => absurd hc (nI_ge (b := 48) (by omega) (by omega)), fun _ => ?_⟩
      rw [e1, e3 x (by omega), nI_1]
      by_cases c : I (j + 5) x = -1
      · have s := ih (x + 1) J (by omega) j1 (zMt_skip j2 c)
        refine ⟨fun _ => s, fun _ => ⟨fun _ => s, fun d => ?_⟩⟩
        rw [c] at d
        have e : p_X10_timberOf J (-1) = -1 := pick_no
        rw [e] at d
        exact absurd zmb_no d
      · obtain ⟨y, a, b, h1, h2, h3, h4, h5, h6, h7, h8⟩ := hP x (by omega) c
        rw [h2, e3 y h1, h6, h7]
        refine ⟨fun d => absurd d (zmb_in h4), fun _ => ⟨fun d => absurd d (zmb_in h5), fun _ => ⟨znIin h4 (by omega), ?_⟩⟩⟩
        rw [znIc (by omega), zone_eq]
        refine ih (x + 1) _ (by omega) (fun b' hb => ?_) (zMt_take j2 h2 h1 h4 h5 h6 h7 ?_ (fun a' ha' => ?_))
        · rw [← u2_row _ _ _ _ hb]
          exact j1 b' hb
        · rw [u2_same]
        · rw [u2_ne _ _ _ _ (fun q => ha' q.2)]
  refine ZC.of' (vX3_gather_0 hS hf hj (c_fill hS (hS.hasF hf 1 (kd := (1, 16)) rfl rfl rfl) (by decide) (fun I1 a1 a2 => ⟨rfl, rfl, c_fill hS (hS.hasF hf 2 (kd := (1, 16)) rfl rfl rfl) (by decide) (fun I2 b1 b2 => ⟨rfl, rfl, c_fill hS (hS.hasF hf 4 (kd := (1, 8)) rfl rfl rfl) (by decide) (fun I3 c1 c2 => ⟨rfl, rfl, ?_⟩)⟩)⟩))) rfl (Nat.le_of_ble_eq_true rfl) rfl
  have w : ∀ b, b ≠ f + 1 → b ≠ f + 2 → b ≠ f + 4 → I3 b = (u2 (u2 I f 0 0) f 5 0) b := fun b h1 h2 h4 => by rw [c1 b h4, b1 b h2, a1 b h1]
  refine mates I3 (fun b hb => ?_) (fun k h0 h5 => ?_) ?_ ?_ (fun a ha => ?_) (fun a ha => ?_) c2 48 0 I3 (by omega) (fun _ _ => rfl) (zMt_zero (fun a ha => ?_))
  · rw [w b (by omega) (by omega) (by omega), ← u2_row _ _ _ _ (show b ≠ f by omega), ← u2_row _ _ _ _ (show b ≠ f by omega)]
  · rw [w f (by omega) (by omega) (by omega), u2_ne _ _ _ _ (fun q => h5 q.2), u2_ne _ _ _ _ (fun q => h0 q.2)]
  · rw [w f (by omega) (by omega) (by omega), u2_same]
  · rw [w f (by omega) (by omega) (by omega), u2_ne _ _ _ _ (by omega), u2_same]
  · rw [c1 (f + 1) (by omega), b1 (f + 1) (by omega)]
    exact a2 a ha
  · rw [c1 (f + 2) (by omega)]
    exact b2 a ha
  · rw [c1 (f + 1) (by omega), b1 (f + 1) (by omega)]
    exact a2 a ha
