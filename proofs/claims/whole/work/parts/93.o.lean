/-- Frames.addFrame -/
theorem c_addFrame {G : Gp} {Q : zPost} {S : zSh} {I : zFI} {L : zFL} {f g t : Nat} (hS : zStd S) (hf : zFm f) (hg : I f 0 = nI g) (hg8 : g < 8) (ht : t < 16)
    (h : ∀ I', (∀ b, b ≠ f → b ≠ f + 2 → b ≠ f + 3 → I' b = I b) → (∀ k, k ≠ 0 → I' f k = I f k) → I' f 0 = nI (g + 1) → I' (f + 3) g = zcm (I (f + 1)) t → (∀ k, k ≠ g → I' (f + 3) k = I (f + 3) k) → (∀ x, x < 16 → I' (f + 2) x = if zbb (zcm (I (f + 1)) t) x = true then nI g else I (f + 2) x) → Q none S I' L) : ZC G mX3_addFrame fX3_addFrame lX3_addFrame [zo G f, .int (nI t)] S I L 0 0 Q := by
  have ge16 : (16 : Int32) = nI 16 := rfl
  have last : ∀ (k x : Nat) (J : zFI), x + k = 16 → (∀ b, b ≠ f + 2 → J b = I b) → (∀ y, y < 16 → J (f + 2) y = if y < x ∧ zbb (zcm (I (f + 1)) t) y = true then nI g else I (f + 2) y) → ZW G mX3_addFrame fX3_addFrame lX3_addFrame 66 [zo G f, .int (nI t), .int (zcm (I (f + 1)) t), .int (nI x), .null] [] S J L 0 0 Q := by
    intro k
    induction k with
    | zero =>
      intro x J hx j1 j2
      have : x = 16 := by omega
      subst this
      have f0 : J f 0 = nI g := by rw [j1 f (by omega)]; exact hg
      refine vX3_addFrame_66 hS hf ⟨fun _ => ⟨?_, ?_⟩, fun hc => absurd (Int32.le_refl _) hc⟩
      · rw [f0]
        exact znIin hg8 (by omega)
      · rw [f0, znIc (by omega), u2_ne _ _ _ _ (show ¬ (f = f + 3 ∧ _) by omega), f0, nI_1]
        refine h _ (fun b b1 b2 b3 => ?_) (fun k hk => ?_) ?_ ?_ (fun k hk => ?_) (fun y hy => ?_)
        · rw [← u2_row _ _ _ _ b1, ← u2_row _ _ _ _ b3]
          exact j1 b b2
        · rw [u2_ne _ _ _ _ (fun q => hk q.2), u2_ne _ _ _ _ (by omega), j1 f (by omega)]
        · rw [u2_same]
        · rw [u2_ne _ _ _ _ (by omega), u2_same]
        · rw [u2_ne _ _ _ _ (by omega), u2_ne _ _ _ _ (fun q => hk q.2), j1 (f + 3) (by omega)]
        · rw [u2_ne _ _ _ _ (by omega), u2_ne _ _ _ _ (by omega), j2 y hy]
          by_cases c : zbb (zcm (I (f + 1)) t) y = true
          · rw [if_pos ⟨hy, c⟩, if_pos c]
          · rw [if_neg (fun q => c q.2), if_neg c]
    | succ k ih =>
      intro x J hx j1 j2
      refine vX3_addFrame_66 hS hf ⟨fun hc => absurd hc (nI_ge (b := 16) (by omega) (by omega)), fun _ => ⟨fun c => ?_, fun c => ⟨znIin (by omega) (by omega), ?_⟩⟩⟩
      · rw [nI_1]
        refine ih (x + 1) J (by omega) j1 (fun y hy => ?_)
        have c := fun q => c ((zb_test (by omega)).mpr (zbb_iff.mp q))
        rw [j2 y hy]
        by_cases e : y = x
        · subst e
          rw [if_neg (fun q => c q.2), if_neg (fun q => c q.2)]
        · by_cases d : y < x ∧ zbb (zcm (I (f + 1)) t) y = true
          · rw [if_pos d, if_pos ⟨by omega, d.2⟩]
          · rw [if_neg d, if_neg (fun q => d ⟨by omega, q.2⟩)]
      · rw [nI_1, znIc (by omega), j1 f (by omega), hg]
        have c := zbb_iff.mpr ((zb_test (by omega)).mp c)
        refine ih (x + 1) _ (by omega) (fun b hb => ?_) (fun y hy => ?_)
        · rw [← u2_row _ _ _ _ hb]
          exact j1 b hb
        · by_cases e : y = x
          · subst e
            rw [u2_same, if_pos ⟨by omega, c⟩]
          · rw [u2_ne _ _ _ _ (fun q => e q.2), j2 y hy]
            by_cases d : y < x ∧ zbb (zcm (I (f + 1)) t) y = true
            · rw [if_pos d, if_pos ⟨by omega, d.2⟩]
            · rw [if_neg d, if_neg (fun q => d ⟨by omega, q.2⟩)]
  have inner : ∀ (r : Nat), (ZW G mX3_addFrame fX3_addFrame lX3_addFrame 16 [zo G f, .int (nI t), .int (zrn (I (f + 1)) (r + 1) (zone t)), .int (nI (r + 1)), .null] [] S I L 0 0 Q) → r < 16 → ∀ (k x : Nat), x + k = 16 → ZW G mX3_addFrame fX3_addFrame lX3_addFrame 25 [zo G f, .int (nI t), .int (zps (I (f + 1)) x (zrn (I (f + 1)) r (zone t))), .int (nI r), .int (nI x)] [] S I L 0 0 Q := by
    intro r hr r16 k
    induction k with
    | zero =>
      intro x hx
      have : x = 16 := by omega
      subst this
      refine vX3_addFrame_25 hS hf ⟨fun _ => ?_, fun hc => absurd (Int32.le_refl _) hc⟩
      rw [nI_1]
      exact hr
    | succ k ih =>
      intro x hx
      have i1 := ih (x + 1) (by omega)
      refine vX3_addFrame_25 hS hf ⟨fun hc => absurd hc (nI_ge (b := 16) (by omega) (by omega)), fun _ => ⟨fun c => ?_, fun c => ⟨znIin (by omega) (by omega), ?_⟩⟩⟩
      · rw [zps_n (fun q => c ((zb_test (by omega)).mpr q))] at i1
        rw [nI_1]
        exact i1
      · rw [zps_y ((zb_test (by omega)).mp c)] at i1
        rw [nI_1, znIc (by omega)]
        exact i1
  have outer : ∀ (k r : Nat), r + k = 16 → ZW G mX3_addFrame fX3_addFrame lX3_addFrame 16 [zo G f, .int (nI t), .int (zrn (I (f + 1)) r (zone t)), .int (nI r), .null] [] S I L 0 0 Q := by
    intro k
    induction k with
    | zero =>
      intro r hr
      have : r = 16 := by omega
      subst this
      refine vX3_addFrame_16 hS hf ⟨fun _ => last 16 0 I (by omega) (fun _ _ => rfl) (fun y _ => ?_), fun hc => absurd (Int32.le_refl _) hc⟩
      rw [if_neg (fun q => absurd q.1 (Nat.not_lt_zero _))]
    | succ k ih =>
      intro r hr
      exact vX3_addFrame_16 hS hf ⟨fun hc => absurd hc (nI_ge (b := 16) (by omega) (by omega)), fun _ => inner r (ih (r + 1) (by omega)) (by omega) 16 0 (by omega)⟩
  refine ZC.of' (vX3_addFrame_0 hS hf ⟨fun _ => ?_, fun hc => ?_⟩) rfl (Nat.le_of_ble_eq_true rfl) rfl
  · exact outer 16 0 (by omega)
  · rw [hg] at hc
    exact absurd (by rw [zlt, znI (by omega)]; show (g : Int) < 8; omega) hc
/-- the pairs of frame g: paired tenons below m -/
def zpf (T P s : Nat → Int32) (fr : Nat → Int32) (g : Nat) (x : Nat) : Bool := decide (¬ P x = -1) && decide (s x = 0) && decide (fr (T x).toNatClampNeg = nI g)
theorem c_countPairs {G : Gp} {Q : zPost} {S : zSh} {I : zFI} {L : zFL} {f j : Nat} (hS : zStd S) (hf : zFm f) (hj : zJn j) (hP : zPrt (I 14) (I (j + 5))) (h0 : ∀ g, g < 8 → I (f + 4) g = 0) (hfr : ∀ a, a < 16 → I (f + 2) a = -1 ∨ ∃ g, g < 8 ∧ I (f + 2) a = nI g)
    (h : ∀ I', (∀ b, b ≠ f + 4 → I' b = I b) → (∀ g, g < 8 → I' (f + 4) g = nI (zcnt (zpf (I 14) (I (j + 5)) (I 16) (I (f + 2)) g) 48)) → Q none S I' L) : ZC G mX3_countPairs fX3_countPairs lX3_countPairs [zo G f, zo G j, zo G 10] S I L 0 0 Q := by
  have hf' : f = 44 ∨ f = 52 := hf
  have hj' : j = 27 ∨ j = 35 := hj
  have key : ∀ (k x : Nat) (J : zFI), x + k = 48 → (∀ b, b ≠ f + 4 → J b = I b) → (∀ g, g < 8 → J (f + 4) g = nI (zcnt (zpf (I 14) (I (j + 5)) (I 16) (I (f + 2)) g) x)) → ZW G mX3_countPairs fX3_countPairs lX3_countPairs 2 [zo G f, zo G j, zo G 10, .int (nI x), .null] [] S J L 0 0 Q := by
    intro k
    induction k with
    | zero =>
      intro x J hx j1 j2
      have : x = 48 := by omega
      subst this
      exact vX3_countPairs_2 hS hf hj ⟨fun _ => h J j1 j2, fun hc => absurd (Int32.le_refl _) hc⟩
    | succ k ih =>
      intro x J hx j1 j2
      have e1 : p_X4_partnerOf J j (nI x) = I (j + 5) x := by
        show p_X11_pick J (j + 5) 48 (nI x) = _
        rw [pick_in (by omega) (by omega), j1 (j + 5) (by omega)]
      have e2 : p_X10_sortOf J (nI x) = I 16 x := by
        show p_X11_pick J 16 48 (nI x) = _
        rw [pick_in (by omega) (by omega), j1 16 (by omega)]
      have e3 : p_X10_timberOf J (nI x) = I 14 x := by
        show p_X11_pick J 14 48 (nI x) = _
        rw [pick_in (by omega) (by omega), j1 14 (by omega)]
      have skip : (∀ g, g < 8 → ¬ zpf (I 14) (I (j + 5)) (I 16) (I (f + 2)) g x = true) → ZW G mX3_countPairs fX3_countPairs lX3_countPairs 2 [zo G f, zo G j, zo G 10, .int (nI x + 1), .null] [] S J L 0 0 Q := fun no => by
        rw [nI_1]
        refine ih (x + 1) J (by omega) j1 (fun g hg => ?_)
        rw [zcnt_succ, if_neg (no g hg)]
        exact j2 g hg
      refine vX3_countPairs_2 hS hf hj ⟨fun hc => absurd hc (nI_ge (b := 48) (by omega) (by omega)), fun _ => ?_⟩
      rw [e1, e2, e3]
      refine ⟨fun c => skip (fun g _ => ?_), fun p1 => ⟨fun c => skip (fun g _ => ?_), fun p2 => ?_⟩⟩
      · unfold zpf
        rw [decide_eq_false (fun q => q c)]
        exact Bool.noConfusion
      · unfold zpf
        rw [decide_eq_false c, Bool.and_false]
        exact Bool.noConfusion
      · obtain ⟨y, a, b, h1, h2, h3, h4, h5, h6, h7, h8⟩ := hP x (by omega) p1
        have e4 : p_X3_holding J f (I 14 x) = I (f + 2) a := by
          show p_X11_pick J (f + 2) 16 (I 14 x) = _
          rw [h6, pick_in h4 (by omega), j1 (f + 2) (by omega)]
        rw [e4]
        have pv : ∀ g, zpf (I 14) (I (j + 5)) (I 16) (I (f + 2)) g x = decide (I (f + 2) a = nI g) := fun g => by
          unfold zpf
          rw [decide_eq_true p1, decide_eq_true p2, h6, znIc (by omega)]
          rfl
        rcases hfr a h4 with q | ⟨g0, g1, q⟩
        · refine ⟨fun _ => skip (fun g hg => ?_), fun c => ?_⟩
          · rw [pv, q, decide_eq_false (fun y => nI_neg1 (show g < 2147483648 by omega) y.symm)]
            exact Bool.noConfusion
          · rw [q] at c
            exact absurd (by decide) c
        · rw [q]
          refine ⟨fun c => absurd c (nI_pos (by omega)), fun _ => ⟨fun c => absurd c (nI_ge (b := 8) g1 (by omega)), fun _ => ⟨znIin g1 (by omega), ?_⟩⟩⟩
          rw [nI_1, znIc (by omega), j2 g0 g1, nI_1]
          refine ih (x + 1) _ (by omega) (fun b hb => ?_) (fun g hg => ?_)
          · rw [← u2_row _ _ _ _ hb]
            exact j1 b hb
          · rw [zcnt_succ, pv, q]
            by_cases e : g = g0
            · rw [e, u2_same, if_pos (decide_eq_true rfl)]
            · rw [u2_ne _ _ _ _ (fun q => e q.2), if_neg (fun y => e (nI_same (by omega) (by omega) (of_decide_eq_true y)).symm)]
              exact j2 g hg
  exact ZC.of' (vX3_countPairs_0 hS hf hj (key 48 0 I (by omega) (fun _ _ => rfl) (fun g hg => by rw [h0 g hg]; rfl))) rfl (Nat.le_of_ble_eq_true rfl) rfl
