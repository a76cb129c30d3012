theorem zcnt_nth {p : Nat → Bool} {f : Nat} : ∀ n, f < zcnt p n → ∃ t, t < n ∧ p t = true ∧ zcnt p t = f := by
  intro n
  induction n with
  | zero => intro h; exact absurd h (Nat.not_lt_zero _)
  | succ n ih =>
    intro h
    rw [zcnt_succ] at h
    by_cases c : p n = true
    · rw [if_pos c] at h
      rcases (by omega : f < zcnt p n ∨ f = zcnt p n) with d | d
      · obtain ⟨t, a, b⟩ := ih d
        exact ⟨t, by omega, b⟩
      · exact ⟨n, by omega, c, d.symm⟩
    · rw [if_neg c] at h
      obtain ⟨t, a, b⟩ := ih h
      exact ⟨t, by omega, b⟩
/-- what the frames rest on -/
theorem zJ2.pr {S : zSh} {I : zFI} {n jn mn tl ln on : Nat} {L : zFL} {c : Nat} (h : iAll S I n jn mn tl ln on) (hJ : zJ2 S I L (zsj I jn)) (hc : c ≤ 1) : zPrt (I 14) (I (27 + 8 * c + 5)) ∧ (∀ x, x < 48 → zsj I jn ≤ x → I (27 + 8 * c + 5) x = -1) ∧ zMt (I 14) (I (27 + 8 * c + 5)) 48 (I (44 + 8 * c + 1)) := by
  obtain ⟨hS, hNow, hTim, hJnt, hMrk, hShn, hTap, hFlt, hCus, hRng, hLea, hOut, hWrd⟩ := h
  have sl := zsj_le I jn
  obtain ⟨⟨⟨M0, g0⟩, f0⟩, ⟨⟨M1, g1⟩, f1⟩, -⟩ := hJ
  rcases (by omega : c = 0 ∨ c = 1) with e | e
  · rw [e]
    have := zPrt_of hTim hJnt hCus.1 sl g0.1.1.1 g0.2.1
    exact ⟨this.1, this.2, f0.1⟩
  · rw [e]
    have := zPrt_of hTim hJnt hCus.2 sl g1.1.1.1 g1.2.1
    exact ⟨this.1, this.2, f1.1⟩
/-- the frame that holds timber x -/
theorem zfr_of {I : zFI} {f x : Nat} {T P s : Nat → Int32} (h : zGth I f T P s) (hP : zPrt T P) (hx : x < 16) :
    (I (f + 2) x = -1 ∧ ∀ t, t < 16 → zst (I (f + 1)) t = true → ¬ zb (zcm (I (f + 1)) t) x) ∨ ∃ t, t < 16 ∧ zst (I (f + 1)) t = true ∧ zb (zcm (I (f + 1)) t) x ∧ I (f + 2) x = nI (zcnt (zst (I (f + 1))) t) ∧ ∀ t', t' < 16 → zst (I (f + 1)) t' = true → zb (zcm (I (f + 1)) t') x → t' = t := by
  obtain ⟨h1, h2, h3, h4, h5⟩ := h
  by_cases c : ∃ t, t < 16 ∧ zst (I (f + 1)) t = true ∧ zb (zcm (I (f + 1)) t) x
  · obtain ⟨t, a, b, d⟩ := c
    exact Or.inr ⟨t, a, b, d, (h3 t a b).2 x hx d, fun t' a' b' d' => zst_one (zMt_16 hP h1) (zMt_sym hP h1) a' a hx b' b d' d⟩
  · have no : ∀ t, t < 16 → zst (I (f + 1)) t = true → ¬ zb (zcm (I (f + 1)) t) x := fun t a b d => c ⟨t, a, b, d⟩
    exact Or.inl ⟨h4 x hx no, no⟩
theorem vp_tm {I : zFI} {n : Nat} {v2 : Int32} (h : iTim I n) : ¬ v2 < 0 → ¬ (u2 I 84 0 0) 84 3 ≤ v2 → vp_in v2 16 := fun a b => by
  have h16 := h.2.1
  have b : ¬ I 84 3 ≤ v2 := b
  refine zvin (m := 16) rfl (Int32.not_lt.mp a) ?_
  rw [h.2.2.1, Int32.not_le, zlt, znI (by omega)] at b
  rw [zlt, show (16 : Int32).toInt = 16 from rfl]
  omega
theorem op_frameOf {G : Gp} {S : zSh} {I : zFI} {L : zFL} {n jn mn tl ln on : Nat} {v1 v2 : Int32} (h : iAll S I n jn mn tl ln on) (hJ : I 0 16 = 0 → zJ2 S I L (zsj I jn)) : zOpI G mX11_frameOf fX11_frameOf lX11_frameOf mX12_frameOf fX12_frameOf lX12_frameOf [.int v1, .int v2] S I L 0 0 (fun S' I' L' => S' = S ∧ iAll S I' n jn mn tl ln on ∧ zAft S I L I' L' jn) := by
  have hA := h
  have T := (h.told (L := L) 0).1
  obtain ⟨hS, hNow, hTim, hJnt, hMrk, hShn, hTap, hFlt, hCus, hRng, hLea, hOut, hWrd⟩ := h
  have hn16 : n ≤ 16 := hTim.2.1
  have sl := zsn_le I n
  refine ZC.of' (vX11_frameOf_0 hS ⟨fun c1 => ⟨_, rfl, ?_⟩, fun c1 => c_isTimber hS hTim (fun x hx e2 => ⟨_, rfl, rfl, fun _ => ?_, fun q => absurd q (by decide)⟩) (fun c0 => ⟨_, rfl, rfl, fun q => absurd rfl q, fun _ => ⟨_, rfl, ?_⟩⟩)⟩) rfl (Nat.le_of_ble_eq_true rfl) rfl
  · exact ZC.of' (vX12_frameOf_0 hS ⟨fun _ => ⟨rfl, rfl, told_aft hA⟩, fun q => absurd (isIn_01.mpr (isCu_0.mp c1)) q⟩) rfl (Nat.le_of_ble_eq_true rfl) rfl
  · have cv := Classical.not_not.mp (fun q => c1 (isCu_0.mpr q))
    obtain ⟨c, hc, e1⟩ := of_01 cv
    refine c_fresh hA hJ (fun I1 L1 A w z a => ⟨rfl, rfl, cv, _, rfl, ?_⟩)
    have x16 : x < 16 := by omega
    have hold : p_X3_holding I1 (zgid v1) v2 = I1 (44 + 8 * c + 2) x := by
      rw [e1, zgid_c hc, e2]
      exact pick_in x16 (by omega)
    have T1 := (A.told (L := L1) 0).1
    have yes : ¬ p_X12_isTimber (u2 I1 84 0 0) v2 = 0 := fun q => by
      refine (mTim_0 T1.2.1 T1.2.2.1).mp q ?_
      rw [(zScrd.told I1 0).sn, w.sn, e2]
      exact ⟨nI_pos' (by omega), nI_lt hx (by omega)⟩
    rw [hold, e1]
    refine ZC.of' (vX12_frameOf_0 hS ⟨fun q => absurd (nI_01 hc) (isIn_01.mp q), fun _ => ⟨vp_tm A.2.2.1, fun _ => m_joinsTold A hc z (fun J wj m => ⟨rfl, rfl, ?_⟩), fun q => absurd q yes⟩⟩) rfl (Nat.le_of_ble_eq_true rfl) rfl
    obtain ⟨AJ, -, -⟩ := zScrd.all (L := L1) A wj
    refine m_framesOf AJ hc z wj m (fun K f1 f2 g _ => ⟨rfl, rfl, ?_⟩)
    have fin := a.scr A (wj.trans (zScrd.fr f1 f2))
    obtain ⟨pr1, pr2, pr3⟩ := z.pr A hc
    have cl := zfr_of (z.gth hc) pr1 x16
    have e8 := zst_8 (zMt_16 pr1 pr3) (zMt_sym pr1 pr3) (zMt_irr pr1 pr3) 16 (by omega)
    obtain ⟨g1, g2⟩ := g
    have key : ∀ (k f : Nat), f + k = zcnt (zst (I1 (44 + 8 * c + 1))) 16 → (∀ t, t < 16 → zst (I1 (44 + 8 * c + 1)) t = true → zb (zcm (I1 (44 + 8 * c + 1)) t) x → f ≤ zcnt (zst (I1 (44 + 8 * c + 1))) t) → ZW G mX12_frameOf fX12_frameOf lX12_frameOf 37 [zo G 84, .int (nI c), .int v2, .int (nI f)] [] S K L1 0 0 (fun v' S'' I'' L'' => v' = some (.int (I1 (44 + 8 * c + 2) x)) ∧ S'' = S ∧ iAll S I'' n jn mn tl ln on ∧ zAft S I L I'' L'' jn) := by
      intro k
      induction k with
      | zero =>
        intro f hf low
        refine vX12_frameOf_37 hS ⟨fun _ => ⟨?_, rfl, fin⟩, fun no => ?_⟩
        · rcases cl with ⟨c1, -⟩ | ⟨t, t1, t2, t3, t4, t5⟩
          · rw [c1]
          · have := low t t1 t2 t3
            have := zcnt_up (p := zst (I1 (44 + 8 * c + 1))) (show t + 1 ≤ 16 by omega)
            rw [zcnt_succ, if_pos t2] at this
            omega
        · rw [g1, show f = zcnt (zst (I1 (44 + 8 * c + 1))) 16 by omega] at no
          exact absurd (Int32.le_refl _) no
      | succ k ih =>
        intro f hf low
        obtain ⟨t, t1, t2, t3⟩ := zcnt_nth (p := zst (I1 (44 + 8 * c + 1))) (f := f) 16 (by omega)
        have e125 : K 125 f = zcm (I1 (44 + 8 * c + 1)) t := by
          have := g2 t t1 t2
          rw [t3] at this
          exact this
        refine vX12_frameOf_37 hS ⟨fun no => ?_, fun _ => ⟨znIin (by omega) (by omega), fun no => ?_, fun y => ⟨?_, rfl, fin⟩⟩⟩
        · rw [g1] at no
          exact absurd no (nI_ge (by omega) (by omega))
        · rw [nI_1]
          refine ih (f + 1) (by omega) (fun t' a' b' d' => ?_)
          have l := low t' a' b' d'
          have ne : ¬ zcnt (zst (I1 (44 + 8 * c + 1))) t' = f := fun q => by
            have : t' = t := by
              rcases Nat.lt_trichotomy t' t with y | y | y
              · have := zcnt_up (p := zst (I1 (44 + 8 * c + 1))) (show t' + 1 ≤ t by omega)
                rw [zcnt_succ, if_pos b'] at this
                omega
              · exact y
              · have := zcnt_up (p := zst (I1 (44 + 8 * c + 1))) (show t + 1 ≤ t' by omega)
                rw [zcnt_succ, if_pos t2] at this
                omega
            rw [this] at d'
            rw [znIc (by omega), e125, e2] at no
            exact no ((zb_test (by omega)).mpr d')
          omega
        · rw [znIc (by omega), e125, e2] at y
          have y := (zb_test (by omega)).mp y
          rcases cl with ⟨-, c2⟩ | ⟨t', t1', t2', t3', t4', t5'⟩
          · exact absurd y (c2 t t1 t2)
          · rw [t4', ← t5' t t1 t2 y, t3]
    exact key (zcnt (zst (I1 (44 + 8 * c + 1))) 16) 0 (by omega) (fun t _ _ _ => Nat.zero_le _)
  · refine ZC.of' (vX12_frameOf_0 hS ⟨fun _ => ⟨rfl, rfl, told_aft hA⟩, fun q => ⟨vp_tm hTim, fun y => ?_, fun _ => ⟨rfl, rfl, told_aft hA⟩⟩⟩) rfl (Nat.le_of_ble_eq_true rfl) rfl
    refine absurd ((mTim_0 T.2.1 T.2.2.1).mpr ?_) y
    rw [(zScrd.told I 0).sn]
    exact c0
